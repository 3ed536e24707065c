theorem dX12_layWays_100 : decode cX12_layWays 100 = .ok (.iconst 0, 1) := by decide +kernel
theorem dX12_layWays_101 : decode cX12_layWays 101 = .ok (.iaload, 1) := by decide +kernel
theorem dX12_layWays_102 : decode cX12_layWays 102 = .ok (.iadd, 1) := by decide +kernel
theorem dX12_layWays_103 : decode cX12_layWays 103 = .ok (.iconst 0, 1) := by decide +kernel
theorem dX12_layWays_104 : decode cX12_layWays 104 = .ok (.iastore, 1) := by decide +kernel
theorem dX12_layWays_105 : decode cX12_layWays 105 = .ok (.aload_n 0, 1) := by decide +kernel
theorem dX12_layWays_106 : decode cX12_layWays 106 = .ok (.getfield 108, 3) := by decide +kernel
theorem dX12_layWays_109 : decode cX12_layWays 109 = .ok (.bipush 8, 2) := by decide +kernel
theorem dX12_layWays_111 : decode cX12_layWays 111 = .ok (.aload_n 0, 1) := by decide +kernel
theorem dX12_layWays_112 : decode cX12_layWays 112 = .ok (.getfield 72, 3) := by decide +kernel
theorem dX12_layWays_115 : decode cX12_layWays 115 = .ok (.iconst 0, 1) := by decide +kernel
theorem dX12_layWays_116 : decode cX12_layWays 116 = .ok (.iaload, 1) := by decide +kernel
theorem dX12_layWays_117 : decode cX12_layWays 117 = .ok (.aload_n 0, 1) := by decide +kernel
theorem dX12_layWays_118 : decode cX12_layWays 118 = .ok (.getfield 63, 3) := by decide +kernel
theorem dX12_layWays_121 : decode cX12_layWays 121 = .ok (.iconst 0, 1) := by decide +kernel
theorem dX12_layWays_122 : decode cX12_layWays 122 = .ok (.iaload, 1) := by decide +kernel
theorem dX12_layWays_123 : decode cX12_layWays 123 = .ok (.isub, 1) := by decide +kernel
theorem dX12_layWays_124 : decode cX12_layWays 124 = .ok (.imul, 1) := by decide +kernel
theorem dX12_layWays_125 : decode cX12_layWays 125 = .ok (.aload_n 0, 1) := by decide +kernel
theorem dX12_layWays_126 : decode cX12_layWays 126 = .ok (.getfield 69, 3) := by decide +kernel
theorem dX12_layWays_129 : decode cX12_layWays 129 = .ok (.iconst 0, 1) := by decide +kernel
theorem dX12_layWays_130 : decode cX12_layWays 130 = .ok (.iaload, 1) := by decide +kernel
theorem dX12_layWays_131 : decode cX12_layWays 131 = .ok (.iadd, 1) := by decide +kernel
theorem dX12_layWays_132 : decode cX12_layWays 132 = .ok (.iconst 0, 1) := by decide +kernel
theorem dX12_layWays_133 : decode cX12_layWays 133 = .ok (.iastore, 1) := by decide +kernel
theorem dX12_layWays_134 : decode cX12_layWays 134 = .ok (.iconst 0, 1) := by decide +kernel
theorem dX12_layWays_135 : decode cX12_layWays 135 = .ok (.istore_n 1, 1) := by decide +kernel
theorem dX12_layWays_136 : decode cX12_layWays 136 = .ok (.iload_n 1, 1) := by decide +kernel
theorem dX12_layWays_137 : decode cX12_layWays 137 = .ok (.bipush 60, 2) := by decide +kernel
theorem dX12_layWays_139 : decode cX12_layWays 139 = .ok (.if_icmp .gt 162, 3) := by decide +kernel
theorem dX12_layWays_142 : decode cX12_layWays 142 = .ok (.iconst 0, 1) := by decide +kernel
theorem dX12_layWays_143 : decode cX12_layWays 143 = .ok (.istore_n 2, 1) := by decide +kernel
theorem dX12_layWays_144 : decode cX12_layWays 144 = .ok (.iload_n 2, 1) := by decide +kernel
theorem dX12_layWays_145 : decode cX12_layWays 145 = .ok (.aload_n 0, 1) := by decide +kernel
theorem dX12_layWays_146 : decode cX12_layWays 146 = .ok (.getfield 13, 3) := by decide +kernel
theorem dX12_layWays_149 : decode cX12_layWays 149 = .ok (.iconst 0, 1) := by decide +kernel
theorem dX12_layWays_150 : decode cX12_layWays 150 = .ok (.iaload, 1) := by decide +kernel
theorem dX12_layWays_151 : decode cX12_layWays 151 = .ok (.if_icmp .ge 144, 3) := by decide +kernel
theorem dX12_layWays_154 : decode cX12_layWays 154 = .ok (.aload_n 0, 1) := by decide +kernel
theorem dX12_layWays_155 : decode cX12_layWays 155 = .ok (.getfield 108, 3) := by decide +kernel
theorem dX12_layWays_158 : decode cX12_layWays 158 = .ok (.bipush 8, 2) := by decide +kernel
theorem dX12_layWays_160 : decode cX12_layWays 160 = .ok (.iload_n 1, 1) := by decide +kernel
theorem dX12_layWays_161 : decode cX12_layWays 161 = .ok (.imul, 1) := by decide +kernel
theorem dX12_layWays_162 : decode cX12_layWays 162 = .ok (.iload_n 2, 1) := by decide +kernel
theorem dX12_layWays_163 : decode cX12_layWays 163 = .ok (.iadd, 1) := by decide +kernel
theorem dX12_layWays_164 : decode cX12_layWays 164 = .ok (.iaload, 1) := by decide +kernel
theorem dX12_layWays_165 : decode cX12_layWays 165 = .ok (.istore_n 3, 1) := by decide +kernel
theorem dX12_layWays_166 : decode cX12_layWays 166 = .ok (.iload_n 3, 1) := by decide +kernel
theorem dX12_layWays_167 : decode cX12_layWays 167 = .ok (.iconst (-1), 1) := by decide +kernel
theorem dX12_layWays_168 : decode cX12_layWays 168 = .ok (.if_icmp .ne 6, 3) := by decide +kernel
theorem dX12_layWays_171 : decode cX12_layWays 171 = .ok (.goto 118, 3) := by decide +kernel
theorem dX12_layWays_174 : decode cX12_layWays 174 = .ok (.aload_n 0, 1) := by decide +kernel
theorem dX12_layWays_175 : decode cX12_layWays 175 = .ok (.iconst 0, 1) := by decide +kernel
theorem dX12_layWays_176 : decode cX12_layWays 176 = .ok (.iload_n 2, 1) := by decide +kernel
theorem dX12_layWays_177 : decode cX12_layWays 177 = .ok (.aload_n 0, 1) := by decide +kernel
theorem dX12_layWays_178 : decode cX12_layWays 178 = .ok (.getfield 63, 3) := by decide +kernel
theorem dX12_layWays_181 : decode cX12_layWays 181 = .ok (.iconst 0, 1) := by decide +kernel
theorem dX12_layWays_182 : decode cX12_layWays 182 = .ok (.iaload, 1) := by decide +kernel
theorem dX12_layWays_183 : decode cX12_layWays 183 = .ok (.iload_n 1, 1) := by decide +kernel
theorem dX12_layWays_184 : decode cX12_layWays 184 = .ok (.iadd, 1) := by decide +kernel
theorem dX12_layWays_185 : decode cX12_layWays 185 = .ok (.iconst (-1), 1) := by decide +kernel
theorem dX12_layWays_186 : decode cX12_layWays 186 = .ok (.invokevirtual 427, 3) := by decide +kernel
theorem dX12_layWays_189 : decode cX12_layWays 189 = .ok (.ifCond .eq 33, 3) := by decide +kernel
theorem dX12_layWays_192 : decode cX12_layWays 192 = .ok (.aload_n 0, 1) := by decide +kernel
theorem dX12_layWays_193 : decode cX12_layWays 193 = .ok (.getfield 108, 3) := by decide +kernel
theorem dX12_layWays_196 : decode cX12_layWays 196 = .ok (.bipush 8, 2) := by decide +kernel
theorem dX12_layWays_198 : decode cX12_layWays 198 = .ok (.iload_n 1, 1) := by decide +kernel
theorem dX12_layWays_199 : decode cX12_layWays 199 = .ok (.iconst 1, 1) := by decide +kernel
theorem dX12_layWays_200 : decode cX12_layWays 200 = .ok (.iadd, 1) := by decide +kernel
theorem dX12_layWays_201 : decode cX12_layWays 201 = .ok (.imul, 1) := by decide +kernel
theorem dX12_layWays_202 : decode cX12_layWays 202 = .ok (.iload_n 2, 1) := by decide +kernel
theorem dX12_layWays_203 : decode cX12_layWays 203 = .ok (.iadd, 1) := by decide +kernel
theorem dX12_layWays_204 : decode cX12_layWays 204 = .ok (.aload_n 0, 1) := by decide +kernel
theorem dX12_layWays_205 : decode cX12_layWays 205 = .ok (.getfield 108, 3) := by decide +kernel
theorem dX12_layWays_208 : decode cX12_layWays 208 = .ok (.bipush 8, 2) := by decide +kernel
theorem dX12_layWays_210 : decode cX12_layWays 210 = .ok (.iload_n 1, 1) := by decide +kernel
theorem dX12_layWays_211 : decode cX12_layWays 211 = .ok (.iconst 1, 1) := by decide +kernel
theorem dX12_layWays_212 : decode cX12_layWays 212 = .ok (.iadd, 1) := by decide +kernel
theorem dX12_layWays_213 : decode cX12_layWays 213 = .ok (.imul, 1) := by decide +kernel
theorem dX12_layWays_214 : decode cX12_layWays 214 = .ok (.iload_n 2, 1) := by decide +kernel
theorem dX12_layWays_215 : decode cX12_layWays 215 = .ok (.iadd, 1) := by decide +kernel
theorem dX12_layWays_216 : decode cX12_layWays 216 = .ok (.iaload, 1) := by decide +kernel
theorem dX12_layWays_217 : decode cX12_layWays 217 = .ok (.iload_n 3, 1) := by decide +kernel
theorem dX12_layWays_218 : decode cX12_layWays 218 = .ok (.invokestatic 444, 3) := by decide +kernel
theorem dX12_layWays_221 : decode cX12_layWays 221 = .ok (.iastore, 1) := by decide +kernel
theorem dX12_layWays_222 : decode cX12_layWays 222 = .ok (.iconst 0, 1) := by decide +kernel
theorem dX12_layWays_223 : decode cX12_layWays 223 = .ok (.istore 4, 2) := by decide +kernel
theorem dX12_layWays_225 : decode cX12_layWays 225 = .ok (.iload 4, 2) := by decide +kernel
theorem dX12_layWays_227 : decode cX12_layWays 227 = .ok (.aload_n 0, 1) := by decide +kernel
theorem dX12_layWays_228 : decode cX12_layWays 228 = .ok (.getfield 13, 3) := by decide +kernel
theorem dX12_layWays_231 : decode cX12_layWays 231 = .ok (.iconst 0, 1) := by decide +kernel
theorem dX12_layWays_232 : decode cX12_layWays 232 = .ok (.iaload, 1) := by decide +kernel
theorem dX12_layWays_233 : decode cX12_layWays 233 = .ok (.if_icmp .ge 56, 3) := by decide +kernel
theorem dX12_layWays_236 : decode cX12_layWays 236 = .ok (.aload_n 0, 1) := by decide +kernel
theorem dX12_layWays_237 : decode cX12_layWays 237 = .ok (.iload_n 2, 1) := by decide +kernel
theorem dX12_layWays_238 : decode cX12_layWays 238 = .ok (.iload 4, 2) := by decide +kernel
theorem dX12_layWays_240 : decode cX12_layWays 240 = .ok (.invokevirtual 418, 3) := by decide +kernel
theorem dX12_layWays_243 : decode cX12_layWays 243 = .ok (.istore 5, 2) := by decide +kernel
theorem dX12_layWays_245 : decode cX12_layWays 245 = .ok (.iload 5, 2) := by decide +kernel
theorem dX12_layWays_247 : decode cX12_layWays 247 = .ok (.ifCond .le 36, 3) := by decide +kernel
theorem dX12_layWays_250 : decode cX12_layWays 250 = .ok (.iload 5, 2) := by decide +kernel
theorem dX12_layWays_252 : decode cX12_layWays 252 = .ok (.aload_n 0, 1) := by decide +kernel
theorem dX12_layWays_253 : decode cX12_layWays 253 = .ok (.getfield 13, 3) := by decide +kernel
theorem dX12_layWays_256 : decode cX12_layWays 256 = .ok (.iconst 5, 1) := by decide +kernel
theorem dX12_layWays_257 : decode cX12_layWays 257 = .ok (.iaload, 1) := by decide +kernel
theorem dX12_layWays_258 : decode cX12_layWays 258 = .ok (.if_icmp .gt 25, 3) := by decide +kernel
theorem dX12_layWays_261 : decode cX12_layWays 261 = .ok (.iload_n 1, 1) := by decide +kernel
theorem dX12_layWays_262 : decode cX12_layWays 262 = .ok (.iload 5, 2) := by decide +kernel
theorem dX12_layWays_264 : decode cX12_layWays 264 = .ok (.iadd, 1) := by decide +kernel
theorem dX12_layWays_265 : decode cX12_layWays 265 = .ok (.bipush 60, 2) := by decide +kernel
theorem dX12_layWays_267 : decode cX12_layWays 267 = .ok (.if_icmp .gt 16, 3) := by decide +kernel
theorem dX12_layWays_270 : decode cX12_layWays 270 = .ok (.aload_n 0, 1) := by decide +kernel
theorem dX12_layWays_271 : decode cX12_layWays 271 = .ok (.iload_n 1, 1) := by decide +kernel
theorem dX12_layWays_272 : decode cX12_layWays 272 = .ok (.iload 5, 2) := by decide +kernel
theorem dX12_layWays_274 : decode cX12_layWays 274 = .ok (.iadd, 1) := by decide +kernel
theorem dX12_layWays_275 : decode cX12_layWays 275 = .ok (.iload 4, 2) := by decide +kernel
theorem dX12_layWays_277 : decode cX12_layWays 277 = .ok (.iload_n 3, 1) := by decide +kernel
theorem dX12_layWays_278 : decode cX12_layWays 278 = .ok (.iconst 1, 1) := by decide +kernel
theorem dX12_layWays_279 : decode cX12_layWays 279 = .ok (.iadd, 1) := by decide +kernel
theorem dX12_layWays_280 : decode cX12_layWays 280 = .ok (.invokevirtual 447, 3) := by decide +kernel
theorem dX12_layWays_283 : decode cX12_layWays 283 = .ok (.iinc 4 1, 3) := by decide +kernel
theorem dX12_layWays_286 : decode cX12_layWays 286 = .ok (.goto (-61), 3) := by decide +kernel
theorem dX12_layWays_289 : decode cX12_layWays 289 = .ok (.iinc 2 1, 3) := by decide +kernel
theorem dX12_layWays_292 : decode cX12_layWays 292 = .ok (.goto (-148), 3) := by decide +kernel
theorem dX12_layWays_295 : decode cX12_layWays 295 = .ok (.iinc 1 1, 3) := by decide +kernel
theorem dX12_layWays_298 : decode cX12_layWays 298 = .ok (.goto (-162), 3) := by decide +kernel
theorem dX12_layWays_301 : decode cX12_layWays 301 = .ok (.return_, 1) := by decide +kernel
set_option maxRecDepth 20000 in
theorem ggX12_comesIn_X12_willHold : GoodIn wsX12_comesIn wsX12_willHold := goodIn_r _ [8, 9, 10, 11, 12, 13, 14, 7, 15, 16, 17, 18, 1, 19, 20, 21, 22, 23, 24, 25, 26, 27, 28, 29, 30, 31, 32, 33, 34, 35, 36, 37, 38, 39, 40, 41, 42, 43, 44, 45, 46, 47, 48, 49, 50, 51, 52, 53, 54, 55, 56, 57, 58, 59, 60, 61, 62, 63, 64, 65, 66, 67, 68, 69, 70, 71, 72, 73, 74, 75, 76, 77, 78, 79, 80, 81, 82, 83, 84, 85, 86, 87, 88, 89, 90, 91, 92, 93, 97, 98, 99, 100, 101, 102, 103, 104, 105, 106, 107, 108, 109, 110, 111, 112, 113, 114, 115, 116, 117, 118, 119, 120, 121, 122, 123, 124, 125, 126, 127, 128, 129, 130, 131, 132, 133, 134, 135, 136, 137, 138, 139, 140, 141, 142, 143, 144, 145, 146, 147, 148, 149, 150, 151, 152, 153, 154, 155, 156, 157, 158, 159, 160, 161, 162] rfl (by decide +kernel)
set_option maxRecDepth 20000 in
theorem gX12_comesIn_X12_willHold : GoodIn wsX12_comesIn (wsV RX12 427 RX12 yX12_willHold wsX12_willHold) := goodIn_app (goodIn_r _ [4, 5, 6, 7] rfl (by decide +kernel)) ggX12_comesIn_X12_willHold
set_option maxRecDepth 20000 in
theorem ggX12_comesIn_X12_fewer : GoodIn wsX12_comesIn wsX12_fewer := goodIn_r _ [96, 26, 27, 28, 29] rfl (by decide +kernel)
set_option maxRecDepth 20000 in
theorem gX12_comesIn_X12_fewer : GoodIn wsX12_comesIn (va_wsS RX12 444 yX12_fewer wsX12_fewer) := goodIn_app (goodIn_of _ (by decide +kernel)) ggX12_comesIn_X12_fewer
theorem dX12_comesIn_0 : decode cX12_comesIn 0 = .ok (.aload_n 0, 1) := by decide +kernel
theorem dX12_comesIn_1 : decode cX12_comesIn 1 = .ok (.iconst 0, 1) := by decide +kernel
theorem dX12_comesIn_2 : decode cX12_comesIn 2 = .ok (.iload_n 2, 1) := by decide +kernel
theorem dX12_comesIn_3 : decode cX12_comesIn 3 = .ok (.aload_n 0, 1) := by decide +kernel
theorem dX12_comesIn_4 : decode cX12_comesIn 4 = .ok (.getfield 63, 3) := by decide +kernel
theorem dX12_comesIn_7 : decode cX12_comesIn 7 = .ok (.iconst 0, 1) := by decide +kernel
theorem dX12_comesIn_8 : decode cX12_comesIn 8 = .ok (.iaload, 1) := by decide +kernel
theorem dX12_comesIn_9 : decode cX12_comesIn 9 = .ok (.iload_n 1, 1) := by decide +kernel
theorem dX12_comesIn_10 : decode cX12_comesIn 10 = .ok (.iadd, 1) := by decide +kernel
theorem dX12_comesIn_11 : decode cX12_comesIn 11 = .ok (.iconst (-1), 1) := by decide +kernel
theorem dX12_comesIn_12 : decode cX12_comesIn 12 = .ok (.invokevirtual 427, 3) := by decide +kernel
theorem dX12_comesIn_15 : decode cX12_comesIn 15 = .ok (.ifCond .ne 4, 3) := by decide +kernel
theorem dX12_comesIn_18 : decode cX12_comesIn 18 = .ok (.return_, 1) := by decide +kernel
theorem dX12_comesIn_19 : decode cX12_comesIn 19 = .ok (.aload_n 0, 1) := by decide +kernel
theorem dX12_comesIn_20 : decode cX12_comesIn 20 = .ok (.getfield 111, 3) := by decide +kernel
theorem dX12_comesIn_23 : decode cX12_comesIn 23 = .ok (.bipush 8, 2) := by decide +kernel
theorem dX12_comesIn_25 : decode cX12_comesIn 25 = .ok (.iload_n 1, 1) := by decide +kernel
theorem dX12_comesIn_26 : decode cX12_comesIn 26 = .ok (.imul, 1) := by decide +kernel
theorem dX12_comesIn_27 : decode cX12_comesIn 27 = .ok (.iload_n 2, 1) := by decide +kernel
theorem dX12_comesIn_28 : decode cX12_comesIn 28 = .ok (.iadd, 1) := by decide +kernel
theorem dX12_comesIn_29 : decode cX12_comesIn 29 = .ok (.aload_n 0, 1) := by decide +kernel
theorem dX12_comesIn_30 : decode cX12_comesIn 30 = .ok (.getfield 111, 3) := by decide +kernel
theorem dX12_comesIn_33 : decode cX12_comesIn 33 = .ok (.bipush 8, 2) := by decide +kernel
theorem dX12_comesIn_35 : decode cX12_comesIn 35 = .ok (.iload_n 1, 1) := by decide +kernel
theorem dX12_comesIn_36 : decode cX12_comesIn 36 = .ok (.imul, 1) := by decide +kernel
theorem dX12_comesIn_37 : decode cX12_comesIn 37 = .ok (.iload_n 2, 1) := by decide +kernel
theorem dX12_comesIn_38 : decode cX12_comesIn 38 = .ok (.iadd, 1) := by decide +kernel
theorem dX12_comesIn_39 : decode cX12_comesIn 39 = .ok (.iaload, 1) := by decide +kernel
theorem dX12_comesIn_40 : decode cX12_comesIn 40 = .ok (.iload_n 3, 1) := by decide +kernel
theorem dX12_comesIn_41 : decode cX12_comesIn 41 = .ok (.invokestatic 444, 3) := by decide +kernel
theorem dX12_comesIn_44 : decode cX12_comesIn 44 = .ok (.iastore, 1) := by decide +kernel
theorem dX12_comesIn_45 : decode cX12_comesIn 45 = .ok (.aload_n 0, 1) := by decide +kernel
theorem dX12_comesIn_46 : decode cX12_comesIn 46 = .ok (.getfield 108, 3) := by decide +kernel
theorem dX12_comesIn_49 : decode cX12_comesIn 49 = .ok (.bipush 8, 2) := by decide +kernel
theorem dX12_comesIn_51 : decode cX12_comesIn 51 = .ok (.iload_n 1, 1) := by decide +kernel
theorem dX12_comesIn_52 : decode cX12_comesIn 52 = .ok (.iconst 1, 1) := by decide +kernel
theorem dX12_comesIn_53 : decode cX12_comesIn 53 = .ok (.iadd, 1) := by decide +kernel
theorem dX12_comesIn_54 : decode cX12_comesIn 54 = .ok (.imul, 1) := by decide +kernel
theorem dX12_comesIn_55 : decode cX12_comesIn 55 = .ok (.iload_n 2, 1) := by decide +kernel
theorem dX12_comesIn_56 : decode cX12_comesIn 56 = .ok (.iadd, 1) := by decide +kernel
theorem dX12_comesIn_57 : decode cX12_comesIn 57 = .ok (.aload_n 0, 1) := by decide +kernel
theorem dX12_comesIn_58 : decode cX12_comesIn 58 = .ok (.getfield 108, 3) := by decide +kernel
theorem dX12_comesIn_61 : decode cX12_comesIn 61 = .ok (.bipush 8, 2) := by decide +kernel
theorem dX12_comesIn_63 : decode cX12_comesIn 63 = .ok (.iload_n 1, 1) := by decide +kernel
theorem dX12_comesIn_64 : decode cX12_comesIn 64 = .ok (.iconst 1, 1) := by decide +kernel
theorem dX12_comesIn_65 : decode cX12_comesIn 65 = .ok (.iadd, 1) := by decide +kernel
theorem dX12_comesIn_66 : decode cX12_comesIn 66 = .ok (.imul, 1) := by decide +kernel
theorem dX12_comesIn_67 : decode cX12_comesIn 67 = .ok (.iload_n 2, 1) := by decide +kernel
theorem dX12_comesIn_68 : decode cX12_comesIn 68 = .ok (.iadd, 1) := by decide +kernel
theorem dX12_comesIn_69 : decode cX12_comesIn 69 = .ok (.iaload, 1) := by decide +kernel
theorem dX12_comesIn_70 : decode cX12_comesIn 70 = .ok (.iload_n 3, 1) := by decide +kernel
theorem dX12_comesIn_71 : decode cX12_comesIn 71 = .ok (.invokestatic 444, 3) := by decide +kernel
theorem dX12_comesIn_74 : decode cX12_comesIn 74 = .ok (.iastore, 1) := by decide +kernel
theorem dX12_comesIn_75 : decode cX12_comesIn 75 = .ok (.return_, 1) := by decide +kernel
theorem dX12_firstDay_0 : decode cX12_firstDay 0 = .ok (.iconst 0, 1) := by decide +kernel
theorem dX12_firstDay_1 : decode cX12_firstDay 1 = .ok (.istore_n 2, 1) := by decide +kernel
theorem dX12_firstDay_2 : decode cX12_firstDay 2 = .ok (.iload_n 2, 1) := by decide +kernel
theorem dX12_firstDay_3 : decode cX12_firstDay 3 = .ok (.bipush 60, 2) := by decide +kernel
theorem dX12_firstDay_5 : decode cX12_firstDay 5 = .ok (.if_icmp .gt 26, 3) := by decide +kernel
theorem dX12_firstDay_8 : decode cX12_firstDay 8 = .ok (.aload_n 0, 1) := by decide +kernel
theorem dX12_firstDay_9 : decode cX12_firstDay 9 = .ok (.getfield 111, 3) := by decide +kernel
theorem dX12_firstDay_12 : decode cX12_firstDay 12 = .ok (.bipush 8, 2) := by decide +kernel
theorem dX12_firstDay_14 : decode cX12_firstDay 14 = .ok (.iload_n 2, 1) := by decide +kernel
theorem dX12_firstDay_15 : decode cX12_firstDay 15 = .ok (.imul, 1) := by decide +kernel
theorem dX12_firstDay_16 : decode cX12_firstDay 16 = .ok (.iload_n 1, 1) := by decide +kernel
theorem dX12_firstDay_17 : decode cX12_firstDay 17 = .ok (.iadd, 1) := by decide +kernel
theorem dX12_firstDay_18 : decode cX12_firstDay 18 = .ok (.iaload, 1) := by decide +kernel
theorem dX12_firstDay_19 : decode cX12_firstDay 19 = .ok (.iconst (-1), 1) := by decide +kernel
theorem dX12_firstDay_20 : decode cX12_firstDay 20 = .ok (.if_icmp .eq 5, 3) := by decide +kernel
theorem dX12_firstDay_23 : decode cX12_firstDay 23 = .ok (.iload_n 2, 1) := by decide +kernel
theorem dX12_firstDay_24 : decode cX12_firstDay 24 = .ok (.ireturn, 1) := by decide +kernel
theorem dX12_firstDay_25 : decode cX12_firstDay 25 = .ok (.iinc 2 1, 3) := by decide +kernel
theorem dX12_firstDay_28 : decode cX12_firstDay 28 = .ok (.goto (-26), 3) := by decide +kernel
theorem dX12_firstDay_31 : decode cX12_firstDay 31 = .ok (.iconst (-1), 1) := by decide +kernel
theorem dX12_firstDay_32 : decode cX12_firstDay 32 = .ok (.ireturn, 1) := by decide +kernel
set_option maxRecDepth 20000 in
theorem ggX12_way_X12_isBay : GoodIn wsX12_way wsX12_isBay := goodIn_r _ [8, 9, 124, 125, 126, 127, 128, 129, 130, 131, 132, 133, 134, 135, 136, 137, 138, 139, 140, 141, 142, 143, 144, 145, 146, 147, 148, 149, 150, 151, 152, 153, 154, 155, 156, 157, 158, 159, 160, 161, 162, 163, 164, 165, 166, 167, 168, 169, 170, 171, 172, 173, 174, 175, 176, 177, 178, 179, 180, 181, 182, 183, 184, 185, 186, 187, 188, 189] rfl (by decide +kernel)
set_option maxRecDepth 20000 in
theorem gX12_way_X12_isBay : GoodIn wsX12_way (wsV RX12 415 RX12 yX12_isBay wsX12_isBay) := goodIn_app (goodIn_r _ [4, 5, 6, 7] rfl (by decide +kernel)) ggX12_way_X12_isBay
set_option maxRecDepth 20000 in
theorem ggX12_way_X12_layWays : GoodIn wsX12_way wsX12_layWays := goodIn_r _ [13, 14, 3, 9, 15, 16, 17, 2, 18, 19, 20, 7, 21, 22, 23, 24, 25, 26, 27, 28, 29, 30, 31, 32, 33, 34, 35, 36, 37, 38, 39, 40, 41, 42, 43, 44, 45, 46, 47, 48, 49, 50, 51, 52, 53, 54, 55, 56, 57, 58, 59, 60, 61, 62, 63, 64, 65, 66, 67, 68, 69, 70, 71, 72, 73, 74, 75, 76, 77, 78, 79, 80, 81, 82, 83, 84, 85, 86, 87, 88, 89, 90, 91, 92, 93, 94, 95, 96, 97, 98, 99, 100, 101, 102, 103, 104, 105, 106, 107, 108, 109, 110, 111, 112, 113, 114, 115, 116, 117, 118, 119, 124, 125, 126, 127, 128, 129, 130, 131, 132, 133, 134, 135, 136, 137, 138, 139, 140, 141, 142, 143, 144, 145, 146, 147, 148, 149, 150, 151, 152, 153, 154, 155, 156, 157, 158, 159, 160, 161, 162, 163, 164, 165, 166, 167, 168, 169, 170, 171, 172, 173, 174, 175, 176, 177, 178, 179, 180, 181, 182, 183, 184, 185, 186, 187, 188, 189] rfl (by decide +kernel)
set_option maxRecDepth 20000 in
theorem gX12_way_X12_layWays : GoodIn wsX12_way (wsV RX12 450 RX12 yX12_layWays wsX12_layWays) := goodIn_app (goodIn_r _ [10, 11, 12, 7] rfl (by decide +kernel)) ggX12_way_X12_layWays
set_option maxRecDepth 20000 in
theorem ggX12_way_X12_firstDay : GoodIn wsX12_way wsX12_firstDay := goodIn_r _ [123, 3, 124, 125, 126, 127, 128, 129, 130, 131, 132, 133, 134, 135, 136, 137, 138, 139, 140, 141, 142, 143, 144, 145, 146, 147, 148, 149, 150, 151, 152, 153, 154, 155, 156, 157, 158, 159, 160, 161, 162, 163, 164, 165, 166, 167, 168, 169, 170, 171, 172, 173, 174, 175, 176, 177, 178, 179, 180, 181, 182, 183, 184, 185, 186, 187, 188, 189] rfl (by decide +kernel)
set_option maxRecDepth 20000 in
theorem gX12_way_X12_firstDay : GoodIn wsX12_way (wsV RX12 453 RX12 yX12_firstDay wsX12_firstDay) := goodIn_app (goodIn_r _ [120, 121, 122, 7] rfl (by decide +kernel)) ggX12_way_X12_firstDay
theorem dX12_way_0 : decode cX12_way 0 = .ok (.aload_n 0, 1) := by decide +kernel
theorem dX12_way_1 : decode cX12_way 1 = .ok (.iconst 0, 1) := by decide +kernel
theorem dX12_way_2 : decode cX12_way 2 = .ok (.putfield 145, 3) := by decide +kernel
theorem dX12_way_5 : decode cX12_way 5 = .ok (.aload_n 0, 1) := by decide +kernel
theorem dX12_way_6 : decode cX12_way 6 = .ok (.iload_n 1, 1) := by decide +kernel
theorem dX12_way_7 : decode cX12_way 7 = .ok (.invokevirtual 415, 3) := by decide +kernel
theorem dX12_way_10 : decode cX12_way 10 = .ok (.ifCond .eq 12, 3) := by decide +kernel
theorem dX12_way_13 : decode cX12_way 13 = .ok (.iload_n 2, 1) := by decide +kernel
theorem dX12_way_14 : decode cX12_way 14 = .ok (.ifCond .lt 8, 3) := by decide +kernel
theorem dX12_way_17 : decode cX12_way 17 = .ok (.iload_n 2, 1) := by decide +kernel
theorem dX12_way_18 : decode cX12_way 18 = .ok (.iconst 1, 1) := by decide +kernel
theorem dX12_way_19 : decode cX12_way 19 = .ok (.if_icmp .le 5, 3) := by decide +kernel
theorem dX12_way_22 : decode cX12_way 22 = .ok (.iconst (-1), 1) := by decide +kernel
theorem dX12_way_23 : decode cX12_way 23 = .ok (.ireturn, 1) := by decide +kernel
theorem dX12_way_24 : decode cX12_way 24 = .ok (.aload_n 0, 1) := by decide +kernel
theorem dX12_way_25 : decode cX12_way 25 = .ok (.invokevirtual 450, 3) := by decide +kernel
theorem dX12_way_28 : decode cX12_way 28 = .ok (.aload_n 0, 1) := by decide +kernel
theorem dX12_way_29 : decode cX12_way 29 = .ok (.iload_n 1, 1) := by decide +kernel
theorem dX12_way_30 : decode cX12_way 30 = .ok (.invokevirtual 453, 3) := by decide +kernel
theorem dX12_way_33 : decode cX12_way 33 = .ok (.istore_n 3, 1) := by decide +kernel
theorem dX12_way_34 : decode cX12_way 34 = .ok (.iload_n 3, 1) := by decide +kernel
theorem dX12_way_35 : decode cX12_way 35 = .ok (.iconst (-1), 1) := by decide +kernel
theorem dX12_way_36 : decode cX12_way 36 = .ok (.if_icmp .ne 8, 3) := by decide +kernel
theorem dX12_way_39 : decode cX12_way 39 = .ok (.bipush (-2), 2) := by decide +kernel
theorem dX12_way_41 : decode cX12_way 41 = .ok (.goto 29, 3) := by decide +kernel
theorem dX12_way_44 : decode cX12_way 44 = .ok (.iload_n 2, 1) := by decide +kernel
theorem dX12_way_45 : decode cX12_way 45 = .ok (.ifCond .ne 14, 3) := by decide +kernel
theorem dX12_way_48 : decode cX12_way 48 = .ok (.aload_n 0, 1) := by decide +kernel
theorem dX12_way_49 : decode cX12_way 49 = .ok (.getfield 63, 3) := by decide +kernel
theorem dX12_way_52 : decode cX12_way 52 = .ok (.iconst 0, 1) := by decide +kernel
theorem dX12_way_53 : decode cX12_way 53 = .ok (.iaload, 1) := by decide +kernel
theorem dX12_way_54 : decode cX12_way 54 = .ok (.iload_n 3, 1) := by decide +kernel
theorem dX12_way_55 : decode cX12_way 55 = .ok (.iadd, 1) := by decide +kernel
theorem dX12_way_56 : decode cX12_way 56 = .ok (.goto 14, 3) := by decide +kernel
theorem dX12_way_59 : decode cX12_way 59 = .ok (.aload_n 0, 1) := by decide +kernel
theorem dX12_way_60 : decode cX12_way 60 = .ok (.getfield 111, 3) := by decide +kernel
theorem dX12_way_63 : decode cX12_way 63 = .ok (.bipush 8, 2) := by decide +kernel
theorem dX12_way_65 : decode cX12_way 65 = .ok (.iload_n 3, 1) := by decide +kernel
theorem dX12_way_66 : decode cX12_way 66 = .ok (.imul, 1) := by decide +kernel
theorem dX12_way_67 : decode cX12_way 67 = .ok (.iload_n 1, 1) := by decide +kernel
theorem dX12_way_68 : decode cX12_way 68 = .ok (.iadd, 1) := by decide +kernel
theorem dX12_way_69 : decode cX12_way 69 = .ok (.iaload, 1) := by decide +kernel
theorem dX12_way_70 : decode cX12_way 70 = .ok (.ireturn, 1) := by decide +kernel
set_option maxRecDepth 20000 in
theorem ggX12_never_X12_layWays : GoodIn wsX12_never wsX12_layWays := goodIn_r _ [7, 8, 9, 2, 10, 11, 12, 13, 14, 15, 16, 6, 17, 18, 19, 20, 21, 22, 23, 24, 25, 26, 27, 28, 29, 30, 31, 32, 33, 34, 35, 36, 37, 38, 39, 40, 41, 42, 43, 44, 45, 46, 47, 48, 49, 50, 51, 52, 53, 54, 55, 56, 57, 58, 59, 60, 61, 62, 63, 64, 65, 66, 67, 68, 69, 70, 71, 72, 73, 74, 75, 76, 77, 78, 79, 80, 81, 82, 83, 84, 85, 86, 87, 88, 89, 90, 91, 92, 93, 94, 95, 96, 97, 98, 99, 100, 101, 102, 103, 104, 105, 106, 107, 108, 109, 110, 111, 112, 113, 114, 115, 120, 121, 122, 123, 124, 125, 126, 127, 128, 129, 130, 131, 132, 133, 134, 135, 136, 137, 138, 139, 140, 141, 142, 143, 144, 145, 146, 147, 148, 149, 150, 151, 152, 153, 154, 155, 156, 157, 158, 159, 160, 161, 162, 163, 164, 165, 166, 167, 168, 169, 170, 171, 172, 173, 174, 175, 176, 177, 178, 179, 180, 181, 182, 183, 184, 185] rfl (by decide +kernel)
set_option maxRecDepth 20000 in
theorem gX12_never_X12_layWays : GoodIn wsX12_never (wsV RX12 450 RX12 yX12_layWays wsX12_layWays) := goodIn_app (goodIn_r _ [3, 4, 5, 6] rfl (by decide +kernel)) ggX12_never_X12_layWays
set_option maxRecDepth 20000 in
theorem ggX12_never_X12_firstDay : GoodIn wsX12_never wsX12_firstDay := goodIn_r _ [119, 9, 120, 121, 122, 123, 124, 125, 126, 127, 128, 129, 130, 131, 132, 133, 134, 135, 136, 137, 138, 139, 140, 141, 142, 143, 144, 145, 146, 147, 148, 149, 150, 151, 152, 153, 154, 155, 156, 157, 158, 159, 160, 161, 162, 163, 164, 165, 166, 167, 168, 169, 170, 171, 172, 173, 174, 175, 176, 177, 178, 179, 180, 181, 182, 183, 184, 185] rfl (by decide +kernel)
set_option maxRecDepth 20000 in
theorem gX12_never_X12_firstDay : GoodIn wsX12_never (wsV RX12 453 RX12 yX12_firstDay wsX12_firstDay) := goodIn_app (goodIn_r _ [116, 117, 118, 6] rfl (by decide +kernel)) ggX12_never_X12_firstDay
theorem dX12_never_0 : decode cX12_never 0 = .ok (.aload_n 0, 1) := by decide +kernel
theorem dX12_never_1 : decode cX12_never 1 = .ok (.iconst 0, 1) := by decide +kernel
theorem dX12_never_2 : decode cX12_never 2 = .ok (.putfield 145, 3) := by decide +kernel
theorem dX12_never_5 : decode cX12_never 5 = .ok (.aload_n 0, 1) := by decide +kernel
theorem dX12_never_6 : decode cX12_never 6 = .ok (.invokevirtual 450, 3) := by decide +kernel
theorem dX12_never_9 : decode cX12_never 9 = .ok (.iconst 0, 1) := by decide +kernel
theorem dX12_never_10 : decode cX12_never 10 = .ok (.istore_n 1, 1) := by decide +kernel
theorem dX12_never_11 : decode cX12_never 11 = .ok (.iconst 0, 1) := by decide +kernel
theorem dX12_never_12 : decode cX12_never 12 = .ok (.istore_n 2, 1) := by decide +kernel
theorem dX12_never_13 : decode cX12_never 13 = .ok (.iload_n 2, 1) := by decide +kernel
theorem dX12_never_14 : decode cX12_never 14 = .ok (.aload_n 0, 1) := by decide +kernel
theorem dX12_never_15 : decode cX12_never 15 = .ok (.getfield 13, 3) := by decide +kernel
theorem dX12_never_18 : decode cX12_never 18 = .ok (.iconst 0, 1) := by decide +kernel
theorem dX12_never_19 : decode cX12_never 19 = .ok (.iaload, 1) := by decide +kernel
theorem dX12_never_20 : decode cX12_never 20 = .ok (.if_icmp .ge 28, 3) := by decide +kernel
theorem dX12_never_23 : decode cX12_never 23 = .ok (.iload_n 1, 1) := by decide +kernel
theorem dX12_never_24 : decode cX12_never 24 = .ok (.aload_n 0, 1) := by decide +kernel
theorem dX12_never_25 : decode cX12_never 25 = .ok (.iload_n 2, 1) := by decide +kernel
theorem dX12_never_26 : decode cX12_never 26 = .ok (.invokevirtual 453, 3) := by decide +kernel
theorem dX12_never_29 : decode cX12_never 29 = .ok (.iconst (-1), 1) := by decide +kernel
theorem dX12_never_30 : decode cX12_never 30 = .ok (.if_icmp .ne 9, 3) := by decide +kernel
theorem dX12_never_33 : decode cX12_never 33 = .ok (.iconst 1, 1) := by decide +kernel
theorem dX12_never_34 : decode cX12_never 34 = .ok (.iload_n 2, 1) := by decide +kernel
theorem dX12_never_35 : decode cX12_never 35 = .ok (.ishl, 1) := by decide +kernel
theorem dX12_never_36 : decode cX12_never 36 = .ok (.goto 4, 3) := by decide +kernel
theorem dX12_never_39 : decode cX12_never 39 = .ok (.iconst 0, 1) := by decide +kernel
theorem dX12_never_40 : decode cX12_never 40 = .ok (.ior, 1) := by decide +kernel
theorem dX12_never_41 : decode cX12_never 41 = .ok (.istore_n 1, 1) := by decide +kernel
theorem dX12_never_42 : decode cX12_never 42 = .ok (.iinc 2 1, 3) := by decide +kernel
theorem dX12_never_45 : decode cX12_never 45 = .ok (.goto (-32), 3) := by decide +kernel
theorem dX12_never_48 : decode cX12_never 48 = .ok (.iload_n 1, 1) := by decide +kernel
theorem dX12_never_49 : decode cX12_never 49 = .ok (.ireturn, 1) := by decide +kernel
set_option maxRecDepth 20000 in
theorem ggX12_kindness_X12_isBay : GoodIn wsX12_kindness wsX12_isBay := goodIn_r _ [6, 7, 101, 102, 103, 104, 105, 106, 107, 108, 109, 110, 111, 112, 113, 114, 115, 116, 117, 118, 119, 120, 121, 122, 123, 124, 125, 126, 127, 128, 129, 130, 131, 132, 133, 134, 135, 136, 137, 138, 139, 140, 141, 142, 143, 144, 145, 146, 147, 148, 149, 150, 151, 152, 153, 154, 155, 156, 157, 158, 159, 160, 161, 162, 163, 164, 165, 166] rfl (by decide +kernel)
set_option maxRecDepth 20000 in
theorem gX12_kindness_X12_isBay : GoodIn wsX12_kindness (wsV RX12 415 RX12 yX12_isBay wsX12_isBay) := goodIn_app (goodIn_r _ [2, 3, 4, 5] rfl (by decide +kernel)) ggX12_kindness_X12_isBay
set_option maxRecDepth 20000 in
theorem ggX12_kindness_X12_isAhead : GoodIn wsX12_kindness wsX12_isAhead := goodIn_r _ [11, 12, 101, 102, 103, 104, 105, 106, 107, 108, 109, 110, 111, 112, 113, 114, 115, 116, 117, 118, 119, 120, 121, 122, 123, 124, 125, 126, 127, 128, 129, 130, 131, 132, 133, 134, 135, 136, 137, 138, 139, 140, 141, 142, 143, 144, 145, 146, 147, 148, 149, 150, 151, 152, 153, 154, 155, 156, 157, 158, 159, 160, 161, 162, 163, 164, 165, 166] rfl (by decide +kernel)
set_option maxRecDepth 20000 in
theorem gX12_kindness_X12_isAhead : GoodIn wsX12_kindness (wsV RX12 424 RX12 yX12_isAhead wsX12_isAhead) := goodIn_app (goodIn_r _ [8, 9, 10, 5] rfl (by decide +kernel)) ggX12_kindness_X12_isAhead
set_option maxRecDepth 20000 in
theorem ggX12_kindness_X12_willHold : GoodIn wsX12_kindness wsX12_willHold := goodIn_r _ [16, 17, 18, 19, 20, 21, 22, 5, 23, 24, 25, 26, 12, 7, 27, 28, 29, 30, 31, 32, 33, 34, 35, 36, 37, 38, 39, 40, 41, 42, 43, 44, 45, 46, 47, 48, 49, 50, 51, 52, 53, 54, 55, 56, 57, 58, 59, 60, 61, 62, 63, 64, 65, 66, 67, 68, 69, 70, 71, 72, 73, 74, 75, 76, 77, 78, 79, 80, 81, 82, 83, 84, 85, 86, 87, 88, 89, 90, 91, 92, 93, 94, 95, 96, 97, 98, 99, 100, 101, 102, 103, 104, 105, 106, 107, 108, 109, 110, 111, 112, 113, 114, 115, 116, 117, 118, 119, 120, 121, 122, 123, 124, 125, 126, 127, 128, 129, 130, 131, 132, 133, 134, 135, 136, 137, 138, 139, 140, 141, 142, 143, 144, 145, 146, 147, 148, 149, 150, 151, 152, 153, 154, 155, 156, 157, 158, 159, 160, 161, 162, 163, 164, 165, 166] rfl (by decide +kernel)
set_option maxRecDepth 20000 in
theorem gX12_kindness_X12_willHold : GoodIn wsX12_kindness (wsV RX12 427 RX12 yX12_willHold wsX12_willHold) := goodIn_app (goodIn_r _ [13, 14, 15, 5] rfl (by decide +kernel)) ggX12_kindness_X12_willHold
theorem dX12_kindness_0 : decode cX12_kindness 0 = .ok (.aload_n 0, 1) := by decide +kernel
theorem dX12_kindness_1 : decode cX12_kindness 1 = .ok (.iconst 0, 1) := by decide +kernel
theorem dX12_kindness_2 : decode cX12_kindness 2 = .ok (.putfield 145, 3) := by decide +kernel
theorem dX12_kindness_5 : decode cX12_kindness 5 = .ok (.aload_n 0, 1) := by decide +kernel
theorem dX12_kindness_6 : decode cX12_kindness 6 = .ok (.iload_n 1, 1) := by decide +kernel
theorem dX12_kindness_7 : decode cX12_kindness 7 = .ok (.invokevirtual 415, 3) := by decide +kernel
theorem dX12_kindness_10 : decode cX12_kindness 10 = .ok (.ifCond .eq 11, 3) := by decide +kernel
theorem dX12_kindness_13 : decode cX12_kindness 13 = .ok (.aload_n 0, 1) := by decide +kernel
theorem dX12_kindness_14 : decode cX12_kindness 14 = .ok (.iload_n 2, 1) := by decide +kernel
theorem dX12_kindness_15 : decode cX12_kindness 15 = .ok (.invokevirtual 424, 3) := by decide +kernel
theorem dX12_kindness_18 : decode cX12_kindness 18 = .ok (.ifCond .ne 5, 3) := by decide +kernel
theorem dX12_kindness_21 : decode cX12_kindness 21 = .ok (.iconst (-1), 1) := by decide +kernel
theorem dX12_kindness_22 : decode cX12_kindness 22 = .ok (.ireturn, 1) := by decide +kernel
theorem dX12_kindness_23 : decode cX12_kindness 23 = .ok (.iconst 0, 1) := by decide +kernel
theorem dX12_kindness_24 : decode cX12_kindness 24 = .ok (.istore_n 3, 1) := by decide +kernel
theorem dX12_kindness_25 : decode cX12_kindness 25 = .ok (.iload_n 3, 1) := by decide +kernel
theorem dX12_kindness_26 : decode cX12_kindness 26 = .ok (.bipush 9, 2) := by decide +kernel
theorem dX12_kindness_28 : decode cX12_kindness 28 = .ok (.if_icmp .gt 22, 3) := by decide +kernel
theorem dX12_kindness_31 : decode cX12_kindness 31 = .ok (.aload_n 0, 1) := by decide +kernel
theorem dX12_kindness_32 : decode cX12_kindness 32 = .ok (.iconst 0, 1) := by decide +kernel
theorem dX12_kindness_33 : decode cX12_kindness 33 = .ok (.iload_n 1, 1) := by decide +kernel
theorem dX12_kindness_34 : decode cX12_kindness 34 = .ok (.iload_n 2, 1) := by decide +kernel
theorem dX12_kindness_35 : decode cX12_kindness 35 = .ok (.iload_n 3, 1) := by decide +kernel
theorem dX12_kindness_36 : decode cX12_kindness 36 = .ok (.invokevirtual 427, 3) := by decide +kernel
theorem dX12_kindness_39 : decode cX12_kindness 39 = .ok (.ifCond .eq 5, 3) := by decide +kernel
theorem dX12_kindness_42 : decode cX12_kindness 42 = .ok (.iload_n 3, 1) := by decide +kernel
theorem dX12_kindness_43 : decode cX12_kindness 43 = .ok (.ireturn, 1) := by decide +kernel
theorem dX12_kindness_44 : decode cX12_kindness 44 = .ok (.iinc 3 1, 3) := by decide +kernel
theorem dX12_kindness_47 : decode cX12_kindness 47 = .ok (.goto (-22), 3) := by decide +kernel
theorem dX12_kindness_50 : decode cX12_kindness 50 = .ok (.bipush (-2), 2) := by decide +kernel
theorem dX12_kindness_52 : decode cX12_kindness 52 = .ok (.ireturn, 1) := by decide +kernel
set_option maxRecDepth 20000 in
theorem ggX12_nightsIn_X12_willHold : GoodIn wsX12_nightsIn wsX12_willHold := goodIn_r _ [6, 7, 8, 9, 10, 11, 12, 5, 13, 14, 15, 16, 1, 17, 18, 19, 20, 21, 22, 23, 24, 25, 26, 27, 28, 29, 30, 31, 32, 33, 34, 35, 36, 37, 38, 39, 40, 41, 42, 43, 44, 45, 46, 47, 48, 49, 50, 51, 52, 53, 54, 55, 56, 57, 58, 59, 60, 61, 62, 63, 64, 65, 66, 67, 68, 69, 70, 71, 72, 73, 74, 75, 76, 77, 78, 79, 80, 81, 82, 83, 84, 85, 86, 87, 88, 89, 90, 91, 92, 93, 94, 95, 96, 97, 98, 99, 100, 101, 102, 103, 104, 105, 106, 107, 108, 109, 110, 111, 112, 113, 114, 115, 116, 117, 118, 119, 120, 121, 122, 123, 124, 125, 126, 127, 128, 129, 130, 131, 132, 133, 134, 135, 136, 137, 138, 139, 140, 141, 142, 143, 144, 145, 146, 147, 148, 149, 150, 151, 152, 153, 154, 155, 156, 157] rfl (by decide +kernel)
set_option maxRecDepth 20000 in
theorem gX12_nightsIn_X12_willHold : GoodIn wsX12_nightsIn (wsV RX12 427 RX12 yX12_willHold wsX12_willHold) := goodIn_app (goodIn_r _ [2, 3, 4, 5] rfl (by decide +kernel)) ggX12_nightsIn_X12_willHold
theorem dX12_nightsIn_0 : decode cX12_nightsIn 0 = .ok (.iconst 0, 1) := by decide +kernel
theorem dX12_nightsIn_1 : decode cX12_nightsIn 1 = .ok (.istore_n 3, 1) := by decide +kernel
theorem dX12_nightsIn_2 : decode cX12_nightsIn 2 = .ok (.iconst 0, 1) := by decide +kernel
theorem dX12_nightsIn_3 : decode cX12_nightsIn 3 = .ok (.istore 4, 2) := by decide +kernel
theorem dX12_nightsIn_5 : decode cX12_nightsIn 5 = .ok (.iload 4, 2) := by decide +kernel
theorem dX12_nightsIn_7 : decode cX12_nightsIn 7 = .ok (.iload_n 2, 1) := by decide +kernel
theorem dX12_nightsIn_8 : decode cX12_nightsIn 8 = .ok (.if_icmp .ge 36, 3) := by decide +kernel
theorem dX12_nightsIn_11 : decode cX12_nightsIn 11 = .ok (.iload_n 3, 1) := by decide +kernel
theorem dX12_nightsIn_12 : decode cX12_nightsIn 12 = .ok (.aload_n 0, 1) := by decide +kernel
theorem dX12_nightsIn_13 : decode cX12_nightsIn 13 = .ok (.iconst 0, 1) := by decide +kernel
theorem dX12_nightsIn_14 : decode cX12_nightsIn 14 = .ok (.iload_n 1, 1) := by decide +kernel
theorem dX12_nightsIn_15 : decode cX12_nightsIn 15 = .ok (.aload_n 0, 1) := by decide +kernel
theorem dX12_nightsIn_16 : decode cX12_nightsIn 16 = .ok (.getfield 63, 3) := by decide +kernel
theorem dX12_nightsIn_19 : decode cX12_nightsIn 19 = .ok (.iconst 0, 1) := by decide +kernel
theorem dX12_nightsIn_20 : decode cX12_nightsIn 20 = .ok (.iaload, 1) := by decide +kernel
theorem dX12_nightsIn_21 : decode cX12_nightsIn 21 = .ok (.iload 4, 2) := by decide +kernel
theorem dX12_nightsIn_23 : decode cX12_nightsIn 23 = .ok (.iadd, 1) := by decide +kernel
theorem dX12_nightsIn_24 : decode cX12_nightsIn 24 = .ok (.iconst (-1), 1) := by decide +kernel
theorem dX12_nightsIn_25 : decode cX12_nightsIn 25 = .ok (.invokevirtual 427, 3) := by decide +kernel
theorem dX12_nightsIn_28 : decode cX12_nightsIn 28 = .ok (.ifCond .eq 7, 3) := by decide +kernel
theorem dX12_nightsIn_31 : decode cX12_nightsIn 31 = .ok (.iconst 1, 1) := by decide +kernel
theorem dX12_nightsIn_32 : decode cX12_nightsIn 32 = .ok (.goto 4, 3) := by decide +kernel
theorem dX12_nightsIn_35 : decode cX12_nightsIn 35 = .ok (.iconst 0, 1) := by decide +kernel
theorem dX12_nightsIn_36 : decode cX12_nightsIn 36 = .ok (.iadd, 1) := by decide +kernel
theorem dX12_nightsIn_37 : decode cX12_nightsIn 37 = .ok (.istore_n 3, 1) := by decide +kernel
theorem dX12_nightsIn_38 : decode cX12_nightsIn 38 = .ok (.iinc 4 1, 3) := by decide +kernel
theorem dX12_nightsIn_41 : decode cX12_nightsIn 41 = .ok (.goto (-36), 3) := by decide +kernel
theorem dX12_nightsIn_44 : decode cX12_nightsIn 44 = .ok (.iload_n 3, 1) := by decide +kernel
theorem dX12_nightsIn_45 : decode cX12_nightsIn 45 = .ok (.ireturn, 1) := by decide +kernel
theorem dX12_isNights_0 : decode cX12_isNights 0 = .ok (.iload_n 1, 1) := by decide +kernel
theorem dX12_isNights_1 : decode cX12_isNights 1 = .ok (.iconst 1, 1) := by decide +kernel
theorem dX12_isNights_2 : decode cX12_isNights 2 = .ok (.if_icmp .lt 22, 3) := by decide +kernel
theorem dX12_isNights_5 : decode cX12_isNights 5 = .ok (.iload_n 1, 1) := by decide +kernel
theorem dX12_isNights_6 : decode cX12_isNights 6 = .ok (.bipush 60, 2) := by decide +kernel
theorem dX12_isNights_8 : decode cX12_isNights 8 = .ok (.if_icmp .gt 16, 3) := by decide +kernel
theorem dX12_isNights_11 : decode cX12_isNights 11 = .ok (.aload_n 0, 1) := by decide +kernel
theorem dX12_isNights_12 : decode cX12_isNights 12 = .ok (.getfield 13, 3) := by decide +kernel
theorem dX12_isNights_15 : decode cX12_isNights 15 = .ok (.iconst 0, 1) := by decide +kernel
theorem dX12_isNights_16 : decode cX12_isNights 16 = .ok (.iaload, 1) := by decide +kernel
theorem dX12_isNights_17 : decode cX12_isNights 17 = .ok (.ifCond .le 7, 3) := by decide +kernel
theorem dX12_isNights_20 : decode cX12_isNights 20 = .ok (.iconst 1, 1) := by decide +kernel
theorem dX12_isNights_21 : decode cX12_isNights 21 = .ok (.goto 4, 3) := by decide +kernel
theorem dX12_isNights_24 : decode cX12_isNights 24 = .ok (.iconst 0, 1) := by decide +kernel
theorem dX12_isNights_25 : decode cX12_isNights 25 = .ok (.ireturn, 1) := by decide +kernel
set_option maxRecDepth 20000 in
theorem ggX12_winter_X12_isNights : GoodIn wsX12_winter wsX12_isNights := goodIn_r _ [7, 2, 101, 102, 103, 104, 105, 106, 107, 108, 109, 110, 111, 112, 113, 114, 115, 116, 117, 118, 119, 120, 121, 122, 123, 124, 125, 126, 127, 128, 129, 130, 131, 132, 133, 134, 135, 136, 137, 138, 139, 140, 141, 142, 143, 144, 145, 146, 147, 148, 149, 150, 151, 152, 153, 154, 155, 156, 157, 158, 159, 160, 161, 162, 163, 164, 165, 166] rfl (by decide +kernel)
set_option maxRecDepth 20000 in
theorem gX12_winter_X12_isNights : GoodIn wsX12_winter (wsV RX12 456 RX12 yX12_isNights wsX12_isNights) := goodIn_app (goodIn_r _ [3, 4, 5, 6] rfl (by decide +kernel)) ggX12_winter_X12_isNights
set_option maxRecDepth 20000 in
theorem ggX12_winter_X12_nightsIn : GoodIn wsX12_winter wsX12_nightsIn := goodIn_r _ [11, 12, 13, 14, 15, 6, 16, 17, 18, 19, 20, 21, 22, 23, 24, 25, 26, 2, 27, 28, 29, 30, 31, 32, 33, 34, 35, 36, 37, 38, 39, 40, 41, 42, 43, 44, 45, 46, 47, 48, 49, 50, 51, 52, 53, 54, 55, 56, 57, 58, 59, 60, 61, 62, 63, 64, 65, 66, 67, 68, 69, 70, 71, 72, 73, 74, 75, 76, 77, 78, 79, 80, 81, 82, 83, 84, 85, 86, 87, 88, 89, 90, 91, 92, 93, 94, 95, 96, 97, 98, 99, 100, 101, 102, 103, 104, 105, 106, 107, 108, 109, 110, 111, 112, 113, 114, 115, 116, 117, 118, 119, 120, 121, 122, 123, 124, 125, 126, 127, 128, 129, 130, 131, 132, 133, 134, 135, 136, 137, 138, 139, 140, 141, 142, 143, 144, 145, 146, 147, 148, 149, 150, 151, 152, 153, 154, 155, 156, 157, 158, 159, 160, 161, 162, 163, 164, 165, 166] rfl (by decide +kernel)
set_option maxRecDepth 20000 in
theorem gX12_winter_X12_nightsIn : GoodIn wsX12_winter (wsV RX12 459 RX12 yX12_nightsIn wsX12_nightsIn) := goodIn_app (goodIn_r _ [8, 9, 10, 6] rfl (by decide +kernel)) ggX12_winter_X12_nightsIn
theorem dX12_winter_0 : decode cX12_winter 0 = .ok (.aload_n 0, 1) := by decide +kernel
theorem dX12_winter_1 : decode cX12_winter 1 = .ok (.iconst 0, 1) := by decide +kernel
theorem dX12_winter_2 : decode cX12_winter 2 = .ok (.putfield 145, 3) := by decide +kernel
theorem dX12_winter_5 : decode cX12_winter 5 = .ok (.aload_n 0, 1) := by decide +kernel
theorem dX12_winter_6 : decode cX12_winter 6 = .ok (.iload_n 1, 1) := by decide +kernel
theorem dX12_winter_7 : decode cX12_winter 7 = .ok (.invokevirtual 456, 3) := by decide +kernel
theorem dX12_winter_10 : decode cX12_winter 10 = .ok (.ifCond .eq 12, 3) := by decide +kernel
theorem dX12_winter_13 : decode cX12_winter 13 = .ok (.iload_n 2, 1) := by decide +kernel
theorem dX12_winter_14 : decode cX12_winter 14 = .ok (.ifCond .lt 8, 3) := by decide +kernel
theorem dX12_winter_17 : decode cX12_winter 17 = .ok (.iload_n 2, 1) := by decide +kernel
theorem dX12_winter_18 : decode cX12_winter 18 = .ok (.iconst 1, 1) := by decide +kernel
theorem dX12_winter_19 : decode cX12_winter 19 = .ok (.if_icmp .le 5, 3) := by decide +kernel
theorem dX12_winter_22 : decode cX12_winter 22 = .ok (.iconst (-1), 1) := by decide +kernel
theorem dX12_winter_23 : decode cX12_winter 23 = .ok (.ireturn, 1) := by decide +kernel
theorem dX12_winter_24 : decode cX12_winter 24 = .ok (.iconst 0, 1) := by decide +kernel
theorem dX12_winter_25 : decode cX12_winter 25 = .ok (.istore_n 3, 1) := by decide +kernel
theorem dX12_winter_26 : decode cX12_winter 26 = .ok (.iconst (-1), 1) := by decide +kernel
theorem dX12_winter_27 : decode cX12_winter 27 = .ok (.istore 4, 2) := by decide +kernel
theorem dX12_winter_29 : decode cX12_winter 29 = .ok (.iconst 0, 1) := by decide +kernel
theorem dX12_winter_30 : decode cX12_winter 30 = .ok (.istore 5, 2) := by decide +kernel
theorem dX12_winter_32 : decode cX12_winter 32 = .ok (.iload 5, 2) := by decide +kernel
theorem dX12_winter_34 : decode cX12_winter 34 = .ok (.aload_n 0, 1) := by decide +kernel
theorem dX12_winter_35 : decode cX12_winter 35 = .ok (.getfield 13, 3) := by decide +kernel
theorem dX12_winter_38 : decode cX12_winter 38 = .ok (.iconst 0, 1) := by decide +kernel
theorem dX12_winter_39 : decode cX12_winter 39 = .ok (.iaload, 1) := by decide +kernel
theorem dX12_winter_40 : decode cX12_winter 40 = .ok (.if_icmp .ge 35, 3) := by decide +kernel
theorem dX12_winter_43 : decode cX12_winter 43 = .ok (.aload_n 0, 1) := by decide +kernel
theorem dX12_winter_44 : decode cX12_winter 44 = .ok (.iload 5, 2) := by decide +kernel
theorem dX12_winter_46 : decode cX12_winter 46 = .ok (.iload_n 1, 1) := by decide +kernel
theorem dX12_winter_47 : decode cX12_winter 47 = .ok (.invokevirtual 459, 3) := by decide +kernel
theorem dX12_winter_50 : decode cX12_winter 50 = .ok (.istore 6, 2) := by decide +kernel
theorem dX12_winter_52 : decode cX12_winter 52 = .ok (.iload 6, 2) := by decide +kernel
theorem dX12_winter_54 : decode cX12_winter 54 = .ok (.iload 4, 2) := by decide +kernel
theorem dX12_winter_56 : decode cX12_winter 56 = .ok (.if_icmp .gt 6, 3) := by decide +kernel
theorem dX12_winter_59 : decode cX12_winter 59 = .ok (.goto 10, 3) := by decide +kernel
theorem dX12_winter_62 : decode cX12_winter 62 = .ok (.iload 5, 2) := by decide +kernel
theorem dX12_winter_64 : decode cX12_winter 64 = .ok (.istore_n 3, 1) := by decide +kernel
theorem dX12_winter_65 : decode cX12_winter 65 = .ok (.iload 6, 2) := by decide +kernel
theorem dX12_winter_67 : decode cX12_winter 67 = .ok (.istore 4, 2) := by decide +kernel
theorem dX12_winter_69 : decode cX12_winter 69 = .ok (.iinc 5 1, 3) := by decide +kernel
theorem dX12_winter_72 : decode cX12_winter 72 = .ok (.goto (-40), 3) := by decide +kernel
theorem dX12_winter_75 : decode cX12_winter 75 = .ok (.iload_n 2, 1) := by decide +kernel
theorem dX12_winter_76 : decode cX12_winter 76 = .ok (.ifCond .ne 7, 3) := by decide +kernel
theorem dX12_winter_79 : decode cX12_winter 79 = .ok (.iload_n 3, 1) := by decide +kernel
theorem dX12_winter_80 : decode cX12_winter 80 = .ok (.goto 5, 3) := by decide +kernel
theorem dX12_winter_83 : decode cX12_winter 83 = .ok (.iload 4, 2) := by decide +kernel
theorem dX12_winter_85 : decode cX12_winter 85 = .ok (.ireturn, 1) := by decide +kernel
theorem dX12_common_0 : decode cX12_common 0 = .ok (.lload_n 0, 1) := by decide +kernel
theorem dX12_common_1 : decode cX12_common 1 = .ok (.lstore 4, 2) := by decide +kernel
theorem dX12_common_3 : decode cX12_common 3 = .ok (.lload_n 2, 1) := by decide +kernel
theorem dX12_common_4 : decode cX12_common 4 = .ok (.lstore 6, 2) := by decide +kernel
theorem dX12_common_6 : decode cX12_common 6 = .ok (.lload 6, 2) := by decide +kernel
theorem dX12_common_8 : decode cX12_common 8 = .ok (.lconst 0, 1) := by decide +kernel
theorem dX12_common_9 : decode cX12_common 9 = .ok (.lcmp, 1) := by decide +kernel
theorem dX12_common_10 : decode cX12_common 10 = .ok (.ifCond .eq 21, 3) := by decide +kernel
theorem dX12_common_13 : decode cX12_common 13 = .ok (.lload 4, 2) := by decide +kernel
theorem dX12_common_15 : decode cX12_common 15 = .ok (.lload 6, 2) := by decide +kernel
theorem dX12_common_17 : decode cX12_common 17 = .ok (.lrem, 1) := by decide +kernel
theorem dX12_common_18 : decode cX12_common 18 = .ok (.lstore 8, 2) := by decide +kernel
theorem dX12_common_20 : decode cX12_common 20 = .ok (.lload 6, 2) := by decide +kernel
theorem dX12_common_22 : decode cX12_common 22 = .ok (.lstore 4, 2) := by decide +kernel
theorem dX12_common_24 : decode cX12_common 24 = .ok (.lload 8, 2) := by decide +kernel
theorem dX12_common_26 : decode cX12_common 26 = .ok (.lstore 6, 2) := by decide +kernel
theorem dX12_common_28 : decode cX12_common 28 = .ok (.goto (-22), 3) := by decide +kernel
theorem dX12_common_31 : decode cX12_common 31 = .ok (.lload 4, 2) := by decide +kernel
theorem dX12_common_33 : decode cX12_common 33 = .ok (.lreturn, 1) := by decide +kernel
set_option maxRecDepth 20000 in
theorem ggX12_copies_X12_common : GoodIn wsX12_copies wsX12_common := goodIn_r _ [8] rfl (by decide +kernel)
set_option maxRecDepth 20000 in
theorem gX12_copies_X12_common : GoodIn wsX12_copies (va_wsS RX12 464 yX12_common wsX12_common) := goodIn_app (goodIn_of _ (by decide +kernel)) ggX12_copies_X12_common
theorem dX12_copies_0 : decode cX12_copies 0 = .ok (.aload_n 0, 1) := by decide +kernel
theorem dX12_copies_1 : decode cX12_copies 1 = .ok (.iconst 0, 1) := by decide +kernel
theorem dX12_copies_2 : decode cX12_copies 2 = .ok (.putfield 145, 3) := by decide +kernel
theorem dX12_copies_5 : decode cX12_copies 5 = .ok (.iload_n 1, 1) := by decide +kernel
theorem dX12_copies_6 : decode cX12_copies 6 = .ok (.iconst 1, 1) := by decide +kernel
theorem dX12_copies_7 : decode cX12_copies 7 = .ok (.if_icmp .lt 18, 3) := by decide +kernel
theorem dX12_copies_10 : decode cX12_copies 10 = .ok (.iload_n 1, 1) := by decide +kernel
theorem dX12_copies_11 : decode cX12_copies 11 = .ok (.bipush 8, 2) := by decide +kernel
theorem dX12_copies_13 : decode cX12_copies 13 = .ok (.if_icmp .gt 12, 3) := by decide +kernel
theorem dX12_copies_16 : decode cX12_copies 16 = .ok (.iload_n 2, 1) := by decide +kernel
theorem dX12_copies_17 : decode cX12_copies 17 = .ok (.ifCond .lt 8, 3) := by decide +kernel
theorem dX12_copies_20 : decode cX12_copies 20 = .ok (.iload_n 2, 1) := by decide +kernel
theorem dX12_copies_21 : decode cX12_copies 21 = .ok (.iconst 1, 1) := by decide +kernel
theorem dX12_copies_22 : decode cX12_copies 22 = .ok (.if_icmp .le 7, 3) := by decide +kernel
theorem dX12_copies_25 : decode cX12_copies 25 = .ok (.ldc2_w 462, 3) := by decide +kernel
theorem dX12_copies_28 : decode cX12_copies 28 = .ok (.lreturn, 1) := by decide +kernel
theorem dX12_copies_29 : decode cX12_copies 29 = .ok (.lconst 1, 1) := by decide +kernel
theorem dX12_copies_30 : decode cX12_copies 30 = .ok (.lstore_n 3, 1) := by decide +kernel
theorem dX12_copies_31 : decode cX12_copies 31 = .ok (.lconst 1, 1) := by decide +kernel
theorem dX12_copies_32 : decode cX12_copies 32 = .ok (.lstore 5, 2) := by decide +kernel
theorem dX12_copies_34 : decode cX12_copies 34 = .ok (.iconst 0, 1) := by decide +kernel
theorem dX12_copies_35 : decode cX12_copies 35 = .ok (.istore 7, 2) := by decide +kernel
theorem dX12_copies_37 : decode cX12_copies 37 = .ok (.iload 7, 2) := by decide +kernel
theorem dX12_copies_39 : decode cX12_copies 39 = .ok (.iload_n 1, 1) := by decide +kernel
theorem dX12_copies_40 : decode cX12_copies 40 = .ok (.if_icmp .ge 28, 3) := by decide +kernel
theorem dX12_copies_43 : decode cX12_copies 43 = .ok (.lload_n 3, 1) := by decide +kernel
theorem dX12_copies_44 : decode cX12_copies 44 = .ok (.aload_n 0, 1) := by decide +kernel
theorem dX12_copies_45 : decode cX12_copies 45 = .ok (.getfield 13, 3) := by decide +kernel
theorem dX12_copies_48 : decode cX12_copies 48 = .ok (.bipush 6, 2) := by decide +kernel
theorem dX12_copies_50 : decode cX12_copies 50 = .ok (.iaload, 1) := by decide +kernel
theorem dX12_copies_51 : decode cX12_copies 51 = .ok (.i2l, 1) := by decide +kernel
theorem dX12_copies_52 : decode cX12_copies 52 = .ok (.lmul, 1) := by decide +kernel
theorem dX12_copies_53 : decode cX12_copies 53 = .ok (.lstore_n 3, 1) := by decide +kernel
theorem dX12_copies_54 : decode cX12_copies 54 = .ok (.lload 5, 2) := by decide +kernel
theorem dX12_copies_56 : decode cX12_copies 56 = .ok (.ldc2_w 350, 3) := by decide +kernel
theorem dX12_copies_59 : decode cX12_copies 59 = .ok (.lmul, 1) := by decide +kernel
theorem dX12_copies_60 : decode cX12_copies 60 = .ok (.lstore 5, 2) := by decide +kernel
theorem dX12_copies_62 : decode cX12_copies 62 = .ok (.iinc 7 1, 3) := by decide +kernel
theorem dX12_copies_65 : decode cX12_copies 65 = .ok (.goto (-28), 3) := by decide +kernel
theorem dX12_copies_68 : decode cX12_copies 68 = .ok (.lload_n 3, 1) := by decide +kernel
theorem dX12_copies_69 : decode cX12_copies 69 = .ok (.lload 5, 2) := by decide +kernel
theorem dX12_copies_71 : decode cX12_copies 71 = .ok (.invokestatic 464, 3) := by decide +kernel
theorem dX12_copies_74 : decode cX12_copies 74 = .ok (.lstore 7, 2) := by decide +kernel
theorem dX12_copies_76 : decode cX12_copies 76 = .ok (.iload_n 2, 1) := by decide +kernel
theorem dX12_copies_77 : decode cX12_copies 77 = .ok (.ifCond .ne 10, 3) := by decide +kernel
theorem dX12_copies_80 : decode cX12_copies 80 = .ok (.lload_n 3, 1) := by decide +kernel
theorem dX12_copies_81 : decode cX12_copies 81 = .ok (.lload 7, 2) := by decide +kernel
theorem dX12_copies_83 : decode cX12_copies 83 = .ok (.ldiv, 1) := by decide +kernel
theorem dX12_copies_84 : decode cX12_copies 84 = .ok (.goto 8, 3) := by decide +kernel
theorem dX12_copies_87 : decode cX12_copies 87 = .ok (.lload 5, 2) := by decide +kernel
theorem dX12_copies_89 : decode cX12_copies 89 = .ok (.lload 7, 2) := by decide +kernel
theorem dX12_copies_91 : decode cX12_copies 91 = .ok (.ldiv, 1) := by decide +kernel
theorem dX12_copies_92 : decode cX12_copies 92 = .ok (.lreturn, 1) := by decide +kernel
set_option maxRecDepth 20000 in
theorem ggX12_layLanes_X12_laneOf : GoodIn wsX12_layLanes wsX12_laneOf := goodIn_r _ [8, 3, 9, 10, 11, 12, 13, 14, 15, 16, 17, 18, 19, 20, 21, 22, 23, 24, 25, 26, 27, 28, 29, 30, 31, 32, 33, 34, 35, 36, 37, 38, 39, 40, 41, 42, 43, 44, 45, 46, 47, 48, 49, 50, 51, 52, 53, 54, 55, 56, 57, 58, 59, 60, 61, 62, 63, 64, 65, 66, 67, 68, 69, 70, 71, 72, 73, 74, 75, 76, 77] rfl (by decide +kernel)
set_option maxRecDepth 20000 in
theorem gX12_layLanes_X12_laneOf : GoodIn wsX12_layLanes (wsV RX12 418 RX12 yX12_laneOf wsX12_laneOf) := goodIn_app (goodIn_r _ [4, 5, 6, 7] rfl (by decide +kernel)) ggX12_layLanes_X12_laneOf
theorem dX12_layLanes_0 : decode cX12_layLanes 0 = .ok (.iconst 0, 1) := by decide +kernel
theorem dX12_layLanes_1 : decode cX12_layLanes 1 = .ok (.istore_n 2, 1) := by decide +kernel
theorem dX12_layLanes_2 : decode cX12_layLanes 2 = .ok (.iload_n 2, 1) := by decide +kernel
theorem dX12_layLanes_3 : decode cX12_layLanes 3 = .ok (.bipush 8, 2) := by decide +kernel
theorem dX12_layLanes_5 : decode cX12_layLanes 5 = .ok (.if_icmp .ge 16, 3) := by decide +kernel
theorem dX12_layLanes_8 : decode cX12_layLanes 8 = .ok (.aload_n 0, 1) := by decide +kernel
theorem dX12_layLanes_9 : decode cX12_layLanes 9 = .ok (.getfield 114, 3) := by decide +kernel
theorem dX12_layLanes_12 : decode cX12_layLanes 12 = .ok (.iload_n 2, 1) := by decide +kernel
theorem dX12_layLanes_13 : decode cX12_layLanes 13 = .ok (.iconst (-1), 1) := by decide +kernel
theorem dX12_layLanes_14 : decode cX12_layLanes 14 = .ok (.iastore, 1) := by decide +kernel
theorem dX12_layLanes_15 : decode cX12_layLanes 15 = .ok (.iinc 2 1, 3) := by decide +kernel
theorem dX12_layLanes_18 : decode cX12_layLanes 18 = .ok (.goto (-16), 3) := by decide +kernel
theorem dX12_layLanes_21 : decode cX12_layLanes 21 = .ok (.aload_n 0, 1) := by decide +kernel
theorem dX12_layLanes_22 : decode cX12_layLanes 22 = .ok (.getfield 114, 3) := by decide +kernel
theorem dX12_layLanes_25 : decode cX12_layLanes 25 = .ok (.iload_n 1, 1) := by decide +kernel
theorem dX12_layLanes_26 : decode cX12_layLanes 26 = .ok (.iconst 0, 1) := by decide +kernel
theorem dX12_layLanes_27 : decode cX12_layLanes 27 = .ok (.iastore, 1) := by decide +kernel
theorem dX12_layLanes_28 : decode cX12_layLanes 28 = .ok (.aload_n 0, 1) := by decide +kernel
theorem dX12_layLanes_29 : decode cX12_layLanes 29 = .ok (.getfield 117, 3) := by decide +kernel
theorem dX12_layLanes_32 : decode cX12_layLanes 32 = .ok (.iconst 0, 1) := by decide +kernel
theorem dX12_layLanes_33 : decode cX12_layLanes 33 = .ok (.iload_n 1, 1) := by decide +kernel
theorem dX12_layLanes_34 : decode cX12_layLanes 34 = .ok (.iastore, 1) := by decide +kernel
theorem dX12_layLanes_35 : decode cX12_layLanes 35 = .ok (.iconst 1, 1) := by decide +kernel
theorem dX12_layLanes_36 : decode cX12_layLanes 36 = .ok (.istore_n 2, 1) := by decide +kernel
theorem dX12_layLanes_37 : decode cX12_layLanes 37 = .ok (.iconst 0, 1) := by decide +kernel
theorem dX12_layLanes_38 : decode cX12_layLanes 38 = .ok (.istore_n 3, 1) := by decide +kernel
theorem dX12_layLanes_39 : decode cX12_layLanes 39 = .ok (.iload_n 3, 1) := by decide +kernel
theorem dX12_layLanes_40 : decode cX12_layLanes 40 = .ok (.iload_n 2, 1) := by decide +kernel
theorem dX12_layLanes_41 : decode cX12_layLanes 41 = .ok (.if_icmp .ge 89, 3) := by decide +kernel
theorem dX12_layLanes_44 : decode cX12_layLanes 44 = .ok (.iconst 0, 1) := by decide +kernel
theorem dX12_layLanes_45 : decode cX12_layLanes 45 = .ok (.istore 4, 2) := by decide +kernel
theorem dX12_layLanes_47 : decode cX12_layLanes 47 = .ok (.iload 4, 2) := by decide +kernel
theorem dX12_layLanes_49 : decode cX12_layLanes 49 = .ok (.aload_n 0, 1) := by decide +kernel
theorem dX12_layLanes_50 : decode cX12_layLanes 50 = .ok (.getfield 13, 3) := by decide +kernel
theorem dX12_layLanes_53 : decode cX12_layLanes 53 = .ok (.iconst 0, 1) := by decide +kernel
theorem dX12_layLanes_54 : decode cX12_layLanes 54 = .ok (.iaload, 1) := by decide +kernel
theorem dX12_layLanes_55 : decode cX12_layLanes 55 = .ok (.if_icmp .ge 69, 3) := by decide +kernel
theorem dX12_layLanes_58 : decode cX12_layLanes 58 = .ok (.aload_n 0, 1) := by decide +kernel
theorem dX12_layLanes_59 : decode cX12_layLanes 59 = .ok (.getfield 114, 3) := by decide +kernel
theorem dX12_layLanes_62 : decode cX12_layLanes 62 = .ok (.iload 4, 2) := by decide +kernel
theorem dX12_layLanes_64 : decode cX12_layLanes 64 = .ok (.iaload, 1) := by decide +kernel
theorem dX12_layLanes_65 : decode cX12_layLanes 65 = .ok (.iconst (-1), 1) := by decide +kernel
theorem dX12_layLanes_66 : decode cX12_layLanes 66 = .ok (.if_icmp .ne 52, 3) := by decide +kernel
theorem dX12_layLanes_69 : decode cX12_layLanes 69 = .ok (.aload_n 0, 1) := by decide +kernel
theorem dX12_layLanes_70 : decode cX12_layLanes 70 = .ok (.aload_n 0, 1) := by decide +kernel
theorem dX12_layLanes_71 : decode cX12_layLanes 71 = .ok (.getfield 117, 3) := by decide +kernel
theorem dX12_layLanes_74 : decode cX12_layLanes 74 = .ok (.iload_n 3, 1) := by decide +kernel
theorem dX12_layLanes_75 : decode cX12_layLanes 75 = .ok (.iaload, 1) := by decide +kernel
theorem dX12_layLanes_76 : decode cX12_layLanes 76 = .ok (.iload 4, 2) := by decide +kernel
theorem dX12_layLanes_78 : decode cX12_layLanes 78 = .ok (.invokevirtual 418, 3) := by decide +kernel
theorem dX12_layLanes_81 : decode cX12_layLanes 81 = .ok (.ifCond .ne 6, 3) := by decide +kernel
theorem dX12_layLanes_84 : decode cX12_layLanes 84 = .ok (.goto 34, 3) := by decide +kernel
theorem dX12_layLanes_87 : decode cX12_layLanes 87 = .ok (.aload_n 0, 1) := by decide +kernel
theorem dX12_layLanes_88 : decode cX12_layLanes 88 = .ok (.getfield 114, 3) := by decide +kernel
theorem dX12_layLanes_91 : decode cX12_layLanes 91 = .ok (.iload 4, 2) := by decide +kernel
theorem dX12_layLanes_93 : decode cX12_layLanes 93 = .ok (.aload_n 0, 1) := by decide +kernel
theorem dX12_layLanes_94 : decode cX12_layLanes 94 = .ok (.getfield 114, 3) := by decide +kernel
theorem dX12_layLanes_97 : decode cX12_layLanes 97 = .ok (.aload_n 0, 1) := by decide +kernel
theorem dX12_layLanes_98 : decode cX12_layLanes 98 = .ok (.getfield 117, 3) := by decide +kernel
theorem dX12_layLanes_101 : decode cX12_layLanes 101 = .ok (.iload_n 3, 1) := by decide +kernel
theorem dX12_layLanes_102 : decode cX12_layLanes 102 = .ok (.iaload, 1) := by decide +kernel
theorem dX12_layLanes_103 : decode cX12_layLanes 103 = .ok (.iaload, 1) := by decide +kernel
theorem dX12_layLanes_104 : decode cX12_layLanes 104 = .ok (.iconst 1, 1) := by decide +kernel
theorem dX12_layLanes_105 : decode cX12_layLanes 105 = .ok (.iadd, 1) := by decide +kernel
theorem dX12_layLanes_106 : decode cX12_layLanes 106 = .ok (.iastore, 1) := by decide +kernel
theorem dX12_layLanes_107 : decode cX12_layLanes 107 = .ok (.aload_n 0, 1) := by decide +kernel
theorem dX12_layLanes_108 : decode cX12_layLanes 108 = .ok (.getfield 117, 3) := by decide +kernel
theorem dX12_layLanes_111 : decode cX12_layLanes 111 = .ok (.iload_n 2, 1) := by decide +kernel
theorem dX12_layLanes_112 : decode cX12_layLanes 112 = .ok (.iload 4, 2) := by decide +kernel
theorem dX12_layLanes_114 : decode cX12_layLanes 114 = .ok (.iastore, 1) := by decide +kernel
theorem dX12_layLanes_115 : decode cX12_layLanes 115 = .ok (.iinc 2 1, 3) := by decide +kernel
theorem dX12_layLanes_118 : decode cX12_layLanes 118 = .ok (.iinc 4 1, 3) := by decide +kernel
theorem dX12_layLanes_121 : decode cX12_layLanes 121 = .ok (.goto (-74), 3) := by decide +kernel
theorem dX12_layLanes_124 : decode cX12_layLanes 124 = .ok (.iinc 3 1, 3) := by decide +kernel
theorem dX12_layLanes_127 : decode cX12_layLanes 127 = .ok (.goto (-88), 3) := by decide +kernel
theorem dX12_layLanes_130 : decode cX12_layLanes 130 = .ok (.return_, 1) := by decide +kernel
set_option maxRecDepth 20000 in
theorem ggX12_bids_X12_layLanes : GoodIn wsX12_bids wsX12_layLanes := goodIn_r _ [18, 6, 19, 2, 20, 21, 22, 17, 23, 24, 25, 26, 100, 101, 102, 103, 104, 105, 106, 107, 108, 109, 110, 111, 112, 113, 114, 115, 116, 117, 118, 119, 120, 121, 122, 123, 124, 125, 126, 127, 128, 129, 130, 131, 132, 133, 134, 135, 136, 137, 138, 139, 140, 141, 142, 143, 144, 145, 146, 147, 148, 149, 150, 151, 152, 153, 154, 155, 156, 157, 158, 159, 160, 161, 162, 163, 164, 165] rfl (by decide +kernel)
set_option maxRecDepth 20000 in
theorem gX12_bids_X12_layLanes : GoodIn wsX12_bids (wsV RX12 467 RX12 yX12_layLanes wsX12_layLanes) := goodIn_app (goodIn_r _ [14, 15, 16, 17] rfl (by decide +kernel)) ggX12_bids_X12_layLanes
set_option maxRecDepth 20000 in
theorem ggX12_bids_X12_foresees : GoodIn wsX12_bids wsX12_foresees := goodIn_r _ [30, 31, 7, 32, 8, 33, 9, 5, 2, 34, 35, 36, 37, 38, 17, 39, 40, 41, 12, 42, 10, 11, 13, 43, 44, 45, 46, 47, 48, 49, 50, 100, 101, 102, 103, 104, 105, 106, 107, 108, 109, 110, 111, 112, 113, 114, 115, 116, 117, 118, 119, 120, 121, 122, 123, 124, 125, 126, 127, 128, 129, 130, 131, 132, 133, 134, 135, 136, 137, 138, 139, 140, 141, 142, 143, 144, 145, 146, 147, 148, 149, 150, 151, 152, 153, 154, 155, 156, 157, 158, 159, 160, 161, 162, 163, 164, 165] rfl (by decide +kernel)
set_option maxRecDepth 20000 in
theorem gX12_bids_X12_foresees : GoodIn wsX12_bids (wsV RX12 387 RX12 yX12_foresees wsX12_foresees) := goodIn_app (goodIn_r _ [27, 28, 29, 17] rfl (by decide +kernel)) ggX12_bids_X12_foresees
set_option maxRecDepth 20000 in
theorem ggX12_bids_X12_moodBy : GoodIn wsX12_bids wsX12_moodBy := goodIn_r _ [54, 55, 56, 57, 58, 59, 12, 60, 61, 62, 63, 64, 65, 66, 67, 17, 68, 40, 41, 42, 69, 70, 71, 72, 47, 73, 2, 74, 75, 76, 77, 78, 79, 80, 81, 82, 83, 84, 85, 86, 87, 88, 89, 90, 91, 92, 93, 94, 95, 96, 97, 98, 99, 100, 101, 102, 103, 104, 105, 106, 107, 108, 109, 110, 111, 112, 113, 114, 115, 116, 117, 118, 119, 120, 121, 122, 123, 124, 125, 126, 127, 128, 129, 130, 131, 132, 133, 134, 135, 136, 137, 138, 139, 140, 141, 142, 143, 144, 145, 146, 147, 148, 149, 150, 151, 152, 153, 154, 155, 156, 157, 158, 159, 160, 161, 162, 163, 164, 165] rfl (by decide +kernel)
set_option maxRecDepth 20000 in
theorem gX12_bids_X12_moodBy : GoodIn wsX12_bids (wsV RX12 366 RX12 yX12_moodBy wsX12_moodBy) := goodIn_app (goodIn_r _ [51, 52, 53, 17] rfl (by decide +kernel)) ggX12_bids_X12_moodBy
theorem dX12_bids_0 : decode cX12_bids 0 = .ok (.aload_n 0, 1) := by decide +kernel
theorem dX12_bids_1 : decode cX12_bids 1 = .ok (.iconst 0, 1) := by decide +kernel
theorem dX12_bids_2 : decode cX12_bids 2 = .ok (.putfield 145, 3) := by decide +kernel
theorem dX12_bids_5 : decode cX12_bids 5 = .ok (.iload_n 1, 1) := by decide +kernel
theorem dX12_bids_6 : decode cX12_bids 6 = .ok (.ifCond .lt 17, 3) := by decide +kernel
theorem dX12_bids_9 : decode cX12_bids 9 = .ok (.iload_n 1, 1) := by decide +kernel
theorem dX12_bids_10 : decode cX12_bids 10 = .ok (.iconst 1, 1) := by decide +kernel
theorem dX12_bids_11 : decode cX12_bids 11 = .ok (.if_icmp .gt 12, 3) := by decide +kernel
theorem dX12_bids_14 : decode cX12_bids 14 = .ok (.aload_n 0, 1) := by decide +kernel
theorem dX12_bids_15 : decode cX12_bids 15 = .ok (.getfield 13, 3) := by decide +kernel
theorem dX12_bids_18 : decode cX12_bids 18 = .ok (.iconst 0, 1) := by decide +kernel
theorem dX12_bids_19 : decode cX12_bids 19 = .ok (.iaload, 1) := by decide +kernel
theorem dX12_bids_20 : decode cX12_bids 20 = .ok (.ifCond .ne 5, 3) := by decide +kernel
theorem dX12_bids_23 : decode cX12_bids 23 = .ok (.iconst (-1), 1) := by decide +kernel
theorem dX12_bids_24 : decode cX12_bids 24 = .ok (.ireturn, 1) := by decide +kernel
theorem dX12_bids_25 : decode cX12_bids 25 = .ok (.aload_n 0, 1) := by decide +kernel
theorem dX12_bids_26 : decode cX12_bids 26 = .ok (.aload_n 0, 1) := by decide +kernel
theorem dX12_bids_27 : decode cX12_bids 27 = .ok (.getfield 69, 3) := by decide +kernel
theorem dX12_bids_30 : decode cX12_bids 30 = .ok (.iconst 0, 1) := by decide +kernel
theorem dX12_bids_31 : decode cX12_bids 31 = .ok (.iaload, 1) := by decide +kernel
theorem dX12_bids_32 : decode cX12_bids 32 = .ok (.iconst (-1), 1) := by decide +kernel
theorem dX12_bids_33 : decode cX12_bids 33 = .ok (.if_icmp .ne 12, 3) := by decide +kernel
theorem dX12_bids_36 : decode cX12_bids 36 = .ok (.aload_n 0, 1) := by decide +kernel
theorem dX12_bids_37 : decode cX12_bids 37 = .ok (.getfield 66, 3) := by decide +kernel
theorem dX12_bids_40 : decode cX12_bids 40 = .ok (.iconst 0, 1) := by decide +kernel
theorem dX12_bids_41 : decode cX12_bids 41 = .ok (.iaload, 1) := by decide +kernel
theorem dX12_bids_42 : decode cX12_bids 42 = .ok (.goto 9, 3) := by decide +kernel
theorem dX12_bids_45 : decode cX12_bids 45 = .ok (.aload_n 0, 1) := by decide +kernel
theorem dX12_bids_46 : decode cX12_bids 46 = .ok (.getfield 69, 3) := by decide +kernel
theorem dX12_bids_49 : decode cX12_bids 49 = .ok (.iconst 0, 1) := by decide +kernel
theorem dX12_bids_50 : decode cX12_bids 50 = .ok (.iaload, 1) := by decide +kernel
theorem dX12_bids_51 : decode cX12_bids 51 = .ok (.invokevirtual 467, 3) := by decide +kernel
theorem dX12_bids_54 : decode cX12_bids 54 = .ok (.iconst 0, 1) := by decide +kernel
theorem dX12_bids_55 : decode cX12_bids 55 = .ok (.istore_n 2, 1) := by decide +kernel
theorem dX12_bids_56 : decode cX12_bids 56 = .ok (.iconst (-1), 1) := by decide +kernel
theorem dX12_bids_57 : decode cX12_bids 57 = .ok (.istore_n 3, 1) := by decide +kernel
theorem dX12_bids_58 : decode cX12_bids 58 = .ok (.iconst 0, 1) := by decide +kernel
theorem dX12_bids_59 : decode cX12_bids 59 = .ok (.istore 4, 2) := by decide +kernel
theorem dX12_bids_61 : decode cX12_bids 61 = .ok (.iload 4, 2) := by decide +kernel
theorem dX12_bids_63 : decode cX12_bids 63 = .ok (.aload_n 0, 1) := by decide +kernel
theorem dX12_bids_64 : decode cX12_bids 64 = .ok (.getfield 13, 3) := by decide +kernel
theorem dX12_bids_67 : decode cX12_bids 67 = .ok (.iconst 0, 1) := by decide +kernel
theorem dX12_bids_68 : decode cX12_bids 68 = .ok (.iaload, 1) := by decide +kernel
theorem dX12_bids_69 : decode cX12_bids 69 = .ok (.if_icmp .ge 93, 3) := by decide +kernel
theorem dX12_bids_72 : decode cX12_bids 72 = .ok (.aload_n 0, 1) := by decide +kernel
theorem dX12_bids_73 : decode cX12_bids 73 = .ok (.iconst 0, 1) := by decide +kernel
theorem dX12_bids_74 : decode cX12_bids 74 = .ok (.iload 4, 2) := by decide +kernel
theorem dX12_bids_76 : decode cX12_bids 76 = .ok (.aload_n 0, 1) := by decide +kernel
theorem dX12_bids_77 : decode cX12_bids 77 = .ok (.getfield 63, 3) := by decide +kernel
theorem dX12_bids_80 : decode cX12_bids 80 = .ok (.iconst 0, 1) := by decide +kernel
theorem dX12_bids_81 : decode cX12_bids 81 = .ok (.iaload, 1) := by decide +kernel
theorem dX12_bids_82 : decode cX12_bids 82 = .ok (.iconst (-1), 1) := by decide +kernel
theorem dX12_bids_83 : decode cX12_bids 83 = .ok (.invokevirtual 387, 3) := by decide +kernel
theorem dX12_bids_86 : decode cX12_bids 86 = .ok (.aload_n 0, 1) := by decide +kernel
theorem dX12_bids_87 : decode cX12_bids 87 = .ok (.getfield 114, 3) := by decide +kernel
theorem dX12_bids_90 : decode cX12_bids 90 = .ok (.iload 4, 2) := by decide +kernel
theorem dX12_bids_92 : decode cX12_bids 92 = .ok (.iaload, 1) := by decide +kernel
theorem dX12_bids_93 : decode cX12_bids 93 = .ok (.iconst (-1), 1) := by decide +kernel
theorem dX12_bids_94 : decode cX12_bids 94 = .ok (.if_icmp .ne 7, 3) := by decide +kernel
theorem dX12_bids_97 : decode cX12_bids 97 = .ok (.iconst 0, 1) := by decide +kernel
theorem dX12_bids_98 : decode cX12_bids 98 = .ok (.goto 41, 3) := by decide +kernel
theorem dX12_bids_101 : decode cX12_bids 101 = .ok (.iconst 0, 1) := by decide +kernel
theorem dX12_bids_102 : decode cX12_bids 102 = .ok (.aload_n 0, 1) := by decide +kernel
theorem dX12_bids_103 : decode cX12_bids 103 = .ok (.aload_n 0, 1) := by decide +kernel
theorem dX12_bids_104 : decode cX12_bids 104 = .ok (.getfield 370, 3) := by decide +kernel
theorem dX12_bids_107 : decode cX12_bids 107 = .ok (.aload_n 0, 1) := by decide +kernel
theorem dX12_bids_108 : decode cX12_bids 108 = .ok (.getfield 373, 3) := by decide +kernel
theorem dX12_bids_111 : decode cX12_bids 111 = .ok (.aload_n 0, 1) := by decide +kernel
theorem dX12_bids_112 : decode cX12_bids 112 = .ok (.getfield 376, 3) := by decide +kernel
theorem dX12_bids_115 : decode cX12_bids 115 = .ok (.aload_n 0, 1) := by decide +kernel
theorem dX12_bids_116 : decode cX12_bids 116 = .ok (.getfield 63, 3) := by decide +kernel
theorem dX12_bids_119 : decode cX12_bids 119 = .ok (.iconst 0, 1) := by decide +kernel
theorem dX12_bids_120 : decode cX12_bids 120 = .ok (.iaload, 1) := by decide +kernel
theorem dX12_bids_121 : decode cX12_bids 121 = .ok (.iconst 0, 1) := by decide +kernel
theorem dX12_bids_122 : decode cX12_bids 122 = .ok (.invokevirtual 366, 3) := by decide +kernel
theorem dX12_bids_125 : decode cX12_bids 125 = .ok (.bipush 10, 2) := by decide +kernel
theorem dX12_bids_127 : decode cX12_bids 127 = .ok (.aload_n 0, 1) := by decide +kernel
theorem dX12_bids_128 : decode cX12_bids 128 = .ok (.getfield 114, 3) := by decide +kernel
theorem dX12_bids_131 : decode cX12_bids 131 = .ok (.iload 4, 2) := by decide +kernel
theorem dX12_bids_133 : decode cX12_bids 133 = .ok (.iaload, 1) := by decide +kernel
theorem dX12_bids_134 : decode cX12_bids 134 = .ok (.imul, 1) := by decide +kernel
theorem dX12_bids_135 : decode cX12_bids 135 = .ok (.isub, 1) := by decide +kernel
theorem dX12_bids_136 : decode cX12_bids 136 = .ok (.invokestatic 385, 3) := by decide +kernel
theorem dX12_bids_139 : decode cX12_bids 139 = .ok (.istore 5, 2) := by decide +kernel
theorem dX12_bids_141 : decode cX12_bids 141 = .ok (.iload 5, 2) := by decide +kernel
theorem dX12_bids_143 : decode cX12_bids 143 = .ok (.iload_n 3, 1) := by decide +kernel
theorem dX12_bids_144 : decode cX12_bids 144 = .ok (.if_icmp .gt 6, 3) := by decide +kernel
theorem dX12_bids_147 : decode cX12_bids 147 = .ok (.goto 9, 3) := by decide +kernel
theorem dX12_bids_150 : decode cX12_bids 150 = .ok (.iload 4, 2) := by decide +kernel
theorem dX12_bids_152 : decode cX12_bids 152 = .ok (.istore_n 2, 1) := by decide +kernel
theorem dX12_bids_153 : decode cX12_bids 153 = .ok (.iload 5, 2) := by decide +kernel
theorem dX12_bids_155 : decode cX12_bids 155 = .ok (.istore_n 3, 1) := by decide +kernel
theorem dX12_bids_156 : decode cX12_bids 156 = .ok (.iinc 4 1, 3) := by decide +kernel
theorem dX12_bids_159 : decode cX12_bids 159 = .ok (.goto (-98), 3) := by decide +kernel
theorem dX12_bids_162 : decode cX12_bids 162 = .ok (.iload_n 1, 1) := by decide +kernel
theorem dX12_bids_163 : decode cX12_bids 163 = .ok (.ifCond .ne 7, 3) := by decide +kernel
theorem dX12_bids_166 : decode cX12_bids 166 = .ok (.iload_n 2, 1) := by decide +kernel
theorem dX12_bids_167 : decode cX12_bids 167 = .ok (.goto 4, 3) := by decide +kernel
theorem dX12_bids_170 : decode cX12_bids 170 = .ok (.iload_n 3, 1) := by decide +kernel
theorem dX12_bids_171 : decode cX12_bids 171 = .ok (.ireturn, 1) := by decide +kernel
theorem dX12_shareOf_0 : decode cX12_shareOf 0 = .ok (.iload_n 1, 1) := by decide +kernel
theorem dX12_shareOf_1 : decode cX12_shareOf 1 = .ok (.iload_n 2, 1) := by decide +kernel
theorem dX12_shareOf_2 : decode cX12_shareOf 2 = .ok (.if_icmp .ne 14, 3) := by decide +kernel
theorem dX12_shareOf_5 : decode cX12_shareOf 5 = .ok (.aload_n 0, 1) := by decide +kernel
theorem dX12_shareOf_6 : decode cX12_shareOf 6 = .ok (.getfield 120, 3) := by decide +kernel
theorem dX12_shareOf_9 : decode cX12_shareOf 9 = .ok (.iload_n 1, 1) := by decide +kernel
theorem dX12_shareOf_10 : decode cX12_shareOf 10 = .ok (.iaload, 1) := by decide +kernel
theorem dX12_shareOf_11 : decode cX12_shareOf 11 = .ok (.iconst 2, 1) := by decide +kernel
theorem dX12_shareOf_12 : decode cX12_shareOf 12 = .ok (.idiv, 1) := by decide +kernel
theorem dX12_shareOf_13 : decode cX12_shareOf 13 = .ok (.goto 9, 3) := by decide +kernel
theorem dX12_shareOf_16 : decode cX12_shareOf 16 = .ok (.aload_n 0, 1) := by decide +kernel
theorem dX12_shareOf_17 : decode cX12_shareOf 17 = .ok (.getfield 120, 3) := by decide +kernel
theorem dX12_shareOf_20 : decode cX12_shareOf 20 = .ok (.iload_n 1, 1) := by decide +kernel
theorem dX12_shareOf_21 : decode cX12_shareOf 21 = .ok (.iaload, 1) := by decide +kernel
theorem dX12_shareOf_22 : decode cX12_shareOf 22 = .ok (.ireturn, 1) := by decide +kernel
set_option maxRecDepth 20000 in
theorem ggX12_isRest_X12_shareOf : GoodIn wsX12_isRest wsX12_shareOf := goodIn_r _ [6, 7, 8, 9, 10, 11, 12, 13, 14, 15, 16, 17, 18, 19, 20, 21, 22, 23, 24, 25, 26, 27, 28, 29, 30, 31, 32, 33, 34, 35, 36, 37, 38, 39, 40, 41, 42, 43, 44, 45, 46, 47, 48, 49, 50, 51, 52, 53, 54, 55, 56, 57, 58, 59, 60, 61, 62, 63, 64, 65, 66, 67, 68, 69, 70, 71, 72, 73] rfl (by decide +kernel)
set_option maxRecDepth 20000 in
theorem gX12_isRest_X12_shareOf : GoodIn wsX12_isRest (wsV RX12 470 RX12 yX12_shareOf wsX12_shareOf) := goodIn_app (goodIn_r _ [2, 3, 4, 5] rfl (by decide +kernel)) ggX12_isRest_X12_shareOf
theorem dX12_isRest_0 : decode cX12_isRest 0 = .ok (.iconst 0, 1) := by decide +kernel
theorem dX12_isRest_1 : decode cX12_isRest 1 = .ok (.istore_n 3, 1) := by decide +kernel
theorem dX12_isRest_2 : decode cX12_isRest 2 = .ok (.iload_n 3, 1) := by decide +kernel
theorem dX12_isRest_3 : decode cX12_isRest 3 = .ok (.aload_n 0, 1) := by decide +kernel
theorem dX12_isRest_4 : decode cX12_isRest 4 = .ok (.getfield 13, 3) := by decide +kernel
theorem dX12_isRest_7 : decode cX12_isRest 7 = .ok (.iconst 0, 1) := by decide +kernel
theorem dX12_isRest_8 : decode cX12_isRest 8 = .ok (.iaload, 1) := by decide +kernel
theorem dX12_isRest_9 : decode cX12_isRest 9 = .ok (.if_icmp .ge 41, 3) := by decide +kernel
theorem dX12_isRest_12 : decode cX12_isRest 12 = .ok (.aload_n 0, 1) := by decide +kernel
theorem dX12_isRest_13 : decode cX12_isRest 13 = .ok (.iload_n 3, 1) := by decide +kernel
theorem dX12_isRest_14 : decode cX12_isRest 14 = .ok (.iload_n 2, 1) := by decide +kernel
theorem dX12_isRest_15 : decode cX12_isRest 15 = .ok (.invokevirtual 470, 3) := by decide +kernel
theorem dX12_isRest_18 : decode cX12_isRest 18 = .ok (.aload_n 0, 1) := by decide +kernel
theorem dX12_isRest_19 : decode cX12_isRest 19 = .ok (.iload_n 1, 1) := by decide +kernel
theorem dX12_isRest_20 : decode cX12_isRest 20 = .ok (.iload_n 2, 1) := by decide +kernel
theorem dX12_isRest_21 : decode cX12_isRest 21 = .ok (.invokevirtual 470, 3) := by decide +kernel
theorem dX12_isRest_24 : decode cX12_isRest 24 = .ok (.if_icmp .gt 18, 3) := by decide +kernel
theorem dX12_isRest_27 : decode cX12_isRest 27 = .ok (.aload_n 0, 1) := by decide +kernel
theorem dX12_isRest_28 : decode cX12_isRest 28 = .ok (.iload_n 3, 1) := by decide +kernel
theorem dX12_isRest_29 : decode cX12_isRest 29 = .ok (.iload_n 1, 1) := by decide +kernel
theorem dX12_isRest_30 : decode cX12_isRest 30 = .ok (.invokevirtual 470, 3) := by decide +kernel
theorem dX12_isRest_33 : decode cX12_isRest 33 = .ok (.aload_n 0, 1) := by decide +kernel
theorem dX12_isRest_34 : decode cX12_isRest 34 = .ok (.iload_n 2, 1) := by decide +kernel
theorem dX12_isRest_35 : decode cX12_isRest 35 = .ok (.iload_n 1, 1) := by decide +kernel
theorem dX12_isRest_36 : decode cX12_isRest 36 = .ok (.invokevirtual 470, 3) := by decide +kernel
theorem dX12_isRest_39 : decode cX12_isRest 39 = .ok (.if_icmp .le 5, 3) := by decide +kernel
theorem dX12_isRest_42 : decode cX12_isRest 42 = .ok (.iconst 0, 1) := by decide +kernel
theorem dX12_isRest_43 : decode cX12_isRest 43 = .ok (.ireturn, 1) := by decide +kernel
theorem dX12_isRest_44 : decode cX12_isRest 44 = .ok (.iinc 3 1, 3) := by decide +kernel
theorem dX12_isRest_47 : decode cX12_isRest 47 = .ok (.goto (-45), 3) := by decide +kernel
theorem dX12_isRest_50 : decode cX12_isRest 50 = .ok (.iconst 1, 1) := by decide +kernel
theorem dX12_isRest_51 : decode cX12_isRest 51 = .ok (.ireturn, 1) := by decide +kernel
set_option maxRecDepth 20000 in
theorem ggX12_restOf_X12_nightsIn : GoodIn wsX12_restOf wsX12_nightsIn := goodIn_r _ [7, 8, 9, 10, 11, 6, 12, 13, 14, 15, 16, 17, 18, 19, 20, 21, 22, 1, 23, 24, 25, 26, 27, 28, 29, 30, 31, 32, 33, 34, 35, 36, 37, 38, 39, 40, 41, 42, 43, 44, 45, 46, 47, 48, 49, 50, 51, 52, 53, 54, 55, 56, 57, 58, 59, 60, 61, 62, 63, 64, 65, 66, 67, 68, 69, 70, 71, 72, 73, 74, 75, 76, 77, 78, 79, 80, 81, 82, 83, 84, 85, 86, 87, 88, 89, 90, 91, 92, 93, 94, 95, 96, 105, 106, 107, 108, 109, 110, 111, 112, 113, 114, 115, 116, 117, 118, 119, 120, 121, 122, 123, 124, 125, 126, 127, 128, 129, 130, 131, 132, 133, 134, 135, 136, 137, 138, 139, 140, 141, 142, 143, 144, 145, 146, 147, 148, 149, 150, 151, 152, 153, 154, 155, 156, 157, 158, 159, 160, 161, 162, 163, 164, 165, 166, 167, 168, 169, 170] rfl (by decide +kernel)
set_option maxRecDepth 20000 in
theorem gX12_restOf_X12_nightsIn : GoodIn wsX12_restOf (wsV RX12 459 RX12 yX12_nightsIn wsX12_nightsIn) := goodIn_app (goodIn_r _ [3, 4, 5, 6] rfl (by decide +kernel)) ggX12_restOf_X12_nightsIn
set_option maxRecDepth 20000 in
theorem ggX12_restOf_X12_isRest : GoodIn wsX12_restOf wsX12_isRest := goodIn_r _ [100, 1, 101, 102, 103, 6, 104, 2, 105, 106, 107, 108, 109, 110, 111, 112, 113, 114, 115, 116, 117, 118, 119, 120, 121, 122, 123, 124, 125, 126, 127, 128, 129, 130, 131, 132, 133, 134, 135, 136, 137, 138, 139, 140, 141, 142, 143, 144, 145, 146, 147, 148, 149, 150, 151, 152, 153, 154, 155, 156, 157, 158, 159, 160, 161, 162, 163, 164, 165, 166, 167, 168, 169, 170] rfl (by decide +kernel)
set_option maxRecDepth 20000 in
theorem gX12_restOf_X12_isRest : GoodIn wsX12_restOf (wsV RX12 473 RX12 yX12_isRest wsX12_isRest) := goodIn_app (goodIn_r _ [97, 98, 99, 6] rfl (by decide +kernel)) ggX12_restOf_X12_isRest
theorem dX12_restOf_0 : decode cX12_restOf 0 = .ok (.iconst 0, 1) := by decide +kernel
theorem dX12_restOf_1 : decode cX12_restOf 1 = .ok (.istore_n 3, 1) := by decide +kernel
theorem dX12_restOf_2 : decode cX12_restOf 2 = .ok (.iload_n 3, 1) := by decide +kernel
theorem dX12_restOf_3 : decode cX12_restOf 3 = .ok (.aload_n 0, 1) := by decide +kernel
theorem dX12_restOf_4 : decode cX12_restOf 4 = .ok (.getfield 13, 3) := by decide +kernel
theorem dX12_restOf_7 : decode cX12_restOf 7 = .ok (.iconst 0, 1) := by decide +kernel
theorem dX12_restOf_8 : decode cX12_restOf 8 = .ok (.iaload, 1) := by decide +kernel
theorem dX12_restOf_9 : decode cX12_restOf 9 = .ok (.if_icmp .ge 21, 3) := by decide +kernel
theorem dX12_restOf_12 : decode cX12_restOf 12 = .ok (.aload_n 0, 1) := by decide +kernel
theorem dX12_restOf_13 : decode cX12_restOf 13 = .ok (.getfield 120, 3) := by decide +kernel
theorem dX12_restOf_16 : decode cX12_restOf 16 = .ok (.iload_n 3, 1) := by decide +kernel
theorem dX12_restOf_17 : decode cX12_restOf 17 = .ok (.aload_n 0, 1) := by decide +kernel
theorem dX12_restOf_18 : decode cX12_restOf 18 = .ok (.iload_n 3, 1) := by decide +kernel
theorem dX12_restOf_19 : decode cX12_restOf 19 = .ok (.iload_n 1, 1) := by decide +kernel
theorem dX12_restOf_20 : decode cX12_restOf 20 = .ok (.invokevirtual 459, 3) := by decide +kernel
theorem dX12_restOf_23 : decode cX12_restOf 23 = .ok (.iastore, 1) := by decide +kernel
theorem dX12_restOf_24 : decode cX12_restOf 24 = .ok (.iinc 3 1, 3) := by decide +kernel
theorem dX12_restOf_27 : decode cX12_restOf 27 = .ok (.goto (-25), 3) := by decide +kernel
theorem dX12_restOf_30 : decode cX12_restOf 30 = .ok (.iconst 0, 1) := by decide +kernel
theorem dX12_restOf_31 : decode cX12_restOf 31 = .ok (.istore_n 3, 1) := by decide +kernel
theorem dX12_restOf_32 : decode cX12_restOf 32 = .ok (.iconst 0, 1) := by decide +kernel
theorem dX12_restOf_33 : decode cX12_restOf 33 = .ok (.istore 4, 2) := by decide +kernel
theorem dX12_restOf_35 : decode cX12_restOf 35 = .ok (.iload 4, 2) := by decide +kernel
theorem dX12_restOf_37 : decode cX12_restOf 37 = .ok (.aload_n 0, 1) := by decide +kernel
theorem dX12_restOf_38 : decode cX12_restOf 38 = .ok (.getfield 13, 3) := by decide +kernel
theorem dX12_restOf_41 : decode cX12_restOf 41 = .ok (.iconst 0, 1) := by decide +kernel
theorem dX12_restOf_42 : decode cX12_restOf 42 = .ok (.iaload, 1) := by decide +kernel
theorem dX12_restOf_43 : decode cX12_restOf 43 = .ok (.if_icmp .ge 60, 3) := by decide +kernel
theorem dX12_restOf_46 : decode cX12_restOf 46 = .ok (.iconst 0, 1) := by decide +kernel
theorem dX12_restOf_47 : decode cX12_restOf 47 = .ok (.istore 5, 2) := by decide +kernel
theorem dX12_restOf_49 : decode cX12_restOf 49 = .ok (.iload 5, 2) := by decide +kernel
theorem dX12_restOf_51 : decode cX12_restOf 51 = .ok (.aload_n 0, 1) := by decide +kernel
theorem dX12_restOf_52 : decode cX12_restOf 52 = .ok (.getfield 13, 3) := by decide +kernel
theorem dX12_restOf_55 : decode cX12_restOf 55 = .ok (.iconst 0, 1) := by decide +kernel
theorem dX12_restOf_56 : decode cX12_restOf 56 = .ok (.iaload, 1) := by decide +kernel
theorem dX12_restOf_57 : decode cX12_restOf 57 = .ok (.if_icmp .ge 40, 3) := by decide +kernel
theorem dX12_restOf_60 : decode cX12_restOf 60 = .ok (.aload_n 0, 1) := by decide +kernel
theorem dX12_restOf_61 : decode cX12_restOf 61 = .ok (.iload 4, 2) := by decide +kernel
theorem dX12_restOf_63 : decode cX12_restOf 63 = .ok (.iload 5, 2) := by decide +kernel
theorem dX12_restOf_65 : decode cX12_restOf 65 = .ok (.invokevirtual 473, 3) := by decide +kernel
theorem dX12_restOf_68 : decode cX12_restOf 68 = .ok (.ifCond .ne 6, 3) := by decide +kernel
theorem dX12_restOf_71 : decode cX12_restOf 71 = .ok (.goto 20, 3) := by decide +kernel
theorem dX12_restOf_74 : decode cX12_restOf 74 = .ok (.iload_n 3, 1) := by decide +kernel
theorem dX12_restOf_75 : decode cX12_restOf 75 = .ok (.iload_n 2, 1) := by decide +kernel
theorem dX12_restOf_76 : decode cX12_restOf 76 = .ok (.if_icmp .ne 12, 3) := by decide +kernel
theorem dX12_restOf_79 : decode cX12_restOf 79 = .ok (.bipush 10, 2) := by decide +kernel
theorem dX12_restOf_81 : decode cX12_restOf 81 = .ok (.iload 4, 2) := by decide +kernel
theorem dX12_restOf_83 : decode cX12_restOf 83 = .ok (.imul, 1) := by decide +kernel
theorem dX12_restOf_84 : decode cX12_restOf 84 = .ok (.iload 5, 2) := by decide +kernel
theorem dX12_restOf_86 : decode cX12_restOf 86 = .ok (.iadd, 1) := by decide +kernel
theorem dX12_restOf_87 : decode cX12_restOf 87 = .ok (.ireturn, 1) := by decide +kernel
theorem dX12_restOf_88 : decode cX12_restOf 88 = .ok (.iinc 3 1, 3) := by decide +kernel
theorem dX12_restOf_91 : decode cX12_restOf 91 = .ok (.iinc 5 1, 3) := by decide +kernel
theorem dX12_restOf_94 : decode cX12_restOf 94 = .ok (.goto (-45), 3) := by decide +kernel
theorem dX12_restOf_97 : decode cX12_restOf 97 = .ok (.iinc 4 1, 3) := by decide +kernel
theorem dX12_restOf_100 : decode cX12_restOf 100 = .ok (.goto (-65), 3) := by decide +kernel
theorem dX12_restOf_103 : decode cX12_restOf 103 = .ok (.iload_n 2, 1) := by decide +kernel
theorem dX12_restOf_104 : decode cX12_restOf 104 = .ok (.iconst (-1), 1) := by decide +kernel
theorem dX12_restOf_105 : decode cX12_restOf 105 = .ok (.if_icmp .ne 7, 3) := by decide +kernel
theorem dX12_restOf_108 : decode cX12_restOf 108 = .ok (.iload_n 3, 1) := by decide +kernel
theorem dX12_restOf_109 : decode cX12_restOf 109 = .ok (.goto 5, 3) := by decide +kernel
theorem dX12_restOf_112 : decode cX12_restOf 112 = .ok (.bipush (-2), 2) := by decide +kernel
theorem dX12_restOf_114 : decode cX12_restOf 114 = .ok (.ireturn, 1) := by decide +kernel
set_option maxRecDepth 20000 in
theorem ggX12_rests_X12_isNights : GoodIn wsX12_rests wsX12_isNights := goodIn_r _ [6, 7, 114, 115, 116, 117, 118, 119, 120, 121, 122, 123, 124, 125, 126, 127, 128, 129, 130, 131, 132, 133, 134, 135, 136, 137, 138, 139, 140, 141, 142, 143, 144, 145, 146, 147, 148, 149, 150, 151, 152, 153, 154, 155, 156, 157, 158, 159, 160, 161, 162, 163, 164, 165, 166, 167, 168, 169, 170, 171, 172, 173, 174, 175, 176, 177, 178, 179] rfl (by decide +kernel)
set_option maxRecDepth 20000 in
theorem gX12_rests_X12_isNights : GoodIn wsX12_rests (wsV RX12 456 RX12 yX12_isNights wsX12_isNights) := goodIn_app (goodIn_r _ [2, 3, 4, 5] rfl (by decide +kernel)) ggX12_rests_X12_isNights
set_option maxRecDepth 20000 in
theorem ggX12_rests_X12_restOf : GoodIn wsX12_rests wsX12_restOf := goodIn_r _ [11, 7, 12, 13, 14, 15, 5, 16, 17, 18, 19, 20, 21, 22, 23, 24, 25, 26, 27, 28, 29, 30, 31, 32, 33, 34, 35, 36, 37, 38, 39, 40, 41, 42, 43, 44, 45, 46, 47, 48, 49, 50, 51, 52, 53, 54, 55, 56, 57, 58, 59, 60, 61, 62, 63, 64, 65, 66, 67, 68, 69, 70, 71, 72, 73, 74, 75, 76, 77, 78, 79, 80, 81, 82, 83, 84, 85, 86, 87, 88, 89, 90, 91, 92, 93, 94, 95, 96, 97, 98, 99, 100, 101, 102, 103, 104, 105, 106, 107, 108, 109, 110, 111, 112, 113, 114, 115, 116, 117, 118, 119, 120, 121, 122, 123, 124, 125, 126, 127, 128, 129, 130, 131, 132, 133, 134, 135, 136, 137, 138, 139, 140, 141, 142, 143, 144, 145, 146, 147, 148, 149, 150, 151, 152, 153, 154, 155, 156, 157, 158, 159, 160, 161, 162, 163, 164, 165, 166, 167, 168, 169, 170, 171, 172, 173, 174, 175, 176, 177, 178, 179] rfl (by decide +kernel)
set_option maxRecDepth 20000 in
theorem gX12_rests_X12_restOf : GoodIn wsX12_rests (wsV RX12 477 RX12 yX12_restOf wsX12_restOf) := goodIn_app (goodIn_r _ [8, 9, 10, 5] rfl (by decide +kernel)) ggX12_rests_X12_restOf
theorem dX12_rests_0 : decode cX12_rests 0 = .ok (.aload_n 0, 1) := by decide +kernel
theorem dX12_rests_1 : decode cX12_rests 1 = .ok (.iconst 0, 1) := by decide +kernel
theorem dX12_rests_2 : decode cX12_rests 2 = .ok (.putfield 145, 3) := by decide +kernel
theorem dX12_rests_5 : decode cX12_rests 5 = .ok (.aload_n 0, 1) := by decide +kernel
theorem dX12_rests_6 : decode cX12_rests 6 = .ok (.iload_n 1, 1) := by decide +kernel
theorem dX12_rests_7 : decode cX12_rests 7 = .ok (.invokevirtual 456, 3) := by decide +kernel
theorem dX12_rests_10 : decode cX12_rests 10 = .ok (.ifCond .eq 12, 3) := by decide +kernel
theorem dX12_rests_13 : decode cX12_rests 13 = .ok (.aload_n 0, 1) := by decide +kernel
theorem dX12_rests_14 : decode cX12_rests 14 = .ok (.iload_n 1, 1) := by decide +kernel
theorem dX12_rests_15 : decode cX12_rests 15 = .ok (.iconst (-1), 1) := by decide +kernel
theorem dX12_rests_16 : decode cX12_rests 16 = .ok (.invokevirtual 477, 3) := by decide +kernel
theorem dX12_rests_19 : decode cX12_rests 19 = .ok (.goto 4, 3) := by decide +kernel
theorem dX12_rests_22 : decode cX12_rests 22 = .ok (.iconst (-1), 1) := by decide +kernel
theorem dX12_rests_23 : decode cX12_rests 23 = .ok (.ireturn, 1) := by decide +kernel
set_option maxRecDepth 20000 in
theorem ggX12_rest_X12_isNights : GoodIn wsX12_rest wsX12_isNights := goodIn_r _ [6, 7, 114, 115, 116, 117, 118, 119, 120, 121, 122, 123, 124, 125, 126, 127, 128, 129, 130, 131, 132, 133, 134, 135, 136, 137, 138, 139, 140, 141, 142, 143, 144, 145, 146, 147, 148, 149, 150, 151, 152, 153, 154, 155, 156, 157, 158, 159, 160, 161, 162, 163, 164, 165, 166, 167, 168, 169, 170, 171, 172, 173, 174, 175, 176, 177, 178, 179] rfl (by decide +kernel)
set_option maxRecDepth 20000 in
theorem gX12_rest_X12_isNights : GoodIn wsX12_rest (wsV RX12 456 RX12 yX12_isNights wsX12_isNights) := goodIn_app (goodIn_r _ [2, 3, 4, 5] rfl (by decide +kernel)) ggX12_rest_X12_isNights
set_option maxRecDepth 20000 in
theorem ggX12_rest_X12_restOf : GoodIn wsX12_rest wsX12_restOf := goodIn_r _ [11, 7, 12, 13, 14, 15, 5, 16, 17, 18, 19, 20, 21, 22, 23, 24, 25, 26, 27, 28, 29, 30, 31, 32, 33, 34, 35, 36, 37, 38, 39, 40, 41, 42, 43, 44, 45, 46, 47, 48, 49, 50, 51, 52, 53, 54, 55, 56, 57, 58, 59, 60, 61, 62, 63, 64, 65, 66, 67, 68, 69, 70, 71, 72, 73, 74, 75, 76, 77, 78, 79, 80, 81, 82, 83, 84, 85, 86, 87, 88, 89, 90, 91, 92, 93, 94, 95, 96, 97, 98, 99, 100, 101, 102, 103, 104, 105, 106, 107, 108, 109, 110, 111, 112, 113, 114, 115, 116, 117, 118, 119, 120, 121, 122, 123, 124, 125, 126, 127, 128, 129, 130, 131, 132, 133, 134, 135, 136, 137, 138, 139, 140, 141, 142, 143, 144, 145, 146, 147, 148, 149, 150, 151, 152, 153, 154, 155, 156, 157, 158, 159, 160, 161, 162, 163, 164, 165, 166, 167, 168, 169, 170, 171, 172, 173, 174, 175, 176, 177, 178, 179] rfl (by decide +kernel)
set_option maxRecDepth 20000 in
theorem gX12_rest_X12_restOf : GoodIn wsX12_rest (wsV RX12 477 RX12 yX12_restOf wsX12_restOf) := goodIn_app (goodIn_r _ [8, 9, 10, 5] rfl (by decide +kernel)) ggX12_rest_X12_restOf
theorem dX12_rest_0 : decode cX12_rest 0 = .ok (.aload_n 0, 1) := by decide +kernel
theorem dX12_rest_1 : decode cX12_rest 1 = .ok (.iconst 0, 1) := by decide +kernel
theorem dX12_rest_2 : decode cX12_rest 2 = .ok (.putfield 145, 3) := by decide +kernel
theorem dX12_rest_5 : decode cX12_rest 5 = .ok (.aload_n 0, 1) := by decide +kernel
theorem dX12_rest_6 : decode cX12_rest 6 = .ok (.iload_n 1, 1) := by decide +kernel
theorem dX12_rest_7 : decode cX12_rest 7 = .ok (.invokevirtual 456, 3) := by decide +kernel
theorem dX12_rest_10 : decode cX12_rest 10 = .ok (.ifCond .eq 16, 3) := by decide +kernel
theorem dX12_rest_13 : decode cX12_rest 13 = .ok (.iload_n 2, 1) := by decide +kernel
theorem dX12_rest_14 : decode cX12_rest 14 = .ok (.ifCond .lt 12, 3) := by decide +kernel
theorem dX12_rest_17 : decode cX12_rest 17 = .ok (.aload_n 0, 1) := by decide +kernel
theorem dX12_rest_18 : decode cX12_rest 18 = .ok (.iload_n 1, 1) := by decide +kernel
theorem dX12_rest_19 : decode cX12_rest 19 = .ok (.iload_n 2, 1) := by decide +kernel
theorem dX12_rest_20 : decode cX12_rest 20 = .ok (.invokevirtual 477, 3) := by decide +kernel
theorem dX12_rest_23 : decode cX12_rest 23 = .ok (.goto 4, 3) := by decide +kernel
theorem dX12_rest_26 : decode cX12_rest 26 = .ok (.iconst (-1), 1) := by decide +kernel
theorem dX12_rest_27 : decode cX12_rest 27 = .ok (.ireturn, 1) := by decide +kernel
set_option maxRecDepth 20000 in
theorem ggX12_note_X12_isBay : GoodIn wsX12_note wsX12_isBay := goodIn_r _ [11, 12, 13, 14, 15, 16, 17, 18, 19, 20, 21, 22, 23, 24, 25, 26, 27, 28, 29, 30, 31, 32, 33, 34, 35, 36, 37, 38, 39, 40, 41, 42, 43, 44, 45, 46, 47, 48, 49, 50, 51, 52, 53, 54, 55, 56, 57, 58, 59, 60, 61, 62, 63, 64, 65, 66, 67, 68, 69, 70, 71, 72, 73, 74, 75, 76, 77, 78] rfl (by decide +kernel)
set_option maxRecDepth 20000 in
theorem gX12_note_X12_isBay : GoodIn wsX12_note (wsV RX12 415 RX12 yX12_isBay wsX12_isBay) := goodIn_app (goodIn_r _ [7, 8, 9, 10] rfl (by decide +kernel)) ggX12_note_X12_isBay
theorem dX12_note_0 : decode cX12_note 0 = .ok (.aload_n 0, 1) := by decide +kernel
theorem dX12_note_1 : decode cX12_note 1 = .ok (.iconst 0, 1) := by decide +kernel
theorem dX12_note_2 : decode cX12_note 2 = .ok (.putfield 145, 3) := by decide +kernel
theorem dX12_note_5 : decode cX12_note 5 = .ok (.aload_n 0, 1) := by decide +kernel
theorem dX12_note_6 : decode cX12_note 6 = .ok (.iload_n 1, 1) := by decide +kernel
theorem dX12_note_7 : decode cX12_note 7 = .ok (.invokevirtual 415, 3) := by decide +kernel
theorem dX12_note_10 : decode cX12_note 10 = .ok (.ifCond .eq 22, 3) := by decide +kernel
theorem dX12_note_13 : decode cX12_note 13 = .ok (.iload_n 2, 1) := by decide +kernel
theorem dX12_note_14 : decode cX12_note 14 = .ok (.ifCond .lt 18, 3) := by decide +kernel
theorem dX12_note_17 : decode cX12_note 17 = .ok (.iload_n 2, 1) := by decide +kernel
theorem dX12_note_18 : decode cX12_note 18 = .ok (.bipush 99, 2) := by decide +kernel
theorem dX12_note_20 : decode cX12_note 20 = .ok (.if_icmp .gt 12, 3) := by decide +kernel
theorem dX12_note_23 : decode cX12_note 23 = .ok (.aload_n 0, 1) := by decide +kernel
theorem dX12_note_24 : decode cX12_note 24 = .ok (.getfield 301, 3) := by decide +kernel
theorem dX12_note_27 : decode cX12_note 27 = .ok (.bipush 24, 2) := by decide +kernel
theorem dX12_note_29 : decode cX12_note 29 = .ok (.if_icmp .ne 5, 3) := by decide +kernel
theorem dX12_note_32 : decode cX12_note 32 = .ok (.iconst (-1), 1) := by decide +kernel
theorem dX12_note_33 : decode cX12_note 33 = .ok (.ireturn, 1) := by decide +kernel
theorem dX12_note_34 : decode cX12_note 34 = .ok (.aload_n 0, 1) := by decide +kernel
theorem dX12_note_35 : decode cX12_note 35 = .ok (.getfield 126, 3) := by decide +kernel
theorem dX12_note_38 : decode cX12_note 38 = .ok (.aload_n 0, 1) := by decide +kernel
theorem dX12_note_39 : decode cX12_note 39 = .ok (.getfield 301, 3) := by decide +kernel
theorem dX12_note_42 : decode cX12_note 42 = .ok (.iload_n 1, 1) := by decide +kernel
theorem dX12_note_43 : decode cX12_note 43 = .ok (.iastore, 1) := by decide +kernel
theorem dX12_note_44 : decode cX12_note 44 = .ok (.aload_n 0, 1) := by decide +kernel
theorem dX12_note_45 : decode cX12_note 45 = .ok (.getfield 129, 3) := by decide +kernel
theorem dX12_note_48 : decode cX12_note 48 = .ok (.aload_n 0, 1) := by decide +kernel
theorem dX12_note_49 : decode cX12_note 49 = .ok (.getfield 301, 3) := by decide +kernel
theorem dX12_note_52 : decode cX12_note 52 = .ok (.iload_n 2, 1) := by decide +kernel
theorem dX12_note_53 : decode cX12_note 53 = .ok (.iastore, 1) := by decide +kernel
theorem dX12_note_54 : decode cX12_note 54 = .ok (.aload_n 0, 1) := by decide +kernel
theorem dX12_note_55 : decode cX12_note 55 = .ok (.getfield 132, 3) := by decide +kernel
theorem dX12_note_58 : decode cX12_note 58 = .ok (.aload_n 0, 1) := by decide +kernel
theorem dX12_note_59 : decode cX12_note 59 = .ok (.getfield 301, 3) := by decide +kernel
theorem dX12_note_62 : decode cX12_note 62 = .ok (.iload_n 3, 1) := by decide +kernel
theorem dX12_note_63 : decode cX12_note 63 = .ok (.bastore, 1) := by decide +kernel
theorem dX12_note_64 : decode cX12_note 64 = .ok (.aload_n 0, 1) := by decide +kernel
theorem dX12_note_65 : decode cX12_note 65 = .ok (.getfield 136, 3) := by decide +kernel
theorem dX12_note_68 : decode cX12_note 68 = .ok (.aload_n 0, 1) := by decide +kernel
theorem dX12_note_69 : decode cX12_note 69 = .ok (.getfield 301, 3) := by decide +kernel
theorem dX12_note_72 : decode cX12_note 72 = .ok (.iconst (-1), 1) := by decide +kernel
theorem dX12_note_73 : decode cX12_note 73 = .ok (.iastore, 1) := by decide +kernel
theorem dX12_note_74 : decode cX12_note 74 = .ok (.aload_n 0, 1) := by decide +kernel
theorem dX12_note_75 : decode cX12_note 75 = .ok (.dup, 1) := by decide +kernel
theorem dX12_note_76 : decode cX12_note 76 = .ok (.getfield 301, 3) := by decide +kernel
theorem dX12_note_79 : decode cX12_note 79 = .ok (.iconst 1, 1) := by decide +kernel
theorem dX12_note_80 : decode cX12_note 80 = .ok (.iadd, 1) := by decide +kernel
theorem dX12_note_81 : decode cX12_note 81 = .ok (.putfield 301, 3) := by decide +kernel
theorem dX12_note_84 : decode cX12_note 84 = .ok (.aload_n 0, 1) := by decide +kernel
theorem dX12_note_85 : decode cX12_note 85 = .ok (.getfield 301, 3) := by decide +kernel
theorem dX12_note_88 : decode cX12_note 88 = .ok (.iconst 1, 1) := by decide +kernel
theorem dX12_note_89 : decode cX12_note 89 = .ok (.isub, 1) := by decide +kernel
theorem dX12_note_90 : decode cX12_note 90 = .ok (.ireturn, 1) := by decide +kernel
theorem dX12_out_0 : decode cX12_out 0 = .ok (.aload_n 0, 1) := by decide +kernel
theorem dX12_out_1 : decode cX12_out 1 = .ok (.iconst 0, 1) := by decide +kernel
theorem dX12_out_2 : decode cX12_out 2 = .ok (.putfield 145, 3) := by decide +kernel
theorem dX12_out_5 : decode cX12_out 5 = .ok (.iload_n 1, 1) := by decide +kernel
theorem dX12_out_6 : decode cX12_out 6 = .ok (.ifCond .lt 20, 3) := by decide +kernel
theorem dX12_out_9 : decode cX12_out 9 = .ok (.iload_n 1, 1) := by decide +kernel
theorem dX12_out_10 : decode cX12_out 10 = .ok (.aload_n 0, 1) := by decide +kernel
theorem dX12_out_11 : decode cX12_out 11 = .ok (.getfield 301, 3) := by decide +kernel
theorem dX12_out_14 : decode cX12_out 14 = .ok (.if_icmp .ge 12, 3) := by decide +kernel
theorem dX12_out_17 : decode cX12_out 17 = .ok (.aload_n 0, 1) := by decide +kernel
theorem dX12_out_18 : decode cX12_out 18 = .ok (.getfield 301, 3) := by decide +kernel
theorem dX12_out_21 : decode cX12_out 21 = .ok (.bipush 24, 2) := by decide +kernel
theorem dX12_out_23 : decode cX12_out 23 = .ok (.if_icmp .ne 5, 3) := by decide +kernel
theorem dX12_out_26 : decode cX12_out 26 = .ok (.iconst (-1), 1) := by decide +kernel
theorem dX12_out_27 : decode cX12_out 27 = .ok (.ireturn, 1) := by decide +kernel
theorem dX12_out_28 : decode cX12_out 28 = .ok (.aload_n 0, 1) := by decide +kernel
theorem dX12_out_29 : decode cX12_out 29 = .ok (.getfield 136, 3) := by decide +kernel
theorem dX12_out_32 : decode cX12_out 32 = .ok (.aload_n 0, 1) := by decide +kernel
theorem dX12_out_33 : decode cX12_out 33 = .ok (.getfield 301, 3) := by decide +kernel
theorem dX12_out_36 : decode cX12_out 36 = .ok (.iload_n 1, 1) := by decide +kernel
theorem dX12_out_37 : decode cX12_out 37 = .ok (.iastore, 1) := by decide +kernel
theorem dX12_out_38 : decode cX12_out 38 = .ok (.aload_n 0, 1) := by decide +kernel
theorem dX12_out_39 : decode cX12_out 39 = .ok (.dup, 1) := by decide +kernel
theorem dX12_out_40 : decode cX12_out 40 = .ok (.getfield 301, 3) := by decide +kernel
theorem dX12_out_43 : decode cX12_out 43 = .ok (.iconst 1, 1) := by decide +kernel
theorem dX12_out_44 : decode cX12_out 44 = .ok (.iadd, 1) := by decide +kernel
theorem dX12_out_45 : decode cX12_out 45 = .ok (.putfield 301, 3) := by decide +kernel
theorem dX12_out_48 : decode cX12_out 48 = .ok (.aload_n 0, 1) := by decide +kernel
theorem dX12_out_49 : decode cX12_out 49 = .ok (.getfield 301, 3) := by decide +kernel
theorem dX12_out_52 : decode cX12_out 52 = .ok (.iconst 1, 1) := by decide +kernel
theorem dX12_out_53 : decode cX12_out 53 = .ok (.isub, 1) := by decide +kernel
theorem dX12_out_54 : decode cX12_out 54 = .ok (.ireturn, 1) := by decide +kernel
theorem dX12_known_0 : decode cX12_known 0 = .ok (.aload_n 0, 1) := by decide +kernel
theorem dX12_known_1 : decode cX12_known 1 = .ok (.iconst 0, 1) := by decide +kernel
theorem dX12_known_2 : decode cX12_known 2 = .ok (.putfield 145, 3) := by decide +kernel
theorem dX12_known_5 : decode cX12_known 5 = .ok (.iload_n 1, 1) := by decide +kernel
theorem dX12_known_6 : decode cX12_known 6 = .ok (.iconst (-1), 1) := by decide +kernel
theorem dX12_known_7 : decode cX12_known 7 = .ok (.if_icmp .lt 11, 3) := by decide +kernel
theorem dX12_known_10 : decode cX12_known 10 = .ok (.iload_n 1, 1) := by decide +kernel
theorem dX12_known_11 : decode cX12_known 11 = .ok (.aload_n 0, 1) := by decide +kernel
theorem dX12_known_12 : decode cX12_known 12 = .ok (.getfield 301, 3) := by decide +kernel
theorem dX12_known_15 : decode cX12_known 15 = .ok (.if_icmp .le 5, 3) := by decide +kernel
theorem dX12_known_18 : decode cX12_known 18 = .ok (.iconst 0, 1) := by decide +kernel
theorem dX12_known_19 : decode cX12_known 19 = .ok (.ireturn, 1) := by decide +kernel
theorem dX12_known_20 : decode cX12_known 20 = .ok (.aload_n 0, 1) := by decide +kernel
theorem dX12_known_21 : decode cX12_known 21 = .ok (.iload_n 1, 1) := by decide +kernel
theorem dX12_known_22 : decode cX12_known 22 = .ok (.putfield 123, 3) := by decide +kernel
theorem dX12_known_25 : decode cX12_known 25 = .ok (.iconst 1, 1) := by decide +kernel
theorem dX12_known_26 : decode cX12_known 26 = .ok (.ireturn, 1) := by decide +kernel
theorem dX12_knownMany_0 : decode cX12_knownMany 0 = .ok (.aload_n 0, 1) := by decide +kernel
theorem dX12_knownMany_1 : decode cX12_knownMany 1 = .ok (.getfield 123, 3) := by decide +kernel
theorem dX12_knownMany_4 : decode cX12_knownMany 4 = .ok (.iconst (-1), 1) := by decide +kernel
theorem dX12_knownMany_5 : decode cX12_knownMany 5 = .ok (.if_icmp .ne 10, 3) := by decide +kernel
theorem dX12_knownMany_8 : decode cX12_knownMany 8 = .ok (.aload_n 0, 1) := by decide +kernel
theorem dX12_knownMany_9 : decode cX12_knownMany 9 = .ok (.getfield 301, 3) := by decide +kernel
theorem dX12_knownMany_12 : decode cX12_knownMany 12 = .ok (.goto 7, 3) := by decide +kernel
theorem dX12_knownMany_15 : decode cX12_knownMany 15 = .ok (.aload_n 0, 1) := by decide +kernel
theorem dX12_knownMany_16 : decode cX12_knownMany 16 = .ok (.getfield 123, 3) := by decide +kernel
theorem dX12_knownMany_19 : decode cX12_knownMany 19 = .ok (.ireturn, 1) := by decide +kernel
set_option maxRecDepth 20000 in
theorem ggX12_areSo_X12_knownMany : GoodIn wsX12_areSo wsX12_knownMany := goodIn_r _ [10, 11, 12, 103, 104, 105, 106, 107, 108, 109, 110, 111, 112, 113, 114, 115, 116, 117, 118, 119, 120, 121, 122, 123, 124, 125, 126, 127, 128, 129, 130, 131, 132, 133, 134, 135, 136, 137, 138, 139, 140, 141, 142, 143, 144, 145, 146, 147, 148, 149, 150, 151, 152, 153, 154, 155, 156, 157, 158, 159, 160, 161, 162, 163, 164, 165, 166, 167, 168] rfl (by decide +kernel)
set_option maxRecDepth 20000 in
theorem gX12_areSo_X12_knownMany : GoodIn wsX12_areSo (wsV RX12 480 RX12 yX12_knownMany wsX12_knownMany) := goodIn_app (goodIn_r _ [6, 7, 8, 9] rfl (by decide +kernel)) ggX12_areSo_X12_knownMany
set_option maxRecDepth 20000 in
theorem ggX12_areSo_X12_willHold : GoodIn wsX12_areSo wsX12_willHold := goodIn_r _ [16, 17, 18, 19, 20, 21, 22, 9, 23, 24, 25, 26, 27, 28, 29, 30, 31, 32, 33, 34, 35, 36, 37, 38, 39, 40, 41, 42, 43, 44, 45, 46, 47, 48, 49, 50, 51, 52, 53, 54, 55, 56, 57, 58, 59, 60, 61, 62, 63, 64, 65, 66, 67, 68, 69, 70, 71, 72, 73, 74, 75, 76, 77, 78, 79, 80, 81, 82, 83, 84, 85, 86, 87, 88, 89, 90, 91, 92, 93, 94, 95, 96, 97, 98, 99, 100, 101, 102, 103, 104, 105, 106, 107, 108, 109, 110, 111, 112, 113, 114, 115, 116, 117, 118, 119, 120, 121, 122, 123, 124, 125, 126, 127, 128, 129, 130, 131, 132, 133, 134, 135, 136, 137, 138, 139, 140, 141, 142, 143, 144, 145, 146, 147, 148, 149, 150, 151, 152, 153, 154, 155, 156, 157, 158, 159, 160, 161, 162, 163, 164, 165, 166, 167, 168] rfl (by decide +kernel)
set_option maxRecDepth 20000 in
theorem gX12_areSo_X12_willHold : GoodIn wsX12_areSo (wsV RX12 427 RX12 yX12_willHold wsX12_willHold) := goodIn_app (goodIn_r _ [13, 14, 15, 9] rfl (by decide +kernel)) ggX12_areSo_X12_willHold
theorem dX12_areSo_0 : decode cX12_areSo 0 = .ok (.iconst 0, 1) := by decide +kernel
theorem dX12_areSo_1 : decode cX12_areSo 1 = .ok (.istore_n 1, 1) := by decide +kernel
theorem dX12_areSo_2 : decode cX12_areSo 2 = .ok (.iload_n 1, 1) := by decide +kernel
theorem dX12_areSo_3 : decode cX12_areSo 3 = .ok (.aload_n 0, 1) := by decide +kernel
theorem dX12_areSo_4 : decode cX12_areSo 4 = .ok (.invokevirtual 480, 3) := by decide +kernel
theorem dX12_areSo_7 : decode cX12_areSo 7 = .ok (.if_icmp .ge 57, 3) := by decide +kernel
theorem dX12_areSo_10 : decode cX12_areSo 10 = .ok (.aload_n 0, 1) := by decide +kernel
theorem dX12_areSo_11 : decode cX12_areSo 11 = .ok (.getfield 139, 3) := by decide +kernel
theorem dX12_areSo_14 : decode cX12_areSo 14 = .ok (.iload_n 1, 1) := by decide +kernel
theorem dX12_areSo_15 : decode cX12_areSo 15 = .ok (.baload, 1) := by decide +kernel
theorem dX12_areSo_16 : decode cX12_areSo 16 = .ok (.ifCond .ne 42, 3) := by decide +kernel
theorem dX12_areSo_19 : decode cX12_areSo 19 = .ok (.aload_n 0, 1) := by decide +kernel
theorem dX12_areSo_20 : decode cX12_areSo 20 = .ok (.getfield 136, 3) := by decide +kernel
theorem dX12_areSo_23 : decode cX12_areSo 23 = .ok (.iload_n 1, 1) := by decide +kernel
theorem dX12_areSo_24 : decode cX12_areSo 24 = .ok (.iaload, 1) := by decide +kernel
theorem dX12_areSo_25 : decode cX12_areSo 25 = .ok (.iconst (-1), 1) := by decide +kernel
theorem dX12_areSo_26 : decode cX12_areSo 26 = .ok (.if_icmp .ne 32, 3) := by decide +kernel
theorem dX12_areSo_29 : decode cX12_areSo 29 = .ok (.aload_n 0, 1) := by decide +kernel
theorem dX12_areSo_30 : decode cX12_areSo 30 = .ok (.iconst 2, 1) := by decide +kernel
theorem dX12_areSo_31 : decode cX12_areSo 31 = .ok (.aload_n 0, 1) := by decide +kernel
theorem dX12_areSo_32 : decode cX12_areSo 32 = .ok (.getfield 126, 3) := by decide +kernel
theorem dX12_areSo_35 : decode cX12_areSo 35 = .ok (.iload_n 1, 1) := by decide +kernel
theorem dX12_areSo_36 : decode cX12_areSo 36 = .ok (.iaload, 1) := by decide +kernel
theorem dX12_areSo_37 : decode cX12_areSo 37 = .ok (.aload_n 0, 1) := by decide +kernel
theorem dX12_areSo_38 : decode cX12_areSo 38 = .ok (.getfield 129, 3) := by decide +kernel
theorem dX12_areSo_41 : decode cX12_areSo 41 = .ok (.iload_n 1, 1) := by decide +kernel
theorem dX12_areSo_42 : decode cX12_areSo 42 = .ok (.iaload, 1) := by decide +kernel
theorem dX12_areSo_43 : decode cX12_areSo 43 = .ok (.iconst (-1), 1) := by decide +kernel
theorem dX12_areSo_44 : decode cX12_areSo 44 = .ok (.invokevirtual 427, 3) := by decide +kernel
theorem dX12_areSo_47 : decode cX12_areSo 47 = .ok (.aload_n 0, 1) := by decide +kernel
theorem dX12_areSo_48 : decode cX12_areSo 48 = .ok (.getfield 132, 3) := by decide +kernel
theorem dX12_areSo_51 : decode cX12_areSo 51 = .ok (.iload_n 1, 1) := by decide +kernel
theorem dX12_areSo_52 : decode cX12_areSo 52 = .ok (.baload, 1) := by decide +kernel
theorem dX12_areSo_53 : decode cX12_areSo 53 = .ok (.if_icmp .eq 5, 3) := by decide +kernel
theorem dX12_areSo_56 : decode cX12_areSo 56 = .ok (.iconst 0, 1) := by decide +kernel
theorem dX12_areSo_57 : decode cX12_areSo 57 = .ok (.ireturn, 1) := by decide +kernel
theorem dX12_areSo_58 : decode cX12_areSo 58 = .ok (.iinc 1 1, 3) := by decide +kernel
theorem dX12_areSo_61 : decode cX12_areSo 61 = .ok (.goto (-59), 3) := by decide +kernel
theorem dX12_areSo_64 : decode cX12_areSo 64 = .ok (.iconst 1, 1) := by decide +kernel
theorem dX12_areSo_65 : decode cX12_areSo 65 = .ok (.ireturn, 1) := by decide +kernel
set_option maxRecDepth 20000 in
theorem ggX12_wasOf_X12_starts : GoodIn wsX12_wasOf wsX12_starts := goodIn_r _ [9, 10, 11, 12, 13, 14, 15, 16, 17, 18, 19, 20, 21, 22, 119, 120, 121, 122, 123, 124, 125, 126, 127, 128, 129, 130, 131, 132, 133, 134, 135, 136, 137, 138, 139, 140, 141, 142, 143, 144, 145, 146, 147, 148, 149, 150, 151, 152, 153, 154, 155, 156, 157, 158, 159, 160, 161, 162, 163, 164, 165, 166, 167, 168, 169, 170, 171, 172, 173, 174, 175, 176, 177, 178, 179, 180, 181, 182, 183, 184] rfl (by decide +kernel)
set_option maxRecDepth 20000 in
theorem gX12_wasOf_X12_starts : GoodIn wsX12_wasOf (wsV RX12 311 RX12 yX12_starts wsX12_starts) := goodIn_app (goodIn_r _ [5, 6, 7, 8] rfl (by decide +kernel)) ggX12_wasOf_X12_starts
set_option maxRecDepth 20000 in
theorem ggX12_wasOf_X12_knownMany : GoodIn wsX12_wasOf wsX12_knownMany := goodIn_r _ [26, 27, 28, 119, 120, 121, 122, 123, 124, 125, 126, 127, 128, 129, 130, 131, 132, 133, 134, 135, 136, 137, 138, 139, 140, 141, 142, 143, 144, 145, 146, 147, 148, 149, 150, 151, 152, 153, 154, 155, 156, 157, 158, 159, 160, 161, 162, 163, 164, 165, 166, 167, 168, 169, 170, 171, 172, 173, 174, 175, 176, 177, 178, 179, 180, 181, 182, 183, 184] rfl (by decide +kernel)
set_option maxRecDepth 20000 in
theorem gX12_wasOf_X12_knownMany : GoodIn wsX12_wasOf (wsV RX12 480 RX12 yX12_knownMany wsX12_knownMany) := goodIn_app (goodIn_r _ [23, 24, 25, 8] rfl (by decide +kernel)) ggX12_wasOf_X12_knownMany
set_option maxRecDepth 20000 in
theorem ggX12_wasOf_X12_areSo : GoodIn wsX12_wasOf wsX12_areSo := goodIn_r _ [32, 1, 2, 33, 34, 35, 23, 24, 25, 8, 26, 27, 28, 36, 37, 38, 39, 40, 41, 42, 43, 44, 45, 46, 20, 21, 22, 10, 12, 47, 48, 49, 50, 51, 52, 53, 54, 55, 56, 57, 58, 59, 60, 61, 62, 63, 64, 3, 4, 65, 66, 67, 68, 69, 70, 71, 72, 73, 74, 75, 76, 77, 78, 79, 80, 81, 82, 83, 84, 85, 86, 87, 88, 89, 90, 91, 92, 93, 94, 95, 96, 97, 98, 99, 100, 101, 102, 103, 104, 105, 106, 107, 108, 109, 110, 111, 112, 113, 114, 115, 116, 117, 118, 119, 120, 121, 122, 123, 124, 125, 126, 127, 128, 129, 130, 131, 132, 133, 134, 135, 136, 137, 138, 139, 140, 141, 142, 143, 144, 145, 146, 147, 148, 149, 150, 151, 152, 153, 154, 155, 156, 157, 158, 159, 160, 161, 162, 163, 164, 165, 166, 167, 168, 169, 170, 171, 172, 173, 174, 175, 176, 177, 178, 179, 180, 181, 182, 183, 184] rfl (by decide +kernel)
set_option maxRecDepth 20000 in
theorem gX12_wasOf_X12_areSo : GoodIn wsX12_wasOf (wsV RX12 483 RX12 yX12_areSo wsX12_areSo) := goodIn_app (goodIn_r _ [29, 30, 31, 8] rfl (by decide +kernel)) ggX12_wasOf_X12_areSo
theorem dX12_wasOf_0 : decode cX12_wasOf 0 = .ok (.aload_n 0, 1) := by decide +kernel
theorem dX12_wasOf_1 : decode cX12_wasOf 1 = .ok (.iconst 2, 1) := by decide +kernel
theorem dX12_wasOf_2 : decode cX12_wasOf 2 = .ok (.invokevirtual 311, 3) := by decide +kernel
theorem dX12_wasOf_5 : decode cX12_wasOf 5 = .ok (.iconst 0, 1) := by decide +kernel
theorem dX12_wasOf_6 : decode cX12_wasOf 6 = .ok (.istore_n 2, 1) := by decide +kernel
theorem dX12_wasOf_7 : decode cX12_wasOf 7 = .ok (.iload_n 2, 1) := by decide +kernel
theorem dX12_wasOf_8 : decode cX12_wasOf 8 = .ok (.aload_n 0, 1) := by decide +kernel
theorem dX12_wasOf_9 : decode cX12_wasOf 9 = .ok (.invokevirtual 480, 3) := by decide +kernel
theorem dX12_wasOf_12 : decode cX12_wasOf 12 = .ok (.if_icmp .ge 16, 3) := by decide +kernel
theorem dX12_wasOf_15 : decode cX12_wasOf 15 = .ok (.aload_n 0, 1) := by decide +kernel
theorem dX12_wasOf_16 : decode cX12_wasOf 16 = .ok (.getfield 139, 3) := by decide +kernel
theorem dX12_wasOf_19 : decode cX12_wasOf 19 = .ok (.iload_n 2, 1) := by decide +kernel
theorem dX12_wasOf_20 : decode cX12_wasOf 20 = .ok (.iconst 0, 1) := by decide +kernel
theorem dX12_wasOf_21 : decode cX12_wasOf 21 = .ok (.bastore, 1) := by decide +kernel
theorem dX12_wasOf_22 : decode cX12_wasOf 22 = .ok (.iinc 2 1, 3) := by decide +kernel
theorem dX12_wasOf_25 : decode cX12_wasOf 25 = .ok (.goto (-18), 3) := by decide +kernel
theorem dX12_wasOf_28 : decode cX12_wasOf 28 = .ok (.aload_n 0, 1) := by decide +kernel
theorem dX12_wasOf_29 : decode cX12_wasOf 29 = .ok (.invokevirtual 480, 3) := by decide +kernel
theorem dX12_wasOf_32 : decode cX12_wasOf 32 = .ok (.iconst 1, 1) := by decide +kernel
theorem dX12_wasOf_33 : decode cX12_wasOf 33 = .ok (.isub, 1) := by decide +kernel
theorem dX12_wasOf_34 : decode cX12_wasOf 34 = .ok (.istore_n 2, 1) := by decide +kernel
theorem dX12_wasOf_35 : decode cX12_wasOf 35 = .ok (.iload_n 2, 1) := by decide +kernel
theorem dX12_wasOf_36 : decode cX12_wasOf 36 = .ok (.ifCond .lt 40, 3) := by decide +kernel
theorem dX12_wasOf_39 : decode cX12_wasOf 39 = .ok (.aload_n 0, 1) := by decide +kernel
theorem dX12_wasOf_40 : decode cX12_wasOf 40 = .ok (.getfield 139, 3) := by decide +kernel
theorem dX12_wasOf_43 : decode cX12_wasOf 43 = .ok (.iload_n 2, 1) := by decide +kernel
theorem dX12_wasOf_44 : decode cX12_wasOf 44 = .ok (.baload, 1) := by decide +kernel
theorem dX12_wasOf_45 : decode cX12_wasOf 45 = .ok (.ifCond .ne 25, 3) := by decide +kernel
theorem dX12_wasOf_48 : decode cX12_wasOf 48 = .ok (.aload_n 0, 1) := by decide +kernel
theorem dX12_wasOf_49 : decode cX12_wasOf 49 = .ok (.getfield 136, 3) := by decide +kernel
theorem dX12_wasOf_52 : decode cX12_wasOf 52 = .ok (.iload_n 2, 1) := by decide +kernel
theorem dX12_wasOf_53 : decode cX12_wasOf 53 = .ok (.iaload, 1) := by decide +kernel
theorem dX12_wasOf_54 : decode cX12_wasOf 54 = .ok (.iconst (-1), 1) := by decide +kernel
theorem dX12_wasOf_55 : decode cX12_wasOf 55 = .ok (.if_icmp .eq 15, 3) := by decide +kernel
theorem dX12_wasOf_58 : decode cX12_wasOf 58 = .ok (.aload_n 0, 1) := by decide +kernel
theorem dX12_wasOf_59 : decode cX12_wasOf 59 = .ok (.getfield 139, 3) := by decide +kernel
theorem dX12_wasOf_62 : decode cX12_wasOf 62 = .ok (.aload_n 0, 1) := by decide +kernel
theorem dX12_wasOf_63 : decode cX12_wasOf 63 = .ok (.getfield 136, 3) := by decide +kernel
theorem dX12_wasOf_66 : decode cX12_wasOf 66 = .ok (.iload_n 2, 1) := by decide +kernel
theorem dX12_wasOf_67 : decode cX12_wasOf 67 = .ok (.iaload, 1) := by decide +kernel
theorem dX12_wasOf_68 : decode cX12_wasOf 68 = .ok (.iconst 1, 1) := by decide +kernel
theorem dX12_wasOf_69 : decode cX12_wasOf 69 = .ok (.bastore, 1) := by decide +kernel
theorem dX12_wasOf_70 : decode cX12_wasOf 70 = .ok (.iinc 2 (-1), 3) := by decide +kernel
theorem dX12_wasOf_73 : decode cX12_wasOf 73 = .ok (.goto (-38), 3) := by decide +kernel
theorem dX12_wasOf_76 : decode cX12_wasOf 76 = .ok (.iconst 0, 1) := by decide +kernel
theorem dX12_wasOf_77 : decode cX12_wasOf 77 = .ok (.istore_n 2, 1) := by decide +kernel
theorem dX12_wasOf_78 : decode cX12_wasOf 78 = .ok (.aload_n 0, 1) := by decide +kernel
theorem dX12_wasOf_79 : decode cX12_wasOf 79 = .ok (.iload_n 1, 1) := by decide +kernel
theorem dX12_wasOf_80 : decode cX12_wasOf 80 = .ok (.putfield 102, 3) := by decide +kernel
theorem dX12_wasOf_83 : decode cX12_wasOf 83 = .ok (.iconst 0, 1) := by decide +kernel
theorem dX12_wasOf_84 : decode cX12_wasOf 84 = .ok (.istore_n 3, 1) := by decide +kernel
theorem dX12_wasOf_85 : decode cX12_wasOf 85 = .ok (.iload_n 3, 1) := by decide +kernel
theorem dX12_wasOf_86 : decode cX12_wasOf 86 = .ok (.bipush 9, 2) := by decide +kernel
theorem dX12_wasOf_88 : decode cX12_wasOf 88 = .ok (.if_icmp .gt 31, 3) := by decide +kernel
theorem dX12_wasOf_91 : decode cX12_wasOf 91 = .ok (.aload_n 0, 1) := by decide +kernel
theorem dX12_wasOf_92 : decode cX12_wasOf 92 = .ok (.iload_n 3, 1) := by decide +kernel
theorem dX12_wasOf_93 : decode cX12_wasOf 93 = .ok (.putfield 337, 3) := by decide +kernel
theorem dX12_wasOf_96 : decode cX12_wasOf 96 = .ok (.iload_n 2, 1) := by decide +kernel
theorem dX12_wasOf_97 : decode cX12_wasOf 97 = .ok (.aload_n 0, 1) := by decide +kernel
theorem dX12_wasOf_98 : decode cX12_wasOf 98 = .ok (.invokevirtual 483, 3) := by decide +kernel
theorem dX12_wasOf_101 : decode cX12_wasOf 101 = .ok (.ifCond .eq 9, 3) := by decide +kernel
theorem dX12_wasOf_104 : decode cX12_wasOf 104 = .ok (.iconst 1, 1) := by decide +kernel
theorem dX12_wasOf_105 : decode cX12_wasOf 105 = .ok (.iload_n 3, 1) := by decide +kernel
theorem dX12_wasOf_106 : decode cX12_wasOf 106 = .ok (.ishl, 1) := by decide +kernel
theorem dX12_wasOf_107 : decode cX12_wasOf 107 = .ok (.goto 4, 3) := by decide +kernel
theorem dX12_wasOf_110 : decode cX12_wasOf 110 = .ok (.iconst 0, 1) := by decide +kernel
theorem dX12_wasOf_111 : decode cX12_wasOf 111 = .ok (.ior, 1) := by decide +kernel
theorem dX12_wasOf_112 : decode cX12_wasOf 112 = .ok (.istore_n 2, 1) := by decide +kernel
theorem dX12_wasOf_113 : decode cX12_wasOf 113 = .ok (.iinc 3 1, 3) := by decide +kernel
theorem dX12_wasOf_116 : decode cX12_wasOf 116 = .ok (.goto (-31), 3) := by decide +kernel
theorem dX12_wasOf_119 : decode cX12_wasOf 119 = .ok (.aload_n 0, 1) := by decide +kernel
theorem dX12_wasOf_120 : decode cX12_wasOf 120 = .ok (.iconst (-1), 1) := by decide +kernel
theorem dX12_wasOf_121 : decode cX12_wasOf 121 = .ok (.putfield 102, 3) := by decide +kernel
theorem dX12_wasOf_124 : decode cX12_wasOf 124 = .ok (.iload_n 2, 1) := by decide +kernel
theorem dX12_wasOf_125 : decode cX12_wasOf 125 = .ok (.ireturn, 1) := by decide +kernel
set_option maxRecDepth 20000 in
theorem ggX12_was_X12_isDeed : GoodIn wsX12_was wsX12_isDeed := goodIn_r _ [6, 7, 128, 129, 130, 131, 132, 133, 134, 135, 136, 137, 138, 139, 140, 141, 142, 143, 144, 145, 146, 147, 148, 149, 150, 151, 152, 153, 154, 155, 156, 157, 158, 159, 160, 161, 162, 163, 164, 165, 166, 167, 168, 169, 170, 171, 172, 173, 174, 175, 176, 177, 178, 179, 180, 181, 182, 183, 184, 185, 186, 187, 188, 189, 190, 191, 192, 193] rfl (by decide +kernel)
set_option maxRecDepth 20000 in
theorem gX12_was_X12_isDeed : GoodIn wsX12_was (wsV RX12 421 RX12 yX12_isDeed wsX12_isDeed) := goodIn_app (goodIn_r _ [2, 3, 4, 5] rfl (by decide +kernel)) ggX12_was_X12_isDeed
set_option maxRecDepth 20000 in
theorem ggX12_was_X12_wasOf : GoodIn wsX12_was wsX12_wasOf := goodIn_r _ [11, 12, 13, 14, 15, 16, 17, 18, 5, 19, 20, 21, 7, 22, 23, 24, 25, 26, 27, 28, 29, 30, 31, 32, 33, 34, 35, 36, 37, 38, 39, 40, 41, 42, 43, 44, 45, 46, 47, 48, 49, 50, 51, 52, 53, 54, 55, 56, 57, 58, 59, 60, 61, 62, 63, 64, 65, 66, 67, 68, 69, 70, 71, 72, 73, 74, 75, 76, 77, 78, 79, 80, 81, 82, 83, 84, 85, 86, 87, 88, 89, 90, 91, 92, 93, 94, 95, 96, 97, 98, 99, 100, 101, 102, 103, 104, 105, 106, 107, 108, 109, 110, 111, 112, 113, 114, 115, 116, 117, 118, 119, 120, 121, 122, 123, 124, 125, 126, 127, 128, 129, 130, 131, 132, 133, 134, 135, 136, 137, 138, 139, 140, 141, 142, 143, 144, 145, 146, 147, 148, 149, 150, 151, 152, 153, 154, 155, 156, 157, 158, 159, 160, 161, 162, 163, 164, 165, 166, 167, 168, 169, 170, 171, 172, 173, 174, 175, 176, 177, 178, 179, 180, 181, 182, 183, 184, 185, 186, 187, 188, 189, 190, 191, 192, 193] rfl (by decide +kernel)
set_option maxRecDepth 20000 in
theorem gX12_was_X12_wasOf : GoodIn wsX12_was (wsV RX12 487 RX12 yX12_wasOf wsX12_wasOf) := goodIn_app (goodIn_r _ [8, 9, 10, 5] rfl (by decide +kernel)) ggX12_was_X12_wasOf
theorem dX12_was_0 : decode cX12_was 0 = .ok (.aload_n 0, 1) := by decide +kernel
theorem dX12_was_1 : decode cX12_was 1 = .ok (.iconst 0, 1) := by decide +kernel
theorem dX12_was_2 : decode cX12_was 2 = .ok (.putfield 145, 3) := by decide +kernel
theorem dX12_was_5 : decode cX12_was 5 = .ok (.aload_n 0, 1) := by decide +kernel
theorem dX12_was_6 : decode cX12_was 6 = .ok (.iload_n 1, 1) := by decide +kernel
theorem dX12_was_7 : decode cX12_was 7 = .ok (.invokevirtual 421, 3) := by decide +kernel
theorem dX12_was_10 : decode cX12_was 10 = .ok (.ifCond .eq 11, 3) := by decide +kernel
theorem dX12_was_13 : decode cX12_was 13 = .ok (.aload_n 0, 1) := by decide +kernel
theorem dX12_was_14 : decode cX12_was 14 = .ok (.iload_n 1, 1) := by decide +kernel
theorem dX12_was_15 : decode cX12_was 15 = .ok (.invokevirtual 487, 3) := by decide +kernel
theorem dX12_was_18 : decode cX12_was 18 = .ok (.goto 4, 3) := by decide +kernel
theorem dX12_was_21 : decode cX12_was 21 = .ok (.iconst (-1), 1) := by decide +kernel
theorem dX12_was_22 : decode cX12_was 22 = .ok (.ireturn, 1) := by decide +kernel
set_option maxRecDepth 20000 in
theorem ggX12_unlikeOn_X12_willHold : GoodIn wsX12_unlikeOn wsX12_willHold := goodIn_r _ [12, 13, 14, 15, 16, 17, 18, 11, 19, 20, 21, 22, 23, 24, 3, 25, 26, 27, 28, 29, 30, 31, 6, 32, 33, 34, 35, 36, 37, 38, 39, 40, 1, 2, 41, 42, 43, 44, 45, 46, 47, 48, 49, 50, 51, 52, 53, 54, 55, 56, 57, 58, 59, 60, 61, 62, 63, 64, 65, 66, 67, 68, 69, 70, 71, 72, 73, 74, 75, 76, 77, 78, 79, 80, 81, 82, 83, 84, 85, 86, 87, 88, 89, 90, 91, 92, 93, 94, 95, 96, 97, 98, 99, 100, 101, 102, 103, 104, 105, 106, 107, 108, 109, 110, 111, 112, 113, 114, 115, 116, 117, 118, 119, 120, 121, 122, 123, 124, 125, 126, 127, 128, 129, 130, 131, 132, 133, 134, 135, 136, 137, 138, 139, 140, 141, 142, 143, 144, 145, 146, 147, 148, 149, 150, 151, 152, 153, 154, 155, 156, 157, 158, 159, 160] rfl (by decide +kernel)
set_option maxRecDepth 20000 in
theorem gX12_unlikeOn_X12_willHold : GoodIn wsX12_unlikeOn (wsV RX12 427 RX12 yX12_willHold wsX12_willHold) := goodIn_app (goodIn_r _ [8, 9, 10, 11] rfl (by decide +kernel)) ggX12_unlikeOn_X12_willHold
theorem dX12_unlikeOn_0 : decode cX12_unlikeOn 0 = .ok (.iconst 0, 1) := by decide +kernel
theorem dX12_unlikeOn_1 : decode cX12_unlikeOn 1 = .ok (.istore 4, 2) := by decide +kernel
theorem dX12_unlikeOn_3 : decode cX12_unlikeOn 3 = .ok (.aload_n 0, 1) := by decide +kernel
theorem dX12_unlikeOn_4 : decode cX12_unlikeOn 4 = .ok (.iload_n 1, 1) := by decide +kernel
theorem dX12_unlikeOn_5 : decode cX12_unlikeOn 5 = .ok (.putfield 102, 3) := by decide +kernel
theorem dX12_unlikeOn_8 : decode cX12_unlikeOn 8 = .ok (.iconst 0, 1) := by decide +kernel
theorem dX12_unlikeOn_9 : decode cX12_unlikeOn 9 = .ok (.istore 5, 2) := by decide +kernel
theorem dX12_unlikeOn_11 : decode cX12_unlikeOn 11 = .ok (.iload 5, 2) := by decide +kernel
theorem dX12_unlikeOn_13 : decode cX12_unlikeOn 13 = .ok (.bipush 9, 2) := by decide +kernel
theorem dX12_unlikeOn_15 : decode cX12_unlikeOn 15 = .ok (.if_icmp .gt 51, 3) := by decide +kernel
theorem dX12_unlikeOn_18 : decode cX12_unlikeOn 18 = .ok (.aload_n 0, 1) := by decide +kernel
theorem dX12_unlikeOn_19 : decode cX12_unlikeOn 19 = .ok (.iload 5, 2) := by decide +kernel
theorem dX12_unlikeOn_21 : decode cX12_unlikeOn 21 = .ok (.putfield 337, 3) := by decide +kernel
theorem dX12_unlikeOn_24 : decode cX12_unlikeOn 24 = .ok (.iload_n 2, 1) := by decide +kernel
theorem dX12_unlikeOn_25 : decode cX12_unlikeOn 25 = .ok (.iload 5, 2) := by decide +kernel
theorem dX12_unlikeOn_27 : decode cX12_unlikeOn 27 = .ok (.ishr, 1) := by decide +kernel
theorem dX12_unlikeOn_28 : decode cX12_unlikeOn 28 = .ok (.iconst 1, 1) := by decide +kernel
theorem dX12_unlikeOn_29 : decode cX12_unlikeOn 29 = .ok (.iand, 1) := by decide +kernel
theorem dX12_unlikeOn_30 : decode cX12_unlikeOn 30 = .ok (.iconst 1, 1) := by decide +kernel
theorem dX12_unlikeOn_31 : decode cX12_unlikeOn 31 = .ok (.if_icmp .ne 29, 3) := by decide +kernel
theorem dX12_unlikeOn_34 : decode cX12_unlikeOn 34 = .ok (.iload 4, 2) := by decide +kernel
theorem dX12_unlikeOn_36 : decode cX12_unlikeOn 36 = .ok (.aload_n 0, 1) := by decide +kernel
theorem dX12_unlikeOn_37 : decode cX12_unlikeOn 37 = .ok (.iconst 2, 1) := by decide +kernel
theorem dX12_unlikeOn_38 : decode cX12_unlikeOn 38 = .ok (.aload_n 0, 1) := by decide +kernel
theorem dX12_unlikeOn_39 : decode cX12_unlikeOn 39 = .ok (.getfield 28, 3) := by decide +kernel
theorem dX12_unlikeOn_42 : decode cX12_unlikeOn 42 = .ok (.iload_n 1, 1) := by decide +kernel
theorem dX12_unlikeOn_43 : decode cX12_unlikeOn 43 = .ok (.iaload, 1) := by decide +kernel
theorem dX12_unlikeOn_44 : decode cX12_unlikeOn 44 = .ok (.iload_n 3, 1) := by decide +kernel
theorem dX12_unlikeOn_45 : decode cX12_unlikeOn 45 = .ok (.iconst (-1), 1) := by decide +kernel
theorem dX12_unlikeOn_46 : decode cX12_unlikeOn 46 = .ok (.invokevirtual 427, 3) := by decide +kernel
theorem dX12_unlikeOn_49 : decode cX12_unlikeOn 49 = .ok (.ifCond .eq 7, 3) := by decide +kernel
theorem dX12_unlikeOn_52 : decode cX12_unlikeOn 52 = .ok (.iconst 1, 1) := by decide +kernel
theorem dX12_unlikeOn_53 : decode cX12_unlikeOn 53 = .ok (.goto 4, 3) := by decide +kernel
theorem dX12_unlikeOn_56 : decode cX12_unlikeOn 56 = .ok (.iconst (-1), 1) := by decide +kernel
theorem dX12_unlikeOn_57 : decode cX12_unlikeOn 57 = .ok (.iadd, 1) := by decide +kernel
theorem dX12_unlikeOn_58 : decode cX12_unlikeOn 58 = .ok (.istore 4, 2) := by decide +kernel
theorem dX12_unlikeOn_60 : decode cX12_unlikeOn 60 = .ok (.iinc 5 1, 3) := by decide +kernel
theorem dX12_unlikeOn_63 : decode cX12_unlikeOn 63 = .ok (.goto (-52), 3) := by decide +kernel
theorem dX12_unlikeOn_66 : decode cX12_unlikeOn 66 = .ok (.aload_n 0, 1) := by decide +kernel
theorem dX12_unlikeOn_67 : decode cX12_unlikeOn 67 = .ok (.iconst (-1), 1) := by decide +kernel
theorem dX12_unlikeOn_68 : decode cX12_unlikeOn 68 = .ok (.putfield 102, 3) := by decide +kernel
theorem dX12_unlikeOn_71 : decode cX12_unlikeOn 71 = .ok (.iload 4, 2) := by decide +kernel
theorem dX12_unlikeOn_73 : decode cX12_unlikeOn 73 = .ok (.invokestatic 490, 3) := by decide +kernel
theorem dX12_unlikeOn_76 : decode cX12_unlikeOn 76 = .ok (.ireturn, 1) := by decide +kernel
set_option maxRecDepth 20000 in
theorem ggX12_tells_X12_isDeed : GoodIn wsX12_tells wsX12_isDeed := goodIn_r _ [7, 8, 135, 136, 137, 138, 139, 140, 141, 142, 143, 144, 145, 146, 147, 148, 149, 150, 151, 152, 153, 154, 155, 156, 157, 158, 159, 160, 161, 162, 163, 164, 165, 166, 167, 168, 169, 170, 171, 172, 173, 174, 175, 176, 177, 178, 179, 180, 181, 182, 183, 184, 185, 186, 187, 188, 189, 190, 191, 192, 193, 194, 195, 196, 197, 198, 199, 200] rfl (by decide +kernel)
set_option maxRecDepth 20000 in
theorem gX12_tells_X12_isDeed : GoodIn wsX12_tells (wsV RX12 421 RX12 yX12_isDeed wsX12_isDeed) := goodIn_app (goodIn_r _ [3, 4, 5, 6] rfl (by decide +kernel)) ggX12_tells_X12_isDeed
set_option maxRecDepth 20000 in
theorem ggX12_tells_X12_wasOf : GoodIn wsX12_tells wsX12_wasOf := goodIn_r _ [12, 13, 14, 15, 16, 17, 18, 19, 6, 20, 21, 22, 8, 23, 24, 25, 26, 27, 28, 29, 30, 31, 32, 33, 34, 35, 36, 37, 38, 39, 40, 41, 42, 43, 44, 45, 46, 47, 48, 49, 50, 51, 52, 53, 54, 55, 56, 57, 2, 58, 59, 60, 61, 62, 63, 64, 65, 66, 67, 68, 69, 70, 71, 72, 73, 74, 75, 76, 77, 78, 79, 80, 81, 82, 83, 84, 85, 86, 87, 88, 89, 90, 91, 92, 93, 94, 95, 96, 97, 98, 99, 100, 101, 102, 103, 104, 105, 106, 107, 108, 109, 110, 111, 112, 113, 114, 115, 116, 117, 118, 119, 120, 121, 122, 123, 124, 125, 126, 127, 135, 136, 137, 138, 139, 140, 141, 142, 143, 144, 145, 146, 147, 148, 149, 150, 151, 152, 153, 154, 155, 156, 157, 158, 159, 160, 161, 162, 163, 164, 165, 166, 167, 168, 169, 170, 171, 172, 173, 174, 175, 176, 177, 178, 179, 180, 181, 182, 183, 184, 185, 186, 187, 188, 189, 190, 191, 192, 193, 194, 195, 196, 197, 198, 199, 200] rfl (by decide +kernel)
set_option maxRecDepth 20000 in
theorem gX12_tells_X12_wasOf : GoodIn wsX12_tells (wsV RX12 487 RX12 yX12_wasOf wsX12_wasOf) := goodIn_app (goodIn_r _ [9, 10, 11, 6] rfl (by decide +kernel)) ggX12_tells_X12_wasOf
set_option maxRecDepth 20000 in
theorem ggX12_tells_X12_unlikeOn : GoodIn wsX12_tells wsX12_unlikeOn := goodIn_r _ [131, 15, 16, 57, 132, 133, 64, 134, 46, 47, 48, 6, 49, 50, 51, 52, 53, 54, 55, 56, 30, 31, 32, 21, 8, 2, 58, 59, 60, 61, 62, 63, 65, 66, 67, 68, 69, 70, 71, 72, 73, 74, 75, 76, 77, 78, 79, 80, 81, 82, 83, 84, 85, 86, 87, 88, 89, 90, 91, 92, 93, 94, 95, 96, 97, 98, 99, 100, 101, 102, 103, 104, 105, 106, 107, 108, 109, 110, 111, 112, 113, 114, 115, 116, 117, 118, 119, 120, 121, 122, 123, 124, 125, 126, 127, 135, 136, 137, 138, 139, 140, 141, 142, 143, 144, 145, 146, 147, 148, 149, 150, 151, 152, 153, 154, 155, 156, 157, 158, 159, 160, 161, 162, 163, 164, 165, 166, 167, 168, 169, 170, 171, 172, 173, 174, 175, 176, 177, 178, 179, 180, 181, 182, 183, 184, 185, 186, 187, 188, 189, 190, 191, 192, 193, 194, 195, 196, 197, 198, 199, 200] rfl (by decide +kernel)
set_option maxRecDepth 20000 in
theorem gX12_tells_X12_unlikeOn : GoodIn wsX12_tells (wsV RX12 492 RX12 yX12_unlikeOn wsX12_unlikeOn) := goodIn_app (goodIn_r _ [128, 129, 130, 6] rfl (by decide +kernel)) ggX12_tells_X12_unlikeOn
theorem dX12_tells_0 : decode cX12_tells 0 = .ok (.aload_n 0, 1) := by decide +kernel
theorem dX12_tells_1 : decode cX12_tells 1 = .ok (.iconst 0, 1) := by decide +kernel
theorem dX12_tells_2 : decode cX12_tells 2 = .ok (.putfield 145, 3) := by decide +kernel
theorem dX12_tells_5 : decode cX12_tells 5 = .ok (.aload_n 0, 1) := by decide +kernel
theorem dX12_tells_6 : decode cX12_tells 6 = .ok (.iload_n 1, 1) := by decide +kernel
theorem dX12_tells_7 : decode cX12_tells 7 = .ok (.invokevirtual 421, 3) := by decide +kernel
theorem dX12_tells_10 : decode cX12_tells 10 = .ok (.ifCond .ne 5, 3) := by decide +kernel
theorem dX12_tells_13 : decode cX12_tells 13 = .ok (.iconst (-1), 1) := by decide +kernel
theorem dX12_tells_14 : decode cX12_tells 14 = .ok (.ireturn, 1) := by decide +kernel
theorem dX12_tells_15 : decode cX12_tells 15 = .ok (.aload_n 0, 1) := by decide +kernel
theorem dX12_tells_16 : decode cX12_tells 16 = .ok (.iload_n 1, 1) := by decide +kernel
theorem dX12_tells_17 : decode cX12_tells 17 = .ok (.invokevirtual 487, 3) := by decide +kernel
theorem dX12_tells_20 : decode cX12_tells 20 = .ok (.istore_n 2, 1) := by decide +kernel
theorem dX12_tells_21 : decode cX12_tells 21 = .ok (.iload_n 2, 1) := by decide +kernel
theorem dX12_tells_22 : decode cX12_tells 22 = .ok (.ifCond .ne 6, 3) := by decide +kernel
theorem dX12_tells_25 : decode cX12_tells 25 = .ok (.bipush (-2), 2) := by decide +kernel
theorem dX12_tells_27 : decode cX12_tells 27 = .ok (.ireturn, 1) := by decide +kernel
theorem dX12_tells_28 : decode cX12_tells 28 = .ok (.aload_n 0, 1) := by decide +kernel
theorem dX12_tells_29 : decode cX12_tells 29 = .ok (.getfield 31, 3) := by decide +kernel
theorem dX12_tells_32 : decode cX12_tells 32 = .ok (.iload_n 1, 1) := by decide +kernel
theorem dX12_tells_33 : decode cX12_tells 33 = .ok (.iaload, 1) := by decide +kernel
theorem dX12_tells_34 : decode cX12_tells 34 = .ok (.istore_n 3, 1) := by decide +kernel
theorem dX12_tells_35 : decode cX12_tells 35 = .ok (.aload_n 0, 1) := by decide +kernel
theorem dX12_tells_36 : decode cX12_tells 36 = .ok (.iload_n 1, 1) := by decide +kernel
theorem dX12_tells_37 : decode cX12_tells 37 = .ok (.iload_n 2, 1) := by decide +kernel
theorem dX12_tells_38 : decode cX12_tells 38 = .ok (.iload_n 3, 1) := by decide +kernel
theorem dX12_tells_39 : decode cX12_tells 39 = .ok (.invokevirtual 492, 3) := by decide +kernel
theorem dX12_tells_42 : decode cX12_tells 42 = .ok (.istore 4, 2) := by decide +kernel
theorem dX12_tells_44 : decode cX12_tells 44 = .ok (.iload_n 3, 1) := by decide +kernel
theorem dX12_tells_45 : decode cX12_tells 45 = .ok (.iconst 1, 1) := by decide +kernel
theorem dX12_tells_46 : decode cX12_tells 46 = .ok (.iadd, 1) := by decide +kernel
theorem dX12_tells_47 : decode cX12_tells 47 = .ok (.istore 5, 2) := by decide +kernel
theorem dX12_tells_49 : decode cX12_tells 49 = .ok (.iload 5, 2) := by decide +kernel
theorem dX12_tells_51 : decode cX12_tells 51 = .ok (.aload_n 0, 1) := by decide +kernel
theorem dX12_tells_52 : decode cX12_tells 52 = .ok (.getfield 31, 3) := by decide +kernel
theorem dX12_tells_55 : decode cX12_tells 55 = .ok (.iload_n 1, 1) := by decide +kernel
theorem dX12_tells_56 : decode cX12_tells 56 = .ok (.iaload, 1) := by decide +kernel
theorem dX12_tells_57 : decode cX12_tells 57 = .ok (.bipush 20, 2) := by decide +kernel
theorem dX12_tells_59 : decode cX12_tells 59 = .ok (.iadd, 1) := by decide +kernel
theorem dX12_tells_60 : decode cX12_tells 60 = .ok (.if_icmp .ge 36, 3) := by decide +kernel
theorem dX12_tells_63 : decode cX12_tells 63 = .ok (.aload_n 0, 1) := by decide +kernel
theorem dX12_tells_64 : decode cX12_tells 64 = .ok (.iload_n 1, 1) := by decide +kernel
theorem dX12_tells_65 : decode cX12_tells 65 = .ok (.iload_n 2, 1) := by decide +kernel
theorem dX12_tells_66 : decode cX12_tells 66 = .ok (.iload 5, 2) := by decide +kernel
theorem dX12_tells_68 : decode cX12_tells 68 = .ok (.invokevirtual 492, 3) := by decide +kernel
theorem dX12_tells_71 : decode cX12_tells 71 = .ok (.istore 6, 2) := by decide +kernel
theorem dX12_tells_73 : decode cX12_tells 73 = .ok (.iload 6, 2) := by decide +kernel
theorem dX12_tells_75 : decode cX12_tells 75 = .ok (.iload 4, 2) := by decide +kernel
theorem dX12_tells_77 : decode cX12_tells 77 = .ok (.if_icmp .lt 6, 3) := by decide +kernel
theorem dX12_tells_80 : decode cX12_tells 80 = .ok (.goto 10, 3) := by decide +kernel
theorem dX12_tells_83 : decode cX12_tells 83 = .ok (.iload 5, 2) := by decide +kernel
theorem dX12_tells_85 : decode cX12_tells 85 = .ok (.istore_n 3, 1) := by decide +kernel
theorem dX12_tells_86 : decode cX12_tells 86 = .ok (.iload 6, 2) := by decide +kernel
theorem dX12_tells_88 : decode cX12_tells 88 = .ok (.istore 4, 2) := by decide +kernel
theorem dX12_tells_90 : decode cX12_tells 90 = .ok (.iinc 5 1, 3) := by decide +kernel
theorem dX12_tells_93 : decode cX12_tells 93 = .ok (.goto (-44), 3) := by decide +kernel
theorem dX12_tells_96 : decode cX12_tells 96 = .ok (.iload_n 3, 1) := by decide +kernel
theorem dX12_tells_97 : decode cX12_tells 97 = .ok (.ireturn, 1) := by decide +kernel
set_option maxRecDepth 20000 in
theorem ggX12_chance_X12_takes : GoodIn wsX12_chance wsX12_takes := goodIn_r _ [9, 10, 11, 12, 13, 14, 15, 4, 16, 2, 17, 18, 19, 114, 115, 116, 117, 118, 119, 120, 121, 122, 123, 124, 125, 126, 127, 128, 129, 130, 131, 132, 133, 134, 135, 136, 137, 138, 139, 140, 141, 142, 143, 144, 145, 146, 147, 148, 149, 150, 151, 152, 153, 154, 155, 156, 157, 158, 159, 160, 161, 162, 163, 164, 165, 166, 167, 168, 169, 170, 171, 172, 173, 174, 175, 176, 177, 178, 179] rfl (by decide +kernel)
set_option maxRecDepth 20000 in
theorem gX12_chance_X12_takes : GoodIn wsX12_chance (wsV RX12 435 RX12 yX12_takes wsX12_takes) := goodIn_app (goodIn_r _ [5, 6, 7, 8] rfl (by decide +kernel)) ggX12_chance_X12_takes
set_option maxRecDepth 20000 in
theorem ggX12_chance_X12_draw : GoodIn wsX12_chance wsX12_draw := goodIn_r _ [23, 2, 24, 25, 114, 115, 116, 117, 118, 119, 120, 121, 122, 123, 124, 125, 126, 127, 128, 129, 130, 131, 132, 133, 134, 135, 136, 137, 138, 139, 140, 141, 142, 143, 144, 145, 146, 147, 148, 149, 150, 151, 152, 153, 154, 155, 156, 157, 158, 159, 160, 161, 162, 163, 164, 165, 166, 167, 168, 169, 170, 171, 172, 173, 174, 175, 176, 177, 178, 179] rfl (by decide +kernel)
set_option maxRecDepth 20000 in
theorem gX12_chance_X12_draw : GoodIn wsX12_chance (wsV RX12 401 RX12 yX12_draw wsX12_draw) := goodIn_app (goodIn_r _ [20, 21, 22, 8] rfl (by decide +kernel)) ggX12_chance_X12_draw
set_option maxRecDepth 20000 in
theorem ggX12_chance_X12_passes : GoodIn wsX12_chance wsX12_passes := goodIn_r _ [29, 30, 31, 10, 32, 33, 34, 13, 12, 11, 16, 35, 36, 37, 8, 38, 39, 40, 41, 42, 43, 44, 45, 17, 46, 47, 48, 49, 18, 19, 50, 51, 52, 53, 14, 15, 4, 54, 55, 56, 20, 21, 22, 23, 2, 24, 25, 57, 58, 59, 60, 61, 62, 63, 64, 65, 66, 67, 68, 69, 70, 71, 72, 73, 74, 75, 76, 77, 78, 79, 80, 81, 82, 3, 83, 84, 85, 86, 87, 88, 89, 90, 91, 92, 93, 94, 95, 96, 97, 98, 99, 100, 101, 102, 103, 104, 105, 106, 107, 108, 109, 110, 111, 112, 113, 114, 115, 116, 117, 118, 119, 120, 121, 122, 123, 124, 125, 126, 127, 128, 129, 130, 131, 132, 133, 134, 135, 136, 137, 138, 139, 140, 141, 142, 143, 144, 145, 146, 147, 148, 149, 150, 151, 152, 153, 154, 155, 156, 157, 158, 159, 160, 161, 162, 163, 164, 165, 166, 167, 168, 169, 170, 171, 172, 173, 174, 175, 176, 177, 178, 179] rfl (by decide +kernel)
set_option maxRecDepth 20000 in
theorem gX12_chance_X12_passes : GoodIn wsX12_chance (wsV RX12 441 RX12 yX12_passes wsX12_passes) := goodIn_app (goodIn_r _ [26, 27, 28, 8] rfl (by decide +kernel)) ggX12_chance_X12_passes
theorem dX12_chance_0 : decode cX12_chance 0 = .ok (.aload_n 0, 1) := by decide +kernel
theorem dX12_chance_1 : decode cX12_chance 1 = .ok (.iconst 0, 1) := by decide +kernel
theorem dX12_chance_2 : decode cX12_chance 2 = .ok (.putfield 145, 3) := by decide +kernel
theorem dX12_chance_5 : decode cX12_chance 5 = .ok (.iload_n 1, 1) := by decide +kernel
theorem dX12_chance_6 : decode cX12_chance 6 = .ok (.ifCond .lt 24, 3) := by decide +kernel
theorem dX12_chance_9 : decode cX12_chance 9 = .ok (.iload_n 2, 1) := by decide +kernel
theorem dX12_chance_10 : decode cX12_chance 10 = .ok (.iconst 1, 1) := by decide +kernel
theorem dX12_chance_11 : decode cX12_chance 11 = .ok (.if_icmp .lt 19, 3) := by decide +kernel
theorem dX12_chance_14 : decode cX12_chance 14 = .ok (.iload_n 2, 1) := by decide +kernel
theorem dX12_chance_15 : decode cX12_chance 15 = .ok (.bipush 60, 2) := by decide +kernel
theorem dX12_chance_17 : decode cX12_chance 17 = .ok (.if_icmp .gt 13, 3) := by decide +kernel
theorem dX12_chance_20 : decode cX12_chance 20 = .ok (.iload_n 3, 1) := by decide +kernel
theorem dX12_chance_21 : decode cX12_chance 21 = .ok (.ifCond .lt 9, 3) := by decide +kernel
theorem dX12_chance_24 : decode cX12_chance 24 = .ok (.iload_n 3, 1) := by decide +kernel
theorem dX12_chance_25 : decode cX12_chance 25 = .ok (.bipush 60, 2) := by decide +kernel
theorem dX12_chance_27 : decode cX12_chance 27 = .ok (.if_icmp .le 5, 3) := by decide +kernel
theorem dX12_chance_30 : decode cX12_chance 30 = .ok (.iconst (-1), 1) := by decide +kernel
theorem dX12_chance_31 : decode cX12_chance 31 = .ok (.ireturn, 1) := by decide +kernel
theorem dX12_chance_32 : decode cX12_chance 32 = .ok (.iload_n 1, 1) := by decide +kernel
theorem dX12_chance_33 : decode cX12_chance 33 = .ok (.istore 4, 2) := by decide +kernel
theorem dX12_chance_35 : decode cX12_chance 35 = .ok (.iconst 0, 1) := by decide +kernel
theorem dX12_chance_36 : decode cX12_chance 36 = .ok (.istore 5, 2) := by decide +kernel
theorem dX12_chance_38 : decode cX12_chance 38 = .ok (.iconst 0, 1) := by decide +kernel
theorem dX12_chance_39 : decode cX12_chance 39 = .ok (.istore 6, 2) := by decide +kernel
theorem dX12_chance_41 : decode cX12_chance 41 = .ok (.iload 6, 2) := by decide +kernel
theorem dX12_chance_43 : decode cX12_chance 43 = .ok (.bipush 10, 2) := by decide +kernel
theorem dX12_chance_45 : decode cX12_chance 45 = .ok (.if_icmp .ge 95, 3) := by decide +kernel
theorem dX12_chance_48 : decode cX12_chance 48 = .ok (.aload_n 0, 1) := by decide +kernel
theorem dX12_chance_49 : decode cX12_chance 49 = .ok (.iconst 1, 1) := by decide +kernel
theorem dX12_chance_50 : decode cX12_chance 50 = .ok (.iconst 0, 1) := by decide +kernel
theorem dX12_chance_51 : decode cX12_chance 51 = .ok (.invokevirtual 435, 3) := by decide +kernel
theorem dX12_chance_54 : decode cX12_chance 54 = .ok (.aload_n 0, 1) := by decide +kernel
theorem dX12_chance_55 : decode cX12_chance 55 = .ok (.getfield 87, 3) := by decide +kernel
theorem dX12_chance_58 : decode cX12_chance 58 = .ok (.iconst 1, 1) := by decide +kernel
theorem dX12_chance_59 : decode cX12_chance 59 = .ok (.iload 4, 2) := by decide +kernel
theorem dX12_chance_61 : decode cX12_chance 61 = .ok (.iastore, 1) := by decide +kernel
theorem dX12_chance_62 : decode cX12_chance 62 = .ok (.iconst 0, 1) := by decide +kernel
theorem dX12_chance_63 : decode cX12_chance 63 = .ok (.istore 7, 2) := by decide +kernel
theorem dX12_chance_65 : decode cX12_chance 65 = .ok (.iload 7, 2) := by decide +kernel
theorem dX12_chance_67 : decode cX12_chance 67 = .ok (.iload_n 2, 1) := by decide +kernel
theorem dX12_chance_68 : decode cX12_chance 68 = .ok (.if_icmp .ge 26, 3) := by decide +kernel
theorem dX12_chance_71 : decode cX12_chance 71 = .ok (.aload_n 0, 1) := by decide +kernel
theorem dX12_chance_72 : decode cX12_chance 72 = .ok (.aload_n 0, 1) := by decide +kernel
theorem dX12_chance_73 : decode cX12_chance 73 = .ok (.iconst 1, 1) := by decide +kernel
theorem dX12_chance_74 : decode cX12_chance 74 = .ok (.bipush 10, 2) := by decide +kernel
theorem dX12_chance_76 : decode cX12_chance 76 = .ok (.invokevirtual 401, 3) := by decide +kernel
theorem dX12_chance_79 : decode cX12_chance 79 = .ok (.putfield 105, 3) := by decide +kernel
theorem dX12_chance_82 : decode cX12_chance 82 = .ok (.aload_n 0, 1) := by decide +kernel
theorem dX12_chance_83 : decode cX12_chance 83 = .ok (.iconst 1, 1) := by decide +kernel
theorem dX12_chance_84 : decode cX12_chance 84 = .ok (.iconst 1, 1) := by decide +kernel
theorem dX12_chance_85 : decode cX12_chance 85 = .ok (.invokevirtual 441, 3) := by decide +kernel
theorem dX12_chance_88 : decode cX12_chance 88 = .ok (.iinc 7 1, 3) := by decide +kernel
theorem dX12_chance_91 : decode cX12_chance 91 = .ok (.goto (-26), 3) := by decide +kernel
theorem dX12_chance_94 : decode cX12_chance 94 = .ok (.aload_n 0, 1) := by decide +kernel
theorem dX12_chance_95 : decode cX12_chance 95 = .ok (.iconst (-1), 1) := by decide +kernel
theorem dX12_chance_96 : decode cX12_chance 96 = .ok (.putfield 105, 3) := by decide +kernel
theorem dX12_chance_99 : decode cX12_chance 99 = .ok (.aload_n 0, 1) := by decide +kernel
theorem dX12_chance_100 : decode cX12_chance 100 = .ok (.getfield 87, 3) := by decide +kernel
theorem dX12_chance_103 : decode cX12_chance 103 = .ok (.iconst 1, 1) := by decide +kernel
theorem dX12_chance_104 : decode cX12_chance 104 = .ok (.iaload, 1) := by decide +kernel
theorem dX12_chance_105 : decode cX12_chance 105 = .ok (.istore 4, 2) := by decide +kernel
theorem dX12_chance_107 : decode cX12_chance 107 = .ok (.iload 5, 2) := by decide +kernel
theorem dX12_chance_109 : decode cX12_chance 109 = .ok (.aload_n 0, 1) := by decide +kernel
theorem dX12_chance_110 : decode cX12_chance 110 = .ok (.getfield 81, 3) := by decide +kernel
theorem dX12_chance_113 : decode cX12_chance 113 = .ok (.iconst 1, 1) := by decide +kernel
theorem dX12_chance_114 : decode cX12_chance 114 = .ok (.iaload, 1) := by decide +kernel
theorem dX12_chance_115 : decode cX12_chance 115 = .ok (.aload_n 0, 1) := by decide +kernel
theorem dX12_chance_116 : decode cX12_chance 116 = .ok (.getfield 81, 3) := by decide +kernel
theorem dX12_chance_119 : decode cX12_chance 119 = .ok (.iconst 0, 1) := by decide +kernel
theorem dX12_chance_120 : decode cX12_chance 120 = .ok (.iaload, 1) := by decide +kernel
theorem dX12_chance_121 : decode cX12_chance 121 = .ok (.isub, 1) := by decide +kernel
theorem dX12_chance_122 : decode cX12_chance 122 = .ok (.iload_n 3, 1) := by decide +kernel
theorem dX12_chance_123 : decode cX12_chance 123 = .ok (.if_icmp .gt 7, 3) := by decide +kernel
theorem dX12_chance_126 : decode cX12_chance 126 = .ok (.iconst 1, 1) := by decide +kernel
theorem dX12_chance_127 : decode cX12_chance 127 = .ok (.goto 4, 3) := by decide +kernel
theorem dX12_chance_130 : decode cX12_chance 130 = .ok (.iconst 0, 1) := by decide +kernel
theorem dX12_chance_131 : decode cX12_chance 131 = .ok (.iadd, 1) := by decide +kernel
theorem dX12_chance_132 : decode cX12_chance 132 = .ok (.istore 5, 2) := by decide +kernel
theorem dX12_chance_134 : decode cX12_chance 134 = .ok (.iinc 6 1, 3) := by decide +kernel
theorem dX12_chance_137 : decode cX12_chance 137 = .ok (.goto (-96), 3) := by decide +kernel
theorem dX12_chance_140 : decode cX12_chance 140 = .ok (.iload 5, 2) := by decide +kernel
theorem dX12_chance_142 : decode cX12_chance 142 = .ok (.ireturn, 1) := by decide +kernel
set_option maxRecDepth 20000 in
theorem ggX12_tried_X12_isDeed : GoodIn wsX12_tried wsX12_isDeed := goodIn_r _ [10, 11, 118, 119, 120, 121, 122, 123, 124, 125, 126, 127, 128, 129, 130, 131, 132, 133, 134, 135, 136, 137, 138, 139, 140, 141, 142, 143, 144, 145, 146, 147, 148, 149, 150, 151, 152, 153, 154, 155, 156, 157, 158, 159, 160, 161, 162, 163, 164, 165, 166, 167, 168, 169, 170, 171, 172, 173, 174, 175, 176, 177, 178, 179, 180, 181, 182, 183] rfl (by decide +kernel)
set_option maxRecDepth 20000 in
theorem gX12_tried_X12_isDeed : GoodIn wsX12_tried (wsV RX12 421 RX12 yX12_isDeed wsX12_isDeed) := goodIn_app (goodIn_r _ [6, 7, 8, 9] rfl (by decide +kernel)) ggX12_tried_X12_isDeed
set_option maxRecDepth 20000 in
theorem ggX12_tried_X12_takes : GoodIn wsX12_tried wsX12_takes := goodIn_r _ [15, 16, 17, 18, 19, 4, 20, 5, 21, 22, 23, 24, 25, 118, 119, 120, 121, 122, 123, 124, 125, 126, 127, 128, 129, 130, 131, 132, 133, 134, 135, 136, 137, 138, 139, 140, 141, 142, 143, 144, 145, 146, 147, 148, 149, 150, 151, 152, 153, 154, 155, 156, 157, 158, 159, 160, 161, 162, 163, 164, 165, 166, 167, 168, 169, 170, 171, 172, 173, 174, 175, 176, 177, 178, 179, 180, 181, 182, 183] rfl (by decide +kernel)
set_option maxRecDepth 20000 in
theorem gX12_tried_X12_takes : GoodIn wsX12_tried (wsV RX12 435 RX12 yX12_takes wsX12_takes) := goodIn_app (goodIn_r _ [12, 13, 14, 9] rfl (by decide +kernel)) ggX12_tried_X12_takes
set_option maxRecDepth 20000 in
theorem ggX12_tried_X12_passes : GoodIn wsX12_tried wsX12_passes := goodIn_r _ [29, 11, 30, 16, 2, 3, 31, 19, 18, 17, 21, 32, 33, 34, 9, 35, 36, 37, 38, 39, 40, 41, 42, 23, 43, 44, 45, 46, 24, 25, 47, 48, 49, 50, 4, 20, 5, 51, 52, 53, 54, 55, 56, 57, 22, 58, 59, 60, 61, 62, 63, 64, 65, 66, 67, 68, 69, 70, 71, 72, 73, 74, 75, 76, 77, 78, 79, 80, 81, 82, 83, 84, 85, 86, 87, 88, 89, 90, 91, 92, 93, 94, 95, 96, 97, 98, 99, 100, 101, 102, 103, 104, 105, 106, 107, 108, 109, 110, 111, 112, 113, 114, 115, 116, 117, 118, 119, 120, 121, 122, 123, 124, 125, 126, 127, 128, 129, 130, 131, 132, 133, 134, 135, 136, 137, 138, 139, 140, 141, 142, 143, 144, 145, 146, 147, 148, 149, 150, 151, 152, 153, 154, 155, 156, 157, 158, 159, 160, 161, 162, 163, 164, 165, 166, 167, 168, 169, 170, 171, 172, 173, 174, 175, 176, 177, 178, 179, 180, 181, 182, 183] rfl (by decide +kernel)
set_option maxRecDepth 20000 in
theorem gX12_tried_X12_passes : GoodIn wsX12_tried (wsV RX12 441 RX12 yX12_passes wsX12_passes) := goodIn_app (goodIn_r _ [26, 27, 28, 9] rfl (by decide +kernel)) ggX12_tried_X12_passes
theorem dX12_tried_0 : decode cX12_tried 0 = .ok (.aload_n 0, 1) := by decide +kernel
theorem dX12_tried_1 : decode cX12_tried 1 = .ok (.iconst 0, 1) := by decide +kernel
theorem dX12_tried_2 : decode cX12_tried 2 = .ok (.putfield 145, 3) := by decide +kernel
theorem dX12_tried_5 : decode cX12_tried 5 = .ok (.iload_n 1, 1) := by decide +kernel
theorem dX12_tried_6 : decode cX12_tried 6 = .ok (.iconst 2, 1) := by decide +kernel
theorem dX12_tried_7 : decode cX12_tried 7 = .ok (.if_icmp .ne 11, 3) := by decide +kernel
theorem dX12_tried_10 : decode cX12_tried 10 = .ok (.aload_n 0, 1) := by decide +kernel
theorem dX12_tried_11 : decode cX12_tried 11 = .ok (.iload_n 2, 1) := by decide +kernel
theorem dX12_tried_12 : decode cX12_tried 12 = .ok (.invokevirtual 421, 3) := by decide +kernel
theorem dX12_tried_15 : decode cX12_tried 15 = .ok (.goto 21, 3) := by decide +kernel
theorem dX12_tried_18 : decode cX12_tried 18 = .ok (.iload_n 1, 1) := by decide +kernel
theorem dX12_tried_19 : decode cX12_tried 19 = .ok (.ifCond .lt 16, 3) := by decide +kernel
theorem dX12_tried_22 : decode cX12_tried 22 = .ok (.iload_n 1, 1) := by decide +kernel
theorem dX12_tried_23 : decode cX12_tried 23 = .ok (.iconst 5, 1) := by decide +kernel
theorem dX12_tried_24 : decode cX12_tried 24 = .ok (.if_icmp .gt 11, 3) := by decide +kernel
theorem dX12_tried_27 : decode cX12_tried 27 = .ok (.iload_n 2, 1) := by decide +kernel
theorem dX12_tried_28 : decode cX12_tried 28 = .ok (.ifCond .ne 7, 3) := by decide +kernel
theorem dX12_tried_31 : decode cX12_tried 31 = .ok (.iconst 1, 1) := by decide +kernel
theorem dX12_tried_32 : decode cX12_tried 32 = .ok (.goto 4, 3) := by decide +kernel
theorem dX12_tried_35 : decode cX12_tried 35 = .ok (.iconst 0, 1) := by decide +kernel
theorem dX12_tried_36 : decode cX12_tried 36 = .ok (.istore 4, 2) := by decide +kernel
theorem dX12_tried_38 : decode cX12_tried 38 = .ok (.iload 4, 2) := by decide +kernel
theorem dX12_tried_40 : decode cX12_tried 40 = .ok (.ifCond .eq 13, 3) := by decide +kernel
theorem dX12_tried_43 : decode cX12_tried 43 = .ok (.iload_n 3, 1) := by decide +kernel
theorem dX12_tried_44 : decode cX12_tried 44 = .ok (.ifCond .lt 9, 3) := by decide +kernel
theorem dX12_tried_47 : decode cX12_tried 47 = .ok (.iload_n 3, 1) := by decide +kernel
theorem dX12_tried_48 : decode cX12_tried 48 = .ok (.bipush 60, 2) := by decide +kernel
theorem dX12_tried_50 : decode cX12_tried 50 = .ok (.if_icmp .le 5, 3) := by decide +kernel
theorem dX12_tried_53 : decode cX12_tried 53 = .ok (.iconst (-1), 1) := by decide +kernel
theorem dX12_tried_54 : decode cX12_tried 54 = .ok (.ireturn, 1) := by decide +kernel
theorem dX12_tried_55 : decode cX12_tried 55 = .ok (.aload_n 0, 1) := by decide +kernel
theorem dX12_tried_56 : decode cX12_tried 56 = .ok (.iload_n 1, 1) := by decide +kernel
theorem dX12_tried_57 : decode cX12_tried 57 = .ok (.putfield 334, 3) := by decide +kernel
theorem dX12_tried_60 : decode cX12_tried 60 = .ok (.aload_n 0, 1) := by decide +kernel
theorem dX12_tried_61 : decode cX12_tried 61 = .ok (.iload_n 2, 1) := by decide +kernel
theorem dX12_tried_62 : decode cX12_tried 62 = .ok (.putfield 99, 3) := by decide +kernel
theorem dX12_tried_65 : decode cX12_tried 65 = .ok (.aload_n 0, 1) := by decide +kernel
theorem dX12_tried_66 : decode cX12_tried 66 = .ok (.iconst 1, 1) := by decide +kernel
theorem dX12_tried_67 : decode cX12_tried 67 = .ok (.iconst 0, 1) := by decide +kernel
theorem dX12_tried_68 : decode cX12_tried 68 = .ok (.invokevirtual 435, 3) := by decide +kernel
theorem dX12_tried_71 : decode cX12_tried 71 = .ok (.iload_n 1, 1) := by decide +kernel
theorem dX12_tried_72 : decode cX12_tried 72 = .ok (.iconst 4, 1) := by decide +kernel
theorem dX12_tried_73 : decode cX12_tried 73 = .ok (.if_icmp .lt 19, 3) := by decide +kernel
theorem dX12_tried_76 : decode cX12_tried 76 = .ok (.aload_n 0, 1) := by decide +kernel
theorem dX12_tried_77 : decode cX12_tried 77 = .ok (.getfield 75, 3) := by decide +kernel
theorem dX12_tried_80 : decode cX12_tried 80 = .ok (.iconst 1, 1) := by decide +kernel
theorem dX12_tried_81 : decode cX12_tried 81 = .ok (.iload_n 1, 1) := by decide +kernel
theorem dX12_tried_82 : decode cX12_tried 82 = .ok (.iconst 4, 1) := by decide +kernel
theorem dX12_tried_83 : decode cX12_tried 83 = .ok (.if_icmp .ne 7, 3) := by decide +kernel
theorem dX12_tried_86 : decode cX12_tried 86 = .ok (.iconst 1, 1) := by decide +kernel
theorem dX12_tried_87 : decode cX12_tried 87 = .ok (.goto 4, 3) := by decide +kernel
theorem dX12_tried_90 : decode cX12_tried 90 = .ok (.iconst 0, 1) := by decide +kernel
theorem dX12_tried_91 : decode cX12_tried 91 = .ok (.iastore, 1) := by decide +kernel
theorem dX12_tried_92 : decode cX12_tried 92 = .ok (.iconst 0, 1) := by decide +kernel
theorem dX12_tried_93 : decode cX12_tried 93 = .ok (.istore 5, 2) := by decide +kernel
theorem dX12_tried_95 : decode cX12_tried 95 = .ok (.iload 5, 2) := by decide +kernel
theorem dX12_tried_97 : decode cX12_tried 97 = .ok (.iload_n 3, 1) := by decide +kernel
theorem dX12_tried_98 : decode cX12_tried 98 = .ok (.if_icmp .ge 15, 3) := by decide +kernel
theorem dX12_tried_101 : decode cX12_tried 101 = .ok (.aload_n 0, 1) := by decide +kernel
theorem dX12_tried_102 : decode cX12_tried 102 = .ok (.iconst 1, 1) := by decide +kernel
theorem dX12_tried_103 : decode cX12_tried 103 = .ok (.iconst 0, 1) := by decide +kernel
theorem dX12_tried_104 : decode cX12_tried 104 = .ok (.invokevirtual 441, 3) := by decide +kernel
theorem dX12_tried_107 : decode cX12_tried 107 = .ok (.iinc 5 1, 3) := by decide +kernel
theorem dX12_tried_110 : decode cX12_tried 110 = .ok (.goto (-15), 3) := by decide +kernel
theorem dX12_tried_113 : decode cX12_tried 113 = .ok (.aload_n 0, 1) := by decide +kernel
theorem dX12_tried_114 : decode cX12_tried 114 = .ok (.iconst 0, 1) := by decide +kernel
theorem dX12_tried_115 : decode cX12_tried 115 = .ok (.putfield 334, 3) := by decide +kernel
theorem dX12_tried_118 : decode cX12_tried 118 = .ok (.aload_n 0, 1) := by decide +kernel
theorem dX12_tried_119 : decode cX12_tried 119 = .ok (.iconst (-1), 1) := by decide +kernel
theorem dX12_tried_120 : decode cX12_tried 120 = .ok (.putfield 99, 3) := by decide +kernel
theorem dX12_tried_123 : decode cX12_tried 123 = .ok (.aload_n 0, 1) := by decide +kernel
theorem dX12_tried_124 : decode cX12_tried 124 = .ok (.getfield 81, 3) := by decide +kernel
theorem dX12_tried_127 : decode cX12_tried 127 = .ok (.iconst 1, 1) := by decide +kernel
theorem dX12_tried_128 : decode cX12_tried 128 = .ok (.iaload, 1) := by decide +kernel
theorem dX12_tried_129 : decode cX12_tried 129 = .ok (.aload_n 0, 1) := by decide +kernel
theorem dX12_tried_130 : decode cX12_tried 130 = .ok (.getfield 81, 3) := by decide +kernel
theorem dX12_tried_133 : decode cX12_tried 133 = .ok (.iconst 0, 1) := by decide +kernel
theorem dX12_tried_134 : decode cX12_tried 134 = .ok (.iaload, 1) := by decide +kernel
theorem dX12_tried_135 : decode cX12_tried 135 = .ok (.isub, 1) := by decide +kernel
theorem dX12_tried_136 : decode cX12_tried 136 = .ok (.ireturn, 1) := by decide +kernel
set_option maxRecDepth 20000 in
theorem ggX12_undo_X12_takes : GoodIn wsX12_undo wsX12_takes := goodIn_r _ [7, 8, 9, 10, 11, 12, 13, 14, 15, 16, 17, 18, 19, 20, 21, 22, 23, 24, 25, 26, 27, 28, 29, 30, 31, 32, 33, 34, 35, 36, 37, 38, 39, 40, 41, 42, 43, 44, 45, 46, 47, 48, 49, 50, 51, 52, 53, 54, 55, 56, 57, 58, 59, 60, 61, 62, 63, 64, 65, 66, 67, 68, 69, 70, 71, 72, 73, 74, 75, 76, 77, 78, 79, 80, 81, 82, 83, 84, 85] rfl (by decide +kernel)
set_option maxRecDepth 20000 in
theorem gX12_undo_X12_takes : GoodIn wsX12_undo (wsV RX12 435 RX12 yX12_takes wsX12_takes) := goodIn_app (goodIn_r _ [3, 4, 5, 6] rfl (by decide +kernel)) ggX12_undo_X12_takes
theorem dX12_undo_0 : decode cX12_undo 0 = .ok (.aload_n 0, 1) := by decide +kernel
theorem dX12_undo_1 : decode cX12_undo 1 = .ok (.iconst 0, 1) := by decide +kernel
theorem dX12_undo_2 : decode cX12_undo 2 = .ok (.putfield 145, 3) := by decide +kernel
theorem dX12_undo_5 : decode cX12_undo 5 = .ok (.aload_n 0, 1) := by decide +kernel
theorem dX12_undo_6 : decode cX12_undo 6 = .ok (.getfield 308, 3) := by decide +kernel
theorem dX12_undo_9 : decode cX12_undo 9 = .ok (.ifCond .ne 5, 3) := by decide +kernel
theorem dX12_undo_12 : decode cX12_undo 12 = .ok (.iconst (-1), 1) := by decide +kernel
theorem dX12_undo_13 : decode cX12_undo 13 = .ok (.ireturn, 1) := by decide +kernel
theorem dX12_undo_14 : decode cX12_undo 14 = .ok (.aload_n 0, 1) := by decide +kernel
theorem dX12_undo_15 : decode cX12_undo 15 = .ok (.dup, 1) := by decide +kernel
theorem dX12_undo_16 : decode cX12_undo 16 = .ok (.getfield 308, 3) := by decide +kernel
theorem dX12_undo_19 : decode cX12_undo 19 = .ok (.iconst 1, 1) := by decide +kernel
theorem dX12_undo_20 : decode cX12_undo 20 = .ok (.isub, 1) := by decide +kernel
theorem dX12_undo_21 : decode cX12_undo 21 = .ok (.putfield 308, 3) := by decide +kernel
theorem dX12_undo_24 : decode cX12_undo 24 = .ok (.aload_n 0, 1) := by decide +kernel
theorem dX12_undo_25 : decode cX12_undo 25 = .ok (.iconst 0, 1) := by decide +kernel
theorem dX12_undo_26 : decode cX12_undo 26 = .ok (.iconst 4, 1) := by decide +kernel
theorem dX12_undo_27 : decode cX12_undo 27 = .ok (.aload_n 0, 1) := by decide +kernel
theorem dX12_undo_28 : decode cX12_undo 28 = .ok (.getfield 308, 3) := by decide +kernel
theorem dX12_undo_31 : decode cX12_undo 31 = .ok (.iadd, 1) := by decide +kernel
theorem dX12_undo_32 : decode cX12_undo 32 = .ok (.invokevirtual 435, 3) := by decide +kernel
theorem dX12_undo_35 : decode cX12_undo 35 = .ok (.aload_n 0, 1) := by decide +kernel
theorem dX12_undo_36 : decode cX12_undo 36 = .ok (.getfield 308, 3) := by decide +kernel
theorem dX12_undo_39 : decode cX12_undo 39 = .ok (.ireturn, 1) := by decide +kernel
set_option maxRecDepth 20000 in
theorem ggX12_keep_X12_takes : GoodIn wsX12_keep wsX12_takes := goodIn_r _ [8, 3, 9, 10, 11, 12, 13, 14, 15, 16, 17, 18, 19, 20, 21, 22, 23, 24, 25, 26, 27, 28, 29, 30, 31, 32, 33, 34, 35, 36, 37, 38, 39, 40, 41, 42, 43, 44, 45, 46, 47, 48, 49, 50, 51, 52, 53, 54, 55, 56, 57, 58, 59, 60, 61, 62, 63, 64, 65, 66, 67, 68, 69, 70, 71, 72, 73, 74, 75, 76, 77, 78, 79, 80, 81, 82, 83, 84, 85] rfl (by decide +kernel)
set_option maxRecDepth 20000 in
theorem gX12_keep_X12_takes : GoodIn wsX12_keep (wsV RX12 435 RX12 yX12_takes wsX12_takes) := goodIn_app (goodIn_r _ [4, 5, 6, 7] rfl (by decide +kernel)) ggX12_keep_X12_takes
theorem dX12_keep_0 : decode cX12_keep 0 = .ok (.aload_n 0, 1) := by decide +kernel
theorem dX12_keep_1 : decode cX12_keep 1 = .ok (.iconst 0, 1) := by decide +kernel
theorem dX12_keep_2 : decode cX12_keep 2 = .ok (.putfield 145, 3) := by decide +kernel
theorem dX12_keep_5 : decode cX12_keep 5 = .ok (.aload_n 0, 1) := by decide +kernel
theorem dX12_keep_6 : decode cX12_keep 6 = .ok (.iconst 3, 1) := by decide +kernel
theorem dX12_keep_7 : decode cX12_keep 7 = .ok (.iconst 0, 1) := by decide +kernel
theorem dX12_keep_8 : decode cX12_keep 8 = .ok (.invokevirtual 435, 3) := by decide +kernel
theorem dX12_keep_11 : decode cX12_keep 11 = .ok (.aload_n 0, 1) := by decide +kernel
theorem dX12_keep_12 : decode cX12_keep 12 = .ok (.iconst 1, 1) := by decide +kernel
theorem dX12_keep_13 : decode cX12_keep 13 = .ok (.putfield 304, 3) := by decide +kernel
theorem dX12_keep_16 : decode cX12_keep 16 = .ok (.aload_n 0, 1) := by decide +kernel
theorem dX12_keep_17 : decode cX12_keep 17 = .ok (.getfield 63, 3) := by decide +kernel
theorem dX12_keep_20 : decode cX12_keep 20 = .ok (.iconst 0, 1) := by decide +kernel
theorem dX12_keep_21 : decode cX12_keep 21 = .ok (.iaload, 1) := by decide +kernel
theorem dX12_keep_22 : decode cX12_keep 22 = .ok (.ireturn, 1) := by decide +kernel
set_option maxRecDepth 20000 in
theorem ggX12_back_X12_takes : GoodIn wsX12_back wsX12_takes := goodIn_r _ [9, 4, 10, 11, 12, 13, 14, 15, 16, 17, 18, 19, 20, 21, 22, 23, 24, 25, 26, 27, 28, 29, 30, 31, 32, 33, 34, 35, 36, 37, 38, 39, 40, 41, 42, 43, 44, 45, 46, 47, 48, 49, 50, 51, 52, 53, 54, 55, 56, 57, 58, 59, 60, 61, 62, 63, 64, 65, 66, 67, 68, 69, 70, 71, 72, 73, 74, 75, 76, 77, 78, 79, 80, 81, 82, 83, 84, 85, 86] rfl (by decide +kernel)
set_option maxRecDepth 20000 in
theorem gX12_back_X12_takes : GoodIn wsX12_back (wsV RX12 435 RX12 yX12_takes wsX12_takes) := goodIn_app (goodIn_r _ [5, 6, 7, 8] rfl (by decide +kernel)) ggX12_back_X12_takes
theorem dX12_back_0 : decode cX12_back 0 = .ok (.aload_n 0, 1) := by decide +kernel
theorem dX12_back_1 : decode cX12_back 1 = .ok (.iconst 0, 1) := by decide +kernel
theorem dX12_back_2 : decode cX12_back 2 = .ok (.putfield 145, 3) := by decide +kernel
theorem dX12_back_5 : decode cX12_back 5 = .ok (.aload_n 0, 1) := by decide +kernel
theorem dX12_back_6 : decode cX12_back 6 = .ok (.getfield 304, 3) := by decide +kernel
theorem dX12_back_9 : decode cX12_back 9 = .ok (.ifCond .ne 5, 3) := by decide +kernel
theorem dX12_back_12 : decode cX12_back 12 = .ok (.iconst (-1), 1) := by decide +kernel
theorem dX12_back_13 : decode cX12_back 13 = .ok (.ireturn, 1) := by decide +kernel
theorem dX12_back_14 : decode cX12_back 14 = .ok (.aload_n 0, 1) := by decide +kernel
theorem dX12_back_15 : decode cX12_back 15 = .ok (.iconst 0, 1) := by decide +kernel
theorem dX12_back_16 : decode cX12_back 16 = .ok (.iconst 3, 1) := by decide +kernel
theorem dX12_back_17 : decode cX12_back 17 = .ok (.invokevirtual 435, 3) := by decide +kernel
theorem dX12_back_20 : decode cX12_back 20 = .ok (.aload_n 0, 1) := by decide +kernel
theorem dX12_back_21 : decode cX12_back 21 = .ok (.iconst 0, 1) := by decide +kernel
theorem dX12_back_22 : decode cX12_back 22 = .ok (.putfield 308, 3) := by decide +kernel
theorem dX12_back_25 : decode cX12_back 25 = .ok (.aload_n 0, 1) := by decide +kernel
theorem dX12_back_26 : decode cX12_back 26 = .ok (.getfield 63, 3) := by decide +kernel
theorem dX12_back_29 : decode cX12_back 29 = .ok (.iconst 0, 1) := by decide +kernel
theorem dX12_back_30 : decode cX12_back 30 = .ok (.iaload, 1) := by decide +kernel
theorem dX12_back_31 : decode cX12_back 31 = .ok (.ireturn, 1) := by decide +kernel
set_option maxRecDepth 20000 in
theorem ggX12_count_X12_knownMany : GoodIn wsX12_count wsX12_knownMany := goodIn_r _ [17, 18, 11, 19, 20, 21, 22, 23, 24, 25, 26, 27, 28, 29, 30, 31, 32, 33, 34, 35, 36, 37, 38, 39, 40, 41, 42, 43, 44, 45, 46, 47, 48, 49, 50, 51, 52, 53, 54, 55, 56, 57, 58, 59, 60, 61, 62, 63, 64, 65, 66, 67, 68, 69, 70, 71, 72, 73, 74, 75, 76, 77, 78, 79, 80, 81, 82, 83, 84] rfl (by decide +kernel)
set_option maxRecDepth 20000 in
theorem gX12_count_X12_knownMany : GoodIn wsX12_count (wsV RX12 480 RX12 yX12_knownMany wsX12_knownMany) := goodIn_app (goodIn_r _ [13, 14, 15, 16] rfl (by decide +kernel)) ggX12_count_X12_knownMany
theorem dX12_count_0 : decode cX12_count 0 = .ok (.aload_n 0, 1) := by decide +kernel
theorem dX12_count_1 : decode cX12_count 1 = .ok (.iconst 0, 1) := by decide +kernel
theorem dX12_count_2 : decode cX12_count 2 = .ok (.putfield 145, 3) := by decide +kernel
theorem dX12_count_5 : decode cX12_count 5 = .ok (.iload_n 1, 1) := by decide +kernel
theorem dX12_count_6 : decode cX12_count 6 = .ok (.tableswitch 200 0 15 #[78, 85, 92, 99, 106, 114, 121, 143, 150, 157, 164, 171, 178, 185, 190, 195], 78) := by decide +kernel
theorem dX12_count_84 : decode cX12_count 84 = .ok (.aload_n 0, 1) := by decide +kernel
theorem dX12_count_85 : decode cX12_count 85 = .ok (.getfield 13, 3) := by decide +kernel
theorem dX12_count_88 : decode cX12_count 88 = .ok (.iconst 0, 1) := by decide +kernel
theorem dX12_count_89 : decode cX12_count 89 = .ok (.iaload, 1) := by decide +kernel
theorem dX12_count_90 : decode cX12_count 90 = .ok (.ireturn, 1) := by decide +kernel
theorem dX12_count_91 : decode cX12_count 91 = .ok (.aload_n 0, 1) := by decide +kernel
theorem dX12_count_92 : decode cX12_count 92 = .ok (.getfield 13, 3) := by decide +kernel
theorem dX12_count_95 : decode cX12_count 95 = .ok (.iconst 1, 1) := by decide +kernel
theorem dX12_count_96 : decode cX12_count 96 = .ok (.iaload, 1) := by decide +kernel
theorem dX12_count_97 : decode cX12_count 97 = .ok (.ireturn, 1) := by decide +kernel
theorem dX12_count_98 : decode cX12_count 98 = .ok (.aload_n 0, 1) := by decide +kernel
theorem dX12_count_99 : decode cX12_count 99 = .ok (.getfield 13, 3) := by decide +kernel
theorem dX12_count_102 : decode cX12_count 102 = .ok (.iconst 2, 1) := by decide +kernel
theorem dX12_count_103 : decode cX12_count 103 = .ok (.iaload, 1) := by decide +kernel
theorem dX12_count_104 : decode cX12_count 104 = .ok (.ireturn, 1) := by decide +kernel
theorem dX12_count_105 : decode cX12_count 105 = .ok (.aload_n 0, 1) := by decide +kernel
theorem dX12_count_106 : decode cX12_count 106 = .ok (.getfield 13, 3) := by decide +kernel
theorem dX12_count_109 : decode cX12_count 109 = .ok (.iconst 3, 1) := by decide +kernel
theorem dX12_count_110 : decode cX12_count 110 = .ok (.iaload, 1) := by decide +kernel
theorem dX12_count_111 : decode cX12_count 111 = .ok (.ireturn, 1) := by decide +kernel
theorem dX12_count_112 : decode cX12_count 112 = .ok (.aload_n 0, 1) := by decide +kernel
theorem dX12_count_113 : decode cX12_count 113 = .ok (.getfield 13, 3) := by decide +kernel
theorem dX12_count_116 : decode cX12_count 116 = .ok (.bipush 8, 2) := by decide +kernel
theorem dX12_count_118 : decode cX12_count 118 = .ok (.iaload, 1) := by decide +kernel
theorem dX12_count_119 : decode cX12_count 119 = .ok (.ireturn, 1) := by decide +kernel
theorem dX12_count_120 : decode cX12_count 120 = .ok (.aload_n 0, 1) := by decide +kernel
theorem dX12_count_121 : decode cX12_count 121 = .ok (.getfield 63, 3) := by decide +kernel
theorem dX12_count_124 : decode cX12_count 124 = .ok (.iconst 0, 1) := by decide +kernel
theorem dX12_count_125 : decode cX12_count 125 = .ok (.iaload, 1) := by decide +kernel
theorem dX12_count_126 : decode cX12_count 126 = .ok (.ireturn, 1) := by decide +kernel
theorem dX12_count_127 : decode cX12_count 127 = .ok (.aload_n 0, 1) := by decide +kernel
theorem dX12_count_128 : decode cX12_count 128 = .ok (.getfield 69, 3) := by decide +kernel
theorem dX12_count_131 : decode cX12_count 131 = .ok (.iconst 0, 1) := by decide +kernel
theorem dX12_count_132 : decode cX12_count 132 = .ok (.iaload, 1) := by decide +kernel
theorem dX12_count_133 : decode cX12_count 133 = .ok (.iconst (-1), 1) := by decide +kernel
theorem dX12_count_134 : decode cX12_count 134 = .ok (.if_icmp .eq 8, 3) := by decide +kernel
theorem dX12_count_137 : decode cX12_count 137 = .ok (.bipush (-2), 2) := by decide +kernel
theorem dX12_count_139 : decode cX12_count 139 = .ok (.goto 9, 3) := by decide +kernel
theorem dX12_count_142 : decode cX12_count 142 = .ok (.aload_n 0, 1) := by decide +kernel
theorem dX12_count_143 : decode cX12_count 143 = .ok (.getfield 66, 3) := by decide +kernel
theorem dX12_count_146 : decode cX12_count 146 = .ok (.iconst 0, 1) := by decide +kernel
theorem dX12_count_147 : decode cX12_count 147 = .ok (.iaload, 1) := by decide +kernel
theorem dX12_count_148 : decode cX12_count 148 = .ok (.ireturn, 1) := by decide +kernel
theorem dX12_count_149 : decode cX12_count 149 = .ok (.aload_n 0, 1) := by decide +kernel
theorem dX12_count_150 : decode cX12_count 150 = .ok (.getfield 69, 3) := by decide +kernel
theorem dX12_count_153 : decode cX12_count 153 = .ok (.iconst 0, 1) := by decide +kernel
theorem dX12_count_154 : decode cX12_count 154 = .ok (.iaload, 1) := by decide +kernel
theorem dX12_count_155 : decode cX12_count 155 = .ok (.ireturn, 1) := by decide +kernel
theorem dX12_count_156 : decode cX12_count 156 = .ok (.aload_n 0, 1) := by decide +kernel
theorem dX12_count_157 : decode cX12_count 157 = .ok (.getfield 72, 3) := by decide +kernel
theorem dX12_count_160 : decode cX12_count 160 = .ok (.iconst 0, 1) := by decide +kernel
theorem dX12_count_161 : decode cX12_count 161 = .ok (.iaload, 1) := by decide +kernel
theorem dX12_count_162 : decode cX12_count 162 = .ok (.ireturn, 1) := by decide +kernel
theorem dX12_count_163 : decode cX12_count 163 = .ok (.aload_n 0, 1) := by decide +kernel
theorem dX12_count_164 : decode cX12_count 164 = .ok (.getfield 78, 3) := by decide +kernel
theorem dX12_count_167 : decode cX12_count 167 = .ok (.iconst 0, 1) := by decide +kernel
theorem dX12_count_168 : decode cX12_count 168 = .ok (.iaload, 1) := by decide +kernel
theorem dX12_count_169 : decode cX12_count 169 = .ok (.ireturn, 1) := by decide +kernel
theorem dX12_count_170 : decode cX12_count 170 = .ok (.aload_n 0, 1) := by decide +kernel
theorem dX12_count_171 : decode cX12_count 171 = .ok (.getfield 81, 3) := by decide +kernel
theorem dX12_count_174 : decode cX12_count 174 = .ok (.iconst 0, 1) := by decide +kernel
theorem dX12_count_175 : decode cX12_count 175 = .ok (.iaload, 1) := by decide +kernel
theorem dX12_count_176 : decode cX12_count 176 = .ok (.ireturn, 1) := by decide +kernel
theorem dX12_count_177 : decode cX12_count 177 = .ok (.aload_n 0, 1) := by decide +kernel
theorem dX12_count_178 : decode cX12_count 178 = .ok (.getfield 84, 3) := by decide +kernel
theorem dX12_count_181 : decode cX12_count 181 = .ok (.iconst 0, 1) := by decide +kernel
theorem dX12_count_182 : decode cX12_count 182 = .ok (.iaload, 1) := by decide +kernel
theorem dX12_count_183 : decode cX12_count 183 = .ok (.ireturn, 1) := by decide +kernel
theorem dX12_count_184 : decode cX12_count 184 = .ok (.aload_n 0, 1) := by decide +kernel
theorem dX12_count_185 : decode cX12_count 185 = .ok (.getfield 75, 3) := by decide +kernel
theorem dX12_count_188 : decode cX12_count 188 = .ok (.iconst 0, 1) := by decide +kernel
theorem dX12_count_189 : decode cX12_count 189 = .ok (.iaload, 1) := by decide +kernel
theorem dX12_count_190 : decode cX12_count 190 = .ok (.ireturn, 1) := by decide +kernel
theorem dX12_count_191 : decode cX12_count 191 = .ok (.aload_n 0, 1) := by decide +kernel
theorem dX12_count_192 : decode cX12_count 192 = .ok (.getfield 301, 3) := by decide +kernel
theorem dX12_count_195 : decode cX12_count 195 = .ok (.ireturn, 1) := by decide +kernel
theorem dX12_count_196 : decode cX12_count 196 = .ok (.aload_n 0, 1) := by decide +kernel
theorem dX12_count_197 : decode cX12_count 197 = .ok (.invokevirtual 480, 3) := by decide +kernel
theorem dX12_count_200 : decode cX12_count 200 = .ok (.ireturn, 1) := by decide +kernel
theorem dX12_count_201 : decode cX12_count 201 = .ok (.aload_n 0, 1) := by decide +kernel
theorem dX12_count_202 : decode cX12_count 202 = .ok (.getfield 308, 3) := by decide +kernel
theorem dX12_count_205 : decode cX12_count 205 = .ok (.ireturn, 1) := by decide +kernel
theorem dX12_count_206 : decode cX12_count 206 = .ok (.iconst (-1), 1) := by decide +kernel
theorem dX12_count_207 : decode cX12_count 207 = .ok (.ireturn, 1) := by decide +kernel
theorem dL_bay_0 : decode cL_bay 0 = .ok (.aload_n 3, 1) := by decide +kernel
theorem dL_bay_1 : decode cL_bay 1 = .ok (.iconst 0, 1) := by decide +kernel
theorem dL_bay_2 : decode cL_bay 2 = .ok (.aload_n 0, 1) := by decide +kernel
theorem dL_bay_3 : decode cL_bay 3 = .ok (.iload_n 1, 1) := by decide +kernel
theorem dL_bay_4 : decode cL_bay 4 = .ok (.iload_n 2, 1) := by decide +kernel
theorem dL_bay_5 : decode cL_bay 5 = .ok (.invokevirtual 7, 3) := by decide +kernel
theorem dL_bay_8 : decode cL_bay 8 = .ok (.i2l, 1) := by decide +kernel
theorem dL_bay_9 : decode cL_bay 9 = .ok (.lastore, 1) := by decide +kernel
theorem dL_bay_10 : decode cL_bay 10 = .ok (.goto 11, 3) := by decide +kernel
theorem dL_bay_13 : decode cL_bay 13 = .ok (.astore 4, 2) := by decide +kernel
theorem dL_bay_15 : decode cL_bay 15 = .ok (.iconst 1, 1) := by decide +kernel
theorem dL_bay_16 : decode cL_bay 16 = .ok (.ireturn, 1) := by decide +kernel
theorem dL_bay_17 : decode cL_bay 17 = .ok (.astore 4, 2) := by decide +kernel
theorem dL_bay_19 : decode cL_bay 19 = .ok (.iconst 2, 1) := by decide +kernel
theorem dL_bay_20 : decode cL_bay 20 = .ok (.ireturn, 1) := by decide +kernel
theorem dL_bay_21 : decode cL_bay 21 = .ok (.iconst 0, 1) := by decide +kernel
theorem dL_bay_22 : decode cL_bay 22 = .ok (.ireturn, 1) := by decide +kernel
theorem dL_law_0 : decode cL_law 0 = .ok (.new 8, 3) := by decide +kernel
theorem dL_law_3 : decode cL_law 3 = .ok (.dup, 1) := by decide +kernel
theorem dL_law_4 : decode cL_law 4 = .ok (.invokespecial 17, 3) := by decide +kernel
theorem dL_law_7 : decode cL_law 7 = .ok (.astore_n 1, 1) := by decide +kernel
theorem dL_law_8 : decode cL_law 8 = .ok (.new 18, 3) := by decide +kernel
theorem dL_law_11 : decode cL_law 11 = .ok (.dup, 1) := by decide +kernel
theorem dL_law_12 : decode cL_law 12 = .ok (.invokespecial 20, 3) := by decide +kernel
theorem dL_law_15 : decode cL_law 15 = .ok (.astore_n 2, 1) := by decide +kernel
theorem dL_law_16 : decode cL_law 16 = .ok (.iconst 1, 1) := by decide +kernel
theorem dL_law_17 : decode cL_law 17 = .ok (.newarray .long, 2) := by decide +kernel
theorem dL_law_19 : decode cL_law 19 = .ok (.astore_n 3, 1) := by decide +kernel
theorem dL_law_20 : decode cL_law 20 = .ok (.iconst 0, 1) := by decide +kernel
theorem dL_law_21 : decode cL_law 21 = .ok (.istore 4, 2) := by decide +kernel
theorem dL_law_23 : decode cL_law 23 = .ok (.iload 4, 2) := by decide +kernel
theorem dL_law_25 : decode cL_law 25 = .ok (.aload_n 0, 1) := by decide +kernel
theorem dL_law_26 : decode cL_law 26 = .ok (.arraylength, 1) := by decide +kernel
theorem dL_law_27 : decode cL_law 27 = .ok (.bipush 6, 2) := by decide +kernel
theorem dL_law_29 : decode cL_law 29 = .ok (.isub, 1) := by decide +kernel
theorem dL_law_30 : decode cL_law 30 = .ok (.if_icmp .gt 1328, 3) := by decide +kernel
theorem dL_law_33 : decode cL_law 33 = .ok (.aload_n 0, 1) := by decide +kernel
theorem dL_law_34 : decode cL_law 34 = .ok (.iload 4, 2) := by decide +kernel
theorem dL_law_36 : decode cL_law 36 = .ok (.iaload, 1) := by decide +kernel
theorem dL_law_37 : decode cL_law 37 = .ok (.bipush 63, 2) := by decide +kernel
theorem dL_law_39 : decode cL_law 39 = .ok (.iand, 1) := by decide +kernel
theorem dL_law_40 : decode cL_law 40 = .ok (.tableswitch 1312 0 34 #[156, 229, 254, 279, 304, 372, 409, 446, 471, 508, 545, 583, 608, 645, 686, 711, 736, 773, 786, 823, 860, 898, 923, 948, 985, 1050, 1075, 1100, 1125, 1150, 1199, 1248, 1261, 1274, 1287], 156) := by decide +kernel
theorem dL_law_196 : decode cL_law 196 = .ok (.aload_n 1, 1) := by decide +kernel
theorem dL_law_197 : decode cL_law 197 = .ok (.aload_n 0, 1) := by decide +kernel
theorem dL_law_198 : decode cL_law 198 = .ok (.iload 4, 2) := by decide +kernel
theorem dL_law_200 : decode cL_law 200 = .ok (.iconst 1, 1) := by decide +kernel
theorem dL_law_201 : decode cL_law 201 = .ok (.iadd, 1) := by decide +kernel
theorem dL_law_202 : decode cL_law 202 = .ok (.iaload, 1) := by decide +kernel
theorem dL_law_203 : decode cL_law 203 = .ok (.aload_n 0, 1) := by decide +kernel
theorem dL_law_204 : decode cL_law 204 = .ok (.iload 4, 2) := by decide +kernel
theorem dL_law_206 : decode cL_law 206 = .ok (.iconst 2, 1) := by decide +kernel
theorem dL_law_207 : decode cL_law 207 = .ok (.iadd, 1) := by decide +kernel
theorem dL_law_208 : decode cL_law 208 = .ok (.iaload, 1) := by decide +kernel
theorem dL_law_209 : decode cL_law 209 = .ok (.aload_n 0, 1) := by decide +kernel
theorem dL_law_210 : decode cL_law 210 = .ok (.iload 4, 2) := by decide +kernel
theorem dL_law_212 : decode cL_law 212 = .ok (.iconst 3, 1) := by decide +kernel
theorem dL_law_213 : decode cL_law 213 = .ok (.iadd, 1) := by decide +kernel
theorem dL_law_214 : decode cL_law 214 = .ok (.iaload, 1) := by decide +kernel
theorem dL_law_215 : decode cL_law 215 = .ok (.aload_n 0, 1) := by decide +kernel
theorem dL_law_216 : decode cL_law 216 = .ok (.iload 4, 2) := by decide +kernel
theorem dL_law_218 : decode cL_law 218 = .ok (.iconst 4, 1) := by decide +kernel
theorem dL_law_219 : decode cL_law 219 = .ok (.iadd, 1) := by decide +kernel
theorem dL_law_220 : decode cL_law 220 = .ok (.iaload, 1) := by decide +kernel
theorem dL_law_221 : decode cL_law 221 = .ok (.aload_n 0, 1) := by decide +kernel
theorem dL_law_222 : decode cL_law 222 = .ok (.iload 4, 2) := by decide +kernel
theorem dL_law_224 : decode cL_law 224 = .ok (.iconst 5, 1) := by decide +kernel
theorem dL_law_225 : decode cL_law 225 = .ok (.iadd, 1) := by decide +kernel
theorem dL_law_226 : decode cL_law 226 = .ok (.iaload, 1) := by decide +kernel
theorem dL_law_227 : decode cL_law 227 = .ok (.invokevirtual 21, 3) := by decide +kernel
theorem dL_law_230 : decode cL_law 230 = .ok (.aload_n 2, 1) := by decide +kernel
theorem dL_law_231 : decode cL_law 231 = .ok (.aload_n 0, 1) := by decide +kernel
theorem dL_law_232 : decode cL_law 232 = .ok (.iload 4, 2) := by decide +kernel
theorem dL_law_234 : decode cL_law 234 = .ok (.iconst 1, 1) := by decide +kernel
theorem dL_law_235 : decode cL_law 235 = .ok (.iadd, 1) := by decide +kernel
theorem dL_law_236 : decode cL_law 236 = .ok (.iaload, 1) := by decide +kernel
theorem dL_law_237 : decode cL_law 237 = .ok (.aload_n 0, 1) := by decide +kernel
theorem dL_law_238 : decode cL_law 238 = .ok (.iload 4, 2) := by decide +kernel
theorem dL_law_240 : decode cL_law 240 = .ok (.iconst 2, 1) := by decide +kernel
theorem dL_law_241 : decode cL_law 241 = .ok (.iadd, 1) := by decide +kernel
theorem dL_law_242 : decode cL_law 242 = .ok (.iaload, 1) := by decide +kernel
theorem dL_law_243 : decode cL_law 243 = .ok (.aload_n 0, 1) := by decide +kernel
theorem dL_law_244 : decode cL_law 244 = .ok (.iload 4, 2) := by decide +kernel
theorem dL_law_246 : decode cL_law 246 = .ok (.iconst 3, 1) := by decide +kernel
theorem dL_law_247 : decode cL_law 247 = .ok (.iadd, 1) := by decide +kernel
theorem dL_law_248 : decode cL_law 248 = .ok (.iaload, 1) := by decide +kernel
theorem dL_law_249 : decode cL_law 249 = .ok (.aload_n 0, 1) := by decide +kernel
theorem dL_law_250 : decode cL_law 250 = .ok (.iload 4, 2) := by decide +kernel
theorem dL_law_252 : decode cL_law 252 = .ok (.iconst 4, 1) := by decide +kernel
theorem dL_law_253 : decode cL_law 253 = .ok (.iadd, 1) := by decide +kernel
theorem dL_law_254 : decode cL_law 254 = .ok (.iaload, 1) := by decide +kernel
theorem dL_law_255 : decode cL_law 255 = .ok (.aload_n 0, 1) := by decide +kernel
theorem dL_law_256 : decode cL_law 256 = .ok (.iload 4, 2) := by decide +kernel
theorem dL_law_258 : decode cL_law 258 = .ok (.iconst 5, 1) := by decide +kernel
theorem dL_law_259 : decode cL_law 259 = .ok (.iadd, 1) := by decide +kernel
theorem dL_law_260 : decode cL_law 260 = .ok (.iaload, 1) := by decide +kernel
theorem dL_law_261 : decode cL_law 261 = .ok (.invokevirtual 25, 3) := by decide +kernel
theorem dL_law_264 : decode cL_law 264 = .ok (.if_icmp .eq 1088, 3) := by decide +kernel
theorem dL_law_267 : decode cL_law 267 = .ok (.iconst 0, 1) := by decide +kernel
theorem dL_law_268 : decode cL_law 268 = .ok (.ireturn, 1) := by decide +kernel
theorem dL_law_269 : decode cL_law 269 = .ok (.aload_n 1, 1) := by decide +kernel
theorem dL_law_270 : decode cL_law 270 = .ok (.aload_n 0, 1) := by decide +kernel
theorem dL_law_271 : decode cL_law 271 = .ok (.iload 4, 2) := by decide +kernel
theorem dL_law_273 : decode cL_law 273 = .ok (.iconst 1, 1) := by decide +kernel
theorem dL_law_274 : decode cL_law 274 = .ok (.iadd, 1) := by decide +kernel
theorem dL_law_275 : decode cL_law 275 = .ok (.iaload, 1) := by decide +kernel
theorem dL_law_276 : decode cL_law 276 = .ok (.invokevirtual 26, 3) := by decide +kernel
theorem dL_law_279 : decode cL_law 279 = .ok (.aload_n 2, 1) := by decide +kernel
theorem dL_law_280 : decode cL_law 280 = .ok (.aload_n 0, 1) := by decide +kernel
theorem dL_law_281 : decode cL_law 281 = .ok (.iload 4, 2) := by decide +kernel
theorem dL_law_283 : decode cL_law 283 = .ok (.iconst 1, 1) := by decide +kernel
theorem dL_law_284 : decode cL_law 284 = .ok (.iadd, 1) := by decide +kernel
theorem dL_law_285 : decode cL_law 285 = .ok (.iaload, 1) := by decide +kernel
theorem dL_law_286 : decode cL_law 286 = .ok (.invokevirtual 30, 3) := by decide +kernel
theorem dL_law_289 : decode cL_law 289 = .ok (.if_icmp .eq 1063, 3) := by decide +kernel
theorem dL_law_292 : decode cL_law 292 = .ok (.iconst 0, 1) := by decide +kernel
theorem dL_law_293 : decode cL_law 293 = .ok (.ireturn, 1) := by decide +kernel
theorem dL_law_294 : decode cL_law 294 = .ok (.aload_n 1, 1) := by decide +kernel
theorem dL_law_295 : decode cL_law 295 = .ok (.aload_n 0, 1) := by decide +kernel
theorem dL_law_296 : decode cL_law 296 = .ok (.iload 4, 2) := by decide +kernel
theorem dL_law_298 : decode cL_law 298 = .ok (.iconst 1, 1) := by decide +kernel
theorem dL_law_299 : decode cL_law 299 = .ok (.iadd, 1) := by decide +kernel
theorem dL_law_300 : decode cL_law 300 = .ok (.iaload, 1) := by decide +kernel
theorem dL_law_301 : decode cL_law 301 = .ok (.invokevirtual 31, 3) := by decide +kernel
theorem dL_law_304 : decode cL_law 304 = .ok (.aload_n 2, 1) := by decide +kernel
theorem dL_law_305 : decode cL_law 305 = .ok (.aload_n 0, 1) := by decide +kernel
theorem dL_law_306 : decode cL_law 306 = .ok (.iload 4, 2) := by decide +kernel
theorem dL_law_308 : decode cL_law 308 = .ok (.iconst 1, 1) := by decide +kernel
theorem dL_law_309 : decode cL_law 309 = .ok (.iadd, 1) := by decide +kernel
theorem dL_law_310 : decode cL_law 310 = .ok (.iaload, 1) := by decide +kernel
theorem dL_law_311 : decode cL_law 311 = .ok (.invokevirtual 34, 3) := by decide +kernel
theorem dL_law_314 : decode cL_law 314 = .ok (.if_icmp .eq 1038, 3) := by decide +kernel
theorem dL_law_317 : decode cL_law 317 = .ok (.iconst 0, 1) := by decide +kernel
theorem dL_law_318 : decode cL_law 318 = .ok (.ireturn, 1) := by decide +kernel
theorem dL_law_319 : decode cL_law 319 = .ok (.aload_n 1, 1) := by decide +kernel
theorem dL_law_320 : decode cL_law 320 = .ok (.aload_n 0, 1) := by decide +kernel
theorem dL_law_321 : decode cL_law 321 = .ok (.iload 4, 2) := by decide +kernel
theorem dL_law_323 : decode cL_law 323 = .ok (.iconst 1, 1) := by decide +kernel
theorem dL_law_324 : decode cL_law 324 = .ok (.iadd, 1) := by decide +kernel
theorem dL_law_325 : decode cL_law 325 = .ok (.iaload, 1) := by decide +kernel
theorem dL_law_326 : decode cL_law 326 = .ok (.invokevirtual 35, 3) := by decide +kernel
theorem dL_law_329 : decode cL_law 329 = .ok (.aload_n 2, 1) := by decide +kernel
theorem dL_law_330 : decode cL_law 330 = .ok (.aload_n 0, 1) := by decide +kernel
theorem dL_law_331 : decode cL_law 331 = .ok (.iload 4, 2) := by decide +kernel
theorem dL_law_333 : decode cL_law 333 = .ok (.iconst 1, 1) := by decide +kernel
theorem dL_law_334 : decode cL_law 334 = .ok (.iadd, 1) := by decide +kernel
theorem dL_law_335 : decode cL_law 335 = .ok (.iaload, 1) := by decide +kernel
theorem dL_law_336 : decode cL_law 336 = .ok (.invokevirtual 38, 3) := by decide +kernel
theorem dL_law_339 : decode cL_law 339 = .ok (.if_icmp .eq 1013, 3) := by decide +kernel
theorem dL_law_342 : decode cL_law 342 = .ok (.iconst 0, 1) := by decide +kernel
theorem dL_law_343 : decode cL_law 343 = .ok (.ireturn, 1) := by decide +kernel
theorem dL_law_344 : decode cL_law 344 = .ok (.aload_n 1, 1) := by decide +kernel
theorem dL_law_345 : decode cL_law 345 = .ok (.aload_n 0, 1) := by decide +kernel
theorem dL_law_346 : decode cL_law 346 = .ok (.iload 4, 2) := by decide +kernel
theorem dL_law_348 : decode cL_law 348 = .ok (.iconst 1, 1) := by decide +kernel
theorem dL_law_349 : decode cL_law 349 = .ok (.iadd, 1) := by decide +kernel
theorem dL_law_350 : decode cL_law 350 = .ok (.iaload, 1) := by decide +kernel
theorem dL_law_351 : decode cL_law 351 = .ok (.aload_n 0, 1) := by decide +kernel
theorem dL_law_352 : decode cL_law 352 = .ok (.iload 4, 2) := by decide +kernel
theorem dL_law_354 : decode cL_law 354 = .ok (.iconst 2, 1) := by decide +kernel
theorem dL_law_355 : decode cL_law 355 = .ok (.iadd, 1) := by decide +kernel
theorem dL_law_356 : decode cL_law 356 = .ok (.iaload, 1) := by decide +kernel
theorem dL_law_357 : decode cL_law 357 = .ok (.aload_n 3, 1) := by decide +kernel
theorem dL_law_358 : decode cL_law 358 = .ok (.invokestatic 39, 3) := by decide +kernel
theorem dL_law_361 : decode cL_law 361 = .ok (.istore 5, 2) := by decide +kernel
theorem dL_law_363 : decode cL_law 363 = .ok (.aload_n 2, 1) := by decide +kernel
theorem dL_law_364 : decode cL_law 364 = .ok (.aload_n 0, 1) := by decide +kernel
theorem dL_law_365 : decode cL_law 365 = .ok (.iload 4, 2) := by decide +kernel
theorem dL_law_367 : decode cL_law 367 = .ok (.iconst 1, 1) := by decide +kernel
theorem dL_law_368 : decode cL_law 368 = .ok (.iadd, 1) := by decide +kernel
theorem dL_law_369 : decode cL_law 369 = .ok (.iaload, 1) := by decide +kernel
theorem dL_law_370 : decode cL_law 370 = .ok (.aload_n 0, 1) := by decide +kernel
theorem dL_law_371 : decode cL_law 371 = .ok (.iload 4, 2) := by decide +kernel
theorem dL_law_373 : decode cL_law 373 = .ok (.iconst 2, 1) := by decide +kernel
theorem dL_law_374 : decode cL_law 374 = .ok (.iadd, 1) := by decide +kernel
theorem dL_law_375 : decode cL_law 375 = .ok (.iaload, 1) := by decide +kernel
theorem dL_law_376 : decode cL_law 376 = .ok (.invokevirtual 44, 3) := by decide +kernel
theorem dL_law_379 : decode cL_law 379 = .ok (.istore 6, 2) := by decide +kernel
theorem dL_law_381 : decode cL_law 381 = .ok (.aload_n 2, 1) := by decide +kernel
theorem dL_law_382 : decode cL_law 382 = .ok (.invokevirtual 45, 3) := by decide +kernel
theorem dL_law_385 : decode cL_law 385 = .ok (.iload 5, 2) := by decide +kernel
theorem dL_law_387 : decode cL_law 387 = .ok (.if_icmp .eq 5, 3) := by decide +kernel
theorem dL_law_390 : decode cL_law 390 = .ok (.iconst 0, 1) := by decide +kernel
theorem dL_law_391 : decode cL_law 391 = .ok (.ireturn, 1) := by decide +kernel
theorem dL_law_392 : decode cL_law 392 = .ok (.iload 5, 2) := by decide +kernel
theorem dL_law_394 : decode cL_law 394 = .ok (.ifCond .ne 15, 3) := by decide +kernel
theorem dL_law_397 : decode cL_law 397 = .ok (.aload_n 3, 1) := by decide +kernel
theorem dL_law_398 : decode cL_law 398 = .ok (.iconst 0, 1) := by decide +kernel
theorem dL_law_399 : decode cL_law 399 = .ok (.laload, 1) := by decide +kernel
theorem dL_law_400 : decode cL_law 400 = .ok (.iload 6, 2) := by decide +kernel
theorem dL_law_402 : decode cL_law 402 = .ok (.i2l, 1) := by decide +kernel
theorem dL_law_403 : decode cL_law 403 = .ok (.lcmp, 1) := by decide +kernel
theorem dL_law_404 : decode cL_law 404 = .ok (.ifCond .eq 5, 3) := by decide +kernel
theorem dL_law_407 : decode cL_law 407 = .ok (.iconst 0, 1) := by decide +kernel
theorem dL_law_408 : decode cL_law 408 = .ok (.ireturn, 1) := by decide +kernel
theorem dL_law_409 : decode cL_law 409 = .ok (.goto 943, 3) := by decide +kernel
theorem dL_law_412 : decode cL_law 412 = .ok (.aload_n 1, 1) := by decide +kernel
theorem dL_law_413 : decode cL_law 413 = .ok (.aload_n 0, 1) := by decide +kernel
theorem dL_law_414 : decode cL_law 414 = .ok (.iload 4, 2) := by decide +kernel
theorem dL_law_416 : decode cL_law 416 = .ok (.iconst 1, 1) := by decide +kernel
theorem dL_law_417 : decode cL_law 417 = .ok (.iadd, 1) := by decide +kernel
theorem dL_law_418 : decode cL_law 418 = .ok (.iaload, 1) := by decide +kernel
theorem dL_law_419 : decode cL_law 419 = .ok (.aload_n 0, 1) := by decide +kernel
theorem dL_law_420 : decode cL_law 420 = .ok (.iload 4, 2) := by decide +kernel
theorem dL_law_422 : decode cL_law 422 = .ok (.iconst 2, 1) := by decide +kernel
theorem dL_law_423 : decode cL_law 423 = .ok (.iadd, 1) := by decide +kernel
theorem dL_law_424 : decode cL_law 424 = .ok (.iaload, 1) := by decide +kernel
theorem dL_law_425 : decode cL_law 425 = .ok (.invokevirtual 49, 3) := by decide +kernel
theorem dL_law_428 : decode cL_law 428 = .ok (.aload_n 2, 1) := by decide +kernel
theorem dL_law_429 : decode cL_law 429 = .ok (.aload_n 0, 1) := by decide +kernel
theorem dL_law_430 : decode cL_law 430 = .ok (.iload 4, 2) := by decide +kernel
theorem dL_law_432 : decode cL_law 432 = .ok (.iconst 1, 1) := by decide +kernel
theorem dL_law_433 : decode cL_law 433 = .ok (.iadd, 1) := by decide +kernel
theorem dL_law_434 : decode cL_law 434 = .ok (.iaload, 1) := by decide +kernel
theorem dL_law_435 : decode cL_law 435 = .ok (.aload_n 0, 1) := by decide +kernel
theorem dL_law_436 : decode cL_law 436 = .ok (.iload 4, 2) := by decide +kernel
theorem dL_law_438 : decode cL_law 438 = .ok (.iconst 2, 1) := by decide +kernel
theorem dL_law_439 : decode cL_law 439 = .ok (.iadd, 1) := by decide +kernel
theorem dL_law_440 : decode cL_law 440 = .ok (.iaload, 1) := by decide +kernel
theorem dL_law_441 : decode cL_law 441 = .ok (.invokevirtual 52, 3) := by decide +kernel
theorem dL_law_444 : decode cL_law 444 = .ok (.if_icmp .eq 908, 3) := by decide +kernel
theorem dL_law_447 : decode cL_law 447 = .ok (.iconst 0, 1) := by decide +kernel
theorem dL_law_448 : decode cL_law 448 = .ok (.ireturn, 1) := by decide +kernel
theorem dL_law_449 : decode cL_law 449 = .ok (.aload_n 1, 1) := by decide +kernel
theorem dL_law_450 : decode cL_law 450 = .ok (.aload_n 0, 1) := by decide +kernel
theorem dL_law_451 : decode cL_law 451 = .ok (.iload 4, 2) := by decide +kernel
theorem dL_law_453 : decode cL_law 453 = .ok (.iconst 1, 1) := by decide +kernel
theorem dL_law_454 : decode cL_law 454 = .ok (.iadd, 1) := by decide +kernel
theorem dL_law_455 : decode cL_law 455 = .ok (.iaload, 1) := by decide +kernel
theorem dL_law_456 : decode cL_law 456 = .ok (.aload_n 0, 1) := by decide +kernel
theorem dL_law_457 : decode cL_law 457 = .ok (.iload 4, 2) := by decide +kernel
theorem dL_law_459 : decode cL_law 459 = .ok (.iconst 2, 1) := by decide +kernel
theorem dL_law_460 : decode cL_law 460 = .ok (.iadd, 1) := by decide +kernel
theorem dL_law_461 : decode cL_law 461 = .ok (.iaload, 1) := by decide +kernel
theorem dL_law_462 : decode cL_law 462 = .ok (.invokevirtual 53, 3) := by decide +kernel
theorem dL_law_465 : decode cL_law 465 = .ok (.aload_n 2, 1) := by decide +kernel
theorem dL_law_466 : decode cL_law 466 = .ok (.aload_n 0, 1) := by decide +kernel
theorem dL_law_467 : decode cL_law 467 = .ok (.iload 4, 2) := by decide +kernel
theorem dL_law_469 : decode cL_law 469 = .ok (.iconst 1, 1) := by decide +kernel
theorem dL_law_470 : decode cL_law 470 = .ok (.iadd, 1) := by decide +kernel
theorem dL_law_471 : decode cL_law 471 = .ok (.iaload, 1) := by decide +kernel
theorem dL_law_472 : decode cL_law 472 = .ok (.aload_n 0, 1) := by decide +kernel
theorem dL_law_473 : decode cL_law 473 = .ok (.iload 4, 2) := by decide +kernel
theorem dL_law_475 : decode cL_law 475 = .ok (.iconst 2, 1) := by decide +kernel
theorem dL_law_476 : decode cL_law 476 = .ok (.iadd, 1) := by decide +kernel
theorem dL_law_477 : decode cL_law 477 = .ok (.iaload, 1) := by decide +kernel
theorem dL_law_478 : decode cL_law 478 = .ok (.invokevirtual 56, 3) := by decide +kernel
theorem dL_law_481 : decode cL_law 481 = .ok (.if_icmp .eq 871, 3) := by decide +kernel
theorem dL_law_484 : decode cL_law 484 = .ok (.iconst 0, 1) := by decide +kernel
theorem dL_law_485 : decode cL_law 485 = .ok (.ireturn, 1) := by decide +kernel
theorem dL_law_486 : decode cL_law 486 = .ok (.aload_n 1, 1) := by decide +kernel
theorem dL_law_487 : decode cL_law 487 = .ok (.aload_n 0, 1) := by decide +kernel
theorem dL_law_488 : decode cL_law 488 = .ok (.iload 4, 2) := by decide +kernel
theorem dL_law_490 : decode cL_law 490 = .ok (.iconst 1, 1) := by decide +kernel
theorem dL_law_491 : decode cL_law 491 = .ok (.iadd, 1) := by decide +kernel
theorem dL_law_492 : decode cL_law 492 = .ok (.iaload, 1) := by decide +kernel
theorem dL_law_493 : decode cL_law 493 = .ok (.invokevirtual 57, 3) := by decide +kernel
theorem dL_law_496 : decode cL_law 496 = .ok (.aload_n 2, 1) := by decide +kernel
theorem dL_law_497 : decode cL_law 497 = .ok (.aload_n 0, 1) := by decide +kernel
theorem dL_law_498 : decode cL_law 498 = .ok (.iload 4, 2) := by decide +kernel
theorem dL_law_500 : decode cL_law 500 = .ok (.iconst 1, 1) := by decide +kernel
theorem dL_law_501 : decode cL_law 501 = .ok (.iadd, 1) := by decide +kernel
theorem dL_law_502 : decode cL_law 502 = .ok (.iaload, 1) := by decide +kernel
theorem dL_law_503 : decode cL_law 503 = .ok (.invokevirtual 60, 3) := by decide +kernel
theorem dL_law_506 : decode cL_law 506 = .ok (.if_icmp .eq 846, 3) := by decide +kernel
theorem dL_law_509 : decode cL_law 509 = .ok (.iconst 0, 1) := by decide +kernel
theorem dL_law_510 : decode cL_law 510 = .ok (.ireturn, 1) := by decide +kernel
theorem dL_law_511 : decode cL_law 511 = .ok (.aload_n 1, 1) := by decide +kernel
theorem dL_law_512 : decode cL_law 512 = .ok (.aload_n 0, 1) := by decide +kernel
theorem dL_law_513 : decode cL_law 513 = .ok (.iload 4, 2) := by decide +kernel
theorem dL_law_515 : decode cL_law 515 = .ok (.iconst 1, 1) := by decide +kernel
theorem dL_law_516 : decode cL_law 516 = .ok (.iadd, 1) := by decide +kernel
theorem dL_law_517 : decode cL_law 517 = .ok (.iaload, 1) := by decide +kernel
theorem dL_law_518 : decode cL_law 518 = .ok (.aload_n 0, 1) := by decide +kernel
theorem dL_law_519 : decode cL_law 519 = .ok (.iload 4, 2) := by decide +kernel
theorem dL_law_521 : decode cL_law 521 = .ok (.iconst 2, 1) := by decide +kernel
theorem dL_law_522 : decode cL_law 522 = .ok (.iadd, 1) := by decide +kernel
theorem dL_law_523 : decode cL_law 523 = .ok (.iaload, 1) := by decide +kernel
theorem dL_law_524 : decode cL_law 524 = .ok (.invokevirtual 61, 3) := by decide +kernel
theorem dL_law_527 : decode cL_law 527 = .ok (.aload_n 2, 1) := by decide +kernel
theorem dL_law_528 : decode cL_law 528 = .ok (.aload_n 0, 1) := by decide +kernel
theorem dL_law_529 : decode cL_law 529 = .ok (.iload 4, 2) := by decide +kernel
theorem dL_law_531 : decode cL_law 531 = .ok (.iconst 1, 1) := by decide +kernel
theorem dL_law_532 : decode cL_law 532 = .ok (.iadd, 1) := by decide +kernel
theorem dL_law_533 : decode cL_law 533 = .ok (.iaload, 1) := by decide +kernel
theorem dL_law_534 : decode cL_law 534 = .ok (.aload_n 0, 1) := by decide +kernel
theorem dL_law_535 : decode cL_law 535 = .ok (.iload 4, 2) := by decide +kernel
theorem dL_law_537 : decode cL_law 537 = .ok (.iconst 2, 1) := by decide +kernel
theorem dL_law_538 : decode cL_law 538 = .ok (.iadd, 1) := by decide +kernel
theorem dL_law_539 : decode cL_law 539 = .ok (.iaload, 1) := by decide +kernel
theorem dL_law_540 : decode cL_law 540 = .ok (.invokevirtual 64, 3) := by decide +kernel
theorem dL_law_543 : decode cL_law 543 = .ok (.if_icmp .eq 809, 3) := by decide +kernel
theorem dL_law_546 : decode cL_law 546 = .ok (.iconst 0, 1) := by decide +kernel
theorem dL_law_547 : decode cL_law 547 = .ok (.ireturn, 1) := by decide +kernel
theorem dL_law_548 : decode cL_law 548 = .ok (.aload_n 1, 1) := by decide +kernel
theorem dL_law_549 : decode cL_law 549 = .ok (.aload_n 0, 1) := by decide +kernel
theorem dL_law_550 : decode cL_law 550 = .ok (.iload 4, 2) := by decide +kernel
theorem dL_law_552 : decode cL_law 552 = .ok (.iconst 1, 1) := by decide +kernel
theorem dL_law_553 : decode cL_law 553 = .ok (.iadd, 1) := by decide +kernel
theorem dL_law_554 : decode cL_law 554 = .ok (.iaload, 1) := by decide +kernel
theorem dL_law_555 : decode cL_law 555 = .ok (.aload_n 0, 1) := by decide +kernel
theorem dL_law_556 : decode cL_law 556 = .ok (.iload 4, 2) := by decide +kernel
theorem dL_law_558 : decode cL_law 558 = .ok (.iconst 2, 1) := by decide +kernel
theorem dL_law_559 : decode cL_law 559 = .ok (.iadd, 1) := by decide +kernel
theorem dL_law_560 : decode cL_law 560 = .ok (.iaload, 1) := by decide +kernel
theorem dL_law_561 : decode cL_law 561 = .ok (.invokevirtual 65, 3) := by decide +kernel
theorem dL_law_564 : decode cL_law 564 = .ok (.aload_n 2, 1) := by decide +kernel
theorem dL_law_565 : decode cL_law 565 = .ok (.aload_n 0, 1) := by decide +kernel
theorem dL_law_566 : decode cL_law 566 = .ok (.iload 4, 2) := by decide +kernel
theorem dL_law_568 : decode cL_law 568 = .ok (.iconst 1, 1) := by decide +kernel
theorem dL_law_569 : decode cL_law 569 = .ok (.iadd, 1) := by decide +kernel
theorem dL_law_570 : decode cL_law 570 = .ok (.iaload, 1) := by decide +kernel
theorem dL_law_571 : decode cL_law 571 = .ok (.aload_n 0, 1) := by decide +kernel
theorem dL_law_572 : decode cL_law 572 = .ok (.iload 4, 2) := by decide +kernel
theorem dL_law_574 : decode cL_law 574 = .ok (.iconst 2, 1) := by decide +kernel
theorem dL_law_575 : decode cL_law 575 = .ok (.iadd, 1) := by decide +kernel
theorem dL_law_576 : decode cL_law 576 = .ok (.iaload, 1) := by decide +kernel
theorem dL_law_577 : decode cL_law 577 = .ok (.invokevirtual 68, 3) := by decide +kernel
theorem dL_law_580 : decode cL_law 580 = .ok (.if_icmp .eq 772, 3) := by decide +kernel
theorem dL_law_583 : decode cL_law 583 = .ok (.iconst 0, 1) := by decide +kernel
theorem dL_law_584 : decode cL_law 584 = .ok (.ireturn, 1) := by decide +kernel
theorem dL_law_585 : decode cL_law 585 = .ok (.aload_n 1, 1) := by decide +kernel
theorem dL_law_586 : decode cL_law 586 = .ok (.aload_n 0, 1) := by decide +kernel
theorem dL_law_587 : decode cL_law 587 = .ok (.iload 4, 2) := by decide +kernel
theorem dL_law_589 : decode cL_law 589 = .ok (.iconst 1, 1) := by decide +kernel
theorem dL_law_590 : decode cL_law 590 = .ok (.iadd, 1) := by decide +kernel
theorem dL_law_591 : decode cL_law 591 = .ok (.iaload, 1) := by decide +kernel
theorem dL_law_592 : decode cL_law 592 = .ok (.aload_n 0, 1) := by decide +kernel
theorem dL_law_593 : decode cL_law 593 = .ok (.iload 4, 2) := by decide +kernel
theorem dL_law_595 : decode cL_law 595 = .ok (.iconst 2, 1) := by decide +kernel
theorem dL_law_596 : decode cL_law 596 = .ok (.iadd, 1) := by decide +kernel
theorem dL_law_597 : decode cL_law 597 = .ok (.iaload, 1) := by decide +kernel
theorem dL_law_598 : decode cL_law 598 = .ok (.invokevirtual 69, 3) := by decide +kernel
theorem dL_law_601 : decode cL_law 601 = .ok (.aload_n 2, 1) := by decide +kernel
theorem dL_law_602 : decode cL_law 602 = .ok (.aload_n 0, 1) := by decide +kernel
theorem dL_law_603 : decode cL_law 603 = .ok (.iload 4, 2) := by decide +kernel
theorem dL_law_605 : decode cL_law 605 = .ok (.iconst 1, 1) := by decide +kernel
theorem dL_law_606 : decode cL_law 606 = .ok (.iadd, 1) := by decide +kernel
theorem dL_law_607 : decode cL_law 607 = .ok (.iaload, 1) := by decide +kernel
theorem dL_law_608 : decode cL_law 608 = .ok (.aload_n 0, 1) := by decide +kernel
theorem dL_law_609 : decode cL_law 609 = .ok (.iload 4, 2) := by decide +kernel
theorem dL_law_611 : decode cL_law 611 = .ok (.iconst 2, 1) := by decide +kernel
theorem dL_law_612 : decode cL_law 612 = .ok (.iadd, 1) := by decide +kernel
theorem dL_law_613 : decode cL_law 613 = .ok (.iaload, 1) := by decide +kernel
theorem dL_law_614 : decode cL_law 614 = .ok (.invokevirtual 73, 3) := by decide +kernel
theorem dL_law_617 : decode cL_law 617 = .ok (.lcmp, 1) := by decide +kernel
theorem dL_law_618 : decode cL_law 618 = .ok (.ifCond .eq 734, 3) := by decide +kernel
theorem dL_law_621 : decode cL_law 621 = .ok (.iconst 0, 1) := by decide +kernel
theorem dL_law_622 : decode cL_law 622 = .ok (.ireturn, 1) := by decide +kernel
theorem dL_law_623 : decode cL_law 623 = .ok (.aload_n 1, 1) := by decide +kernel
theorem dL_law_624 : decode cL_law 624 = .ok (.aload_n 0, 1) := by decide +kernel
theorem dL_law_625 : decode cL_law 625 = .ok (.iload 4, 2) := by decide +kernel
theorem dL_law_627 : decode cL_law 627 = .ok (.iconst 1, 1) := by decide +kernel
theorem dL_law_628 : decode cL_law 628 = .ok (.iadd, 1) := by decide +kernel
theorem dL_law_629 : decode cL_law 629 = .ok (.iaload, 1) := by decide +kernel
theorem dL_law_630 : decode cL_law 630 = .ok (.invokevirtual 74, 3) := by decide +kernel
theorem dL_law_633 : decode cL_law 633 = .ok (.aload_n 2, 1) := by decide +kernel
theorem dL_law_634 : decode cL_law 634 = .ok (.aload_n 0, 1) := by decide +kernel
theorem dL_law_635 : decode cL_law 635 = .ok (.iload 4, 2) := by decide +kernel
theorem dL_law_637 : decode cL_law 637 = .ok (.iconst 1, 1) := by decide +kernel
theorem dL_law_638 : decode cL_law 638 = .ok (.iadd, 1) := by decide +kernel
theorem dL_law_639 : decode cL_law 639 = .ok (.iaload, 1) := by decide +kernel
theorem dL_law_640 : decode cL_law 640 = .ok (.invokevirtual 77, 3) := by decide +kernel
theorem dL_law_643 : decode cL_law 643 = .ok (.if_icmp .eq 709, 3) := by decide +kernel
theorem dL_law_646 : decode cL_law 646 = .ok (.iconst 0, 1) := by decide +kernel
theorem dL_law_647 : decode cL_law 647 = .ok (.ireturn, 1) := by decide +kernel
theorem dL_law_648 : decode cL_law 648 = .ok (.aload_n 1, 1) := by decide +kernel
theorem dL_law_649 : decode cL_law 649 = .ok (.aload_n 0, 1) := by decide +kernel
theorem dL_law_650 : decode cL_law 650 = .ok (.iload 4, 2) := by decide +kernel
theorem dL_law_652 : decode cL_law 652 = .ok (.iconst 1, 1) := by decide +kernel
theorem dL_law_653 : decode cL_law 653 = .ok (.iadd, 1) := by decide +kernel
theorem dL_law_654 : decode cL_law 654 = .ok (.iaload, 1) := by decide +kernel
theorem dL_law_655 : decode cL_law 655 = .ok (.aload_n 0, 1) := by decide +kernel
theorem dL_law_656 : decode cL_law 656 = .ok (.iload 4, 2) := by decide +kernel
theorem dL_law_658 : decode cL_law 658 = .ok (.iconst 2, 1) := by decide +kernel
theorem dL_law_659 : decode cL_law 659 = .ok (.iadd, 1) := by decide +kernel
theorem dL_law_660 : decode cL_law 660 = .ok (.iaload, 1) := by decide +kernel
theorem dL_law_661 : decode cL_law 661 = .ok (.invokevirtual 78, 3) := by decide +kernel
theorem dL_law_664 : decode cL_law 664 = .ok (.aload_n 2, 1) := by decide +kernel
theorem dL_law_665 : decode cL_law 665 = .ok (.aload_n 0, 1) := by decide +kernel
theorem dL_law_666 : decode cL_law 666 = .ok (.iload 4, 2) := by decide +kernel
theorem dL_law_668 : decode cL_law 668 = .ok (.iconst 1, 1) := by decide +kernel
theorem dL_law_669 : decode cL_law 669 = .ok (.iadd, 1) := by decide +kernel
theorem dL_law_670 : decode cL_law 670 = .ok (.iaload, 1) := by decide +kernel
theorem dL_law_671 : decode cL_law 671 = .ok (.aload_n 0, 1) := by decide +kernel
theorem dL_law_672 : decode cL_law 672 = .ok (.iload 4, 2) := by decide +kernel
theorem dL_law_674 : decode cL_law 674 = .ok (.iconst 2, 1) := by decide +kernel
theorem dL_law_675 : decode cL_law 675 = .ok (.iadd, 1) := by decide +kernel
theorem dL_law_676 : decode cL_law 676 = .ok (.iaload, 1) := by decide +kernel
theorem dL_law_677 : decode cL_law 677 = .ok (.invokevirtual 81, 3) := by decide +kernel
theorem dL_law_680 : decode cL_law 680 = .ok (.if_icmp .eq 672, 3) := by decide +kernel
theorem dL_law_683 : decode cL_law 683 = .ok (.iconst 0, 1) := by decide +kernel
theorem dL_law_684 : decode cL_law 684 = .ok (.ireturn, 1) := by decide +kernel
theorem dL_law_685 : decode cL_law 685 = .ok (.aload_n 1, 1) := by decide +kernel
theorem dL_law_686 : decode cL_law 686 = .ok (.aload_n 0, 1) := by decide +kernel
theorem dL_law_687 : decode cL_law 687 = .ok (.iload 4, 2) := by decide +kernel
theorem dL_law_689 : decode cL_law 689 = .ok (.iconst 1, 1) := by decide +kernel
theorem dL_law_690 : decode cL_law 690 = .ok (.iadd, 1) := by decide +kernel
theorem dL_law_691 : decode cL_law 691 = .ok (.iaload, 1) := by decide +kernel
theorem dL_law_692 : decode cL_law 692 = .ok (.ifCond .eq 7, 3) := by decide +kernel
theorem dL_law_695 : decode cL_law 695 = .ok (.iconst 1, 1) := by decide +kernel
theorem dL_law_696 : decode cL_law 696 = .ok (.goto 4, 3) := by decide +kernel
theorem dL_law_699 : decode cL_law 699 = .ok (.iconst 0, 1) := by decide +kernel
theorem dL_law_700 : decode cL_law 700 = .ok (.invokevirtual 82, 3) := by decide +kernel
theorem dL_law_703 : decode cL_law 703 = .ok (.aload_n 2, 1) := by decide +kernel
theorem dL_law_704 : decode cL_law 704 = .ok (.aload_n 0, 1) := by decide +kernel
theorem dL_law_705 : decode cL_law 705 = .ok (.iload 4, 2) := by decide +kernel
theorem dL_law_707 : decode cL_law 707 = .ok (.iconst 1, 1) := by decide +kernel
theorem dL_law_708 : decode cL_law 708 = .ok (.iadd, 1) := by decide +kernel
theorem dL_law_709 : decode cL_law 709 = .ok (.iaload, 1) := by decide +kernel
theorem dL_law_710 : decode cL_law 710 = .ok (.ifCond .eq 7, 3) := by decide +kernel
theorem dL_law_713 : decode cL_law 713 = .ok (.iconst 1, 1) := by decide +kernel
theorem dL_law_714 : decode cL_law 714 = .ok (.goto 4, 3) := by decide +kernel
theorem dL_law_717 : decode cL_law 717 = .ok (.iconst 0, 1) := by decide +kernel
theorem dL_law_718 : decode cL_law 718 = .ok (.invokevirtual 86, 3) := by decide +kernel
theorem dL_law_721 : decode cL_law 721 = .ok (.if_icmp .eq 631, 3) := by decide +kernel
theorem dL_law_724 : decode cL_law 724 = .ok (.iconst 0, 1) := by decide +kernel
theorem dL_law_725 : decode cL_law 725 = .ok (.ireturn, 1) := by decide +kernel
theorem dL_law_726 : decode cL_law 726 = .ok (.aload_n 1, 1) := by decide +kernel
theorem dL_law_727 : decode cL_law 727 = .ok (.aload_n 0, 1) := by decide +kernel
theorem dL_law_728 : decode cL_law 728 = .ok (.iload 4, 2) := by decide +kernel
theorem dL_law_730 : decode cL_law 730 = .ok (.iconst 1, 1) := by decide +kernel
theorem dL_law_731 : decode cL_law 731 = .ok (.iadd, 1) := by decide +kernel
theorem dL_law_732 : decode cL_law 732 = .ok (.iaload, 1) := by decide +kernel
theorem dL_law_733 : decode cL_law 733 = .ok (.invokevirtual 87, 3) := by decide +kernel
theorem dL_law_736 : decode cL_law 736 = .ok (.aload_n 2, 1) := by decide +kernel
theorem dL_law_737 : decode cL_law 737 = .ok (.aload_n 0, 1) := by decide +kernel
theorem dL_law_738 : decode cL_law 738 = .ok (.iload 4, 2) := by decide +kernel
theorem dL_law_740 : decode cL_law 740 = .ok (.iconst 1, 1) := by decide +kernel
theorem dL_law_741 : decode cL_law 741 = .ok (.iadd, 1) := by decide +kernel
theorem dL_law_742 : decode cL_law 742 = .ok (.iaload, 1) := by decide +kernel
theorem dL_law_743 : decode cL_law 743 = .ok (.invokevirtual 90, 3) := by decide +kernel
theorem dL_law_746 : decode cL_law 746 = .ok (.if_icmp .eq 606, 3) := by decide +kernel
theorem dL_law_749 : decode cL_law 749 = .ok (.iconst 0, 1) := by decide +kernel
theorem dL_law_750 : decode cL_law 750 = .ok (.ireturn, 1) := by decide +kernel
theorem dL_law_751 : decode cL_law 751 = .ok (.aload_n 1, 1) := by decide +kernel
theorem dL_law_752 : decode cL_law 752 = .ok (.aload_n 0, 1) := by decide +kernel
theorem dL_law_753 : decode cL_law 753 = .ok (.iload 4, 2) := by decide +kernel
theorem dL_law_755 : decode cL_law 755 = .ok (.iconst 1, 1) := by decide +kernel
theorem dL_law_756 : decode cL_law 756 = .ok (.iadd, 1) := by decide +kernel
theorem dL_law_757 : decode cL_law 757 = .ok (.iaload, 1) := by decide +kernel
theorem dL_law_758 : decode cL_law 758 = .ok (.invokevirtual 91, 3) := by decide +kernel
theorem dL_law_761 : decode cL_law 761 = .ok (.aload_n 2, 1) := by decide +kernel
theorem dL_law_762 : decode cL_law 762 = .ok (.aload_n 0, 1) := by decide +kernel
theorem dL_law_763 : decode cL_law 763 = .ok (.iload 4, 2) := by decide +kernel
theorem dL_law_765 : decode cL_law 765 = .ok (.iconst 1, 1) := by decide +kernel
theorem dL_law_766 : decode cL_law 766 = .ok (.iadd, 1) := by decide +kernel
theorem dL_law_767 : decode cL_law 767 = .ok (.iaload, 1) := by decide +kernel
theorem dL_law_768 : decode cL_law 768 = .ok (.invokevirtual 94, 3) := by decide +kernel
theorem dL_law_771 : decode cL_law 771 = .ok (.if_icmp .eq 581, 3) := by decide +kernel
theorem dL_law_774 : decode cL_law 774 = .ok (.iconst 0, 1) := by decide +kernel
theorem dL_law_775 : decode cL_law 775 = .ok (.ireturn, 1) := by decide +kernel
theorem dL_law_776 : decode cL_law 776 = .ok (.aload_n 1, 1) := by decide +kernel
theorem dL_law_777 : decode cL_law 777 = .ok (.aload_n 0, 1) := by decide +kernel
theorem dL_law_778 : decode cL_law 778 = .ok (.iload 4, 2) := by decide +kernel
theorem dL_law_780 : decode cL_law 780 = .ok (.iconst 1, 1) := by decide +kernel
theorem dL_law_781 : decode cL_law 781 = .ok (.iadd, 1) := by decide +kernel
theorem dL_law_782 : decode cL_law 782 = .ok (.iaload, 1) := by decide +kernel
theorem dL_law_783 : decode cL_law 783 = .ok (.aload_n 0, 1) := by decide +kernel
theorem dL_law_784 : decode cL_law 784 = .ok (.iload 4, 2) := by decide +kernel
theorem dL_law_786 : decode cL_law 786 = .ok (.iconst 2, 1) := by decide +kernel
theorem dL_law_787 : decode cL_law 787 = .ok (.iadd, 1) := by decide +kernel
theorem dL_law_788 : decode cL_law 788 = .ok (.iaload, 1) := by decide +kernel
theorem dL_law_789 : decode cL_law 789 = .ok (.invokevirtual 95, 3) := by decide +kernel
theorem dL_law_792 : decode cL_law 792 = .ok (.aload_n 2, 1) := by decide +kernel
theorem dL_law_793 : decode cL_law 793 = .ok (.aload_n 0, 1) := by decide +kernel
theorem dL_law_794 : decode cL_law 794 = .ok (.iload 4, 2) := by decide +kernel
theorem dL_law_796 : decode cL_law 796 = .ok (.iconst 1, 1) := by decide +kernel
theorem dL_law_797 : decode cL_law 797 = .ok (.iadd, 1) := by decide +kernel
theorem dL_law_798 : decode cL_law 798 = .ok (.iaload, 1) := by decide +kernel
theorem dL_law_799 : decode cL_law 799 = .ok (.aload_n 0, 1) := by decide +kernel
theorem dL_law_800 : decode cL_law 800 = .ok (.iload 4, 2) := by decide +kernel
theorem dL_law_802 : decode cL_law 802 = .ok (.iconst 2, 1) := by decide +kernel
theorem dL_law_803 : decode cL_law 803 = .ok (.iadd, 1) := by decide +kernel
theorem dL_law_804 : decode cL_law 804 = .ok (.iaload, 1) := by decide +kernel
theorem dL_law_805 : decode cL_law 805 = .ok (.invokevirtual 98, 3) := by decide +kernel
theorem dL_law_808 : decode cL_law 808 = .ok (.if_icmp .eq 544, 3) := by decide +kernel
theorem dL_law_811 : decode cL_law 811 = .ok (.iconst 0, 1) := by decide +kernel
theorem dL_law_812 : decode cL_law 812 = .ok (.ireturn, 1) := by decide +kernel
theorem dL_law_813 : decode cL_law 813 = .ok (.aload_n 1, 1) := by decide +kernel
theorem dL_law_814 : decode cL_law 814 = .ok (.invokevirtual 99, 3) := by decide +kernel
theorem dL_law_817 : decode cL_law 817 = .ok (.aload_n 2, 1) := by decide +kernel
theorem dL_law_818 : decode cL_law 818 = .ok (.invokevirtual 102, 3) := by decide +kernel
theorem dL_law_821 : decode cL_law 821 = .ok (.if_icmp .eq 531, 3) := by decide +kernel
theorem dL_law_824 : decode cL_law 824 = .ok (.iconst 0, 1) := by decide +kernel
theorem dL_law_825 : decode cL_law 825 = .ok (.ireturn, 1) := by decide +kernel
theorem dL_law_826 : decode cL_law 826 = .ok (.aload_n 1, 1) := by decide +kernel
theorem dL_law_827 : decode cL_law 827 = .ok (.aload_n 0, 1) := by decide +kernel
theorem dL_law_828 : decode cL_law 828 = .ok (.iload 4, 2) := by decide +kernel
theorem dL_law_830 : decode cL_law 830 = .ok (.iconst 1, 1) := by decide +kernel
theorem dL_law_831 : decode cL_law 831 = .ok (.iadd, 1) := by decide +kernel
theorem dL_law_832 : decode cL_law 832 = .ok (.iaload, 1) := by decide +kernel
theorem dL_law_833 : decode cL_law 833 = .ok (.aload_n 0, 1) := by decide +kernel
theorem dL_law_834 : decode cL_law 834 = .ok (.iload 4, 2) := by decide +kernel
theorem dL_law_836 : decode cL_law 836 = .ok (.iconst 2, 1) := by decide +kernel
theorem dL_law_837 : decode cL_law 837 = .ok (.iadd, 1) := by decide +kernel
theorem dL_law_838 : decode cL_law 838 = .ok (.iaload, 1) := by decide +kernel
theorem dL_law_839 : decode cL_law 839 = .ok (.invokevirtual 103, 3) := by decide +kernel
theorem dL_law_842 : decode cL_law 842 = .ok (.aload_n 2, 1) := by decide +kernel
theorem dL_law_843 : decode cL_law 843 = .ok (.aload_n 0, 1) := by decide +kernel
theorem dL_law_844 : decode cL_law 844 = .ok (.iload 4, 2) := by decide +kernel
theorem dL_law_846 : decode cL_law 846 = .ok (.iconst 1, 1) := by decide +kernel
theorem dL_law_847 : decode cL_law 847 = .ok (.iadd, 1) := by decide +kernel
theorem dL_law_848 : decode cL_law 848 = .ok (.iaload, 1) := by decide +kernel
theorem dL_law_849 : decode cL_law 849 = .ok (.aload_n 0, 1) := by decide +kernel
theorem dL_law_850 : decode cL_law 850 = .ok (.iload 4, 2) := by decide +kernel
theorem dL_law_852 : decode cL_law 852 = .ok (.iconst 2, 1) := by decide +kernel
theorem dL_law_853 : decode cL_law 853 = .ok (.iadd, 1) := by decide +kernel
theorem dL_law_854 : decode cL_law 854 = .ok (.iaload, 1) := by decide +kernel
theorem dL_law_855 : decode cL_law 855 = .ok (.invokevirtual 106, 3) := by decide +kernel
theorem dL_law_858 : decode cL_law 858 = .ok (.if_icmp .eq 494, 3) := by decide +kernel
theorem dL_law_861 : decode cL_law 861 = .ok (.iconst 0, 1) := by decide +kernel
theorem dL_law_862 : decode cL_law 862 = .ok (.ireturn, 1) := by decide +kernel
theorem dL_law_863 : decode cL_law 863 = .ok (.aload_n 1, 1) := by decide +kernel
theorem dL_law_864 : decode cL_law 864 = .ok (.aload_n 0, 1) := by decide +kernel
theorem dL_law_865 : decode cL_law 865 = .ok (.iload 4, 2) := by decide +kernel
theorem dL_law_867 : decode cL_law 867 = .ok (.iconst 1, 1) := by decide +kernel
theorem dL_law_868 : decode cL_law 868 = .ok (.iadd, 1) := by decide +kernel
theorem dL_law_869 : decode cL_law 869 = .ok (.iaload, 1) := by decide +kernel
theorem dL_law_870 : decode cL_law 870 = .ok (.aload_n 0, 1) := by decide +kernel
theorem dL_law_871 : decode cL_law 871 = .ok (.iload 4, 2) := by decide +kernel
theorem dL_law_873 : decode cL_law 873 = .ok (.iconst 2, 1) := by decide +kernel
theorem dL_law_874 : decode cL_law 874 = .ok (.iadd, 1) := by decide +kernel
theorem dL_law_875 : decode cL_law 875 = .ok (.iaload, 1) := by decide +kernel
theorem dL_law_876 : decode cL_law 876 = .ok (.invokevirtual 107, 3) := by decide +kernel
theorem dL_law_879 : decode cL_law 879 = .ok (.aload_n 2, 1) := by decide +kernel
theorem dL_law_880 : decode cL_law 880 = .ok (.aload_n 0, 1) := by decide +kernel
theorem dL_law_881 : decode cL_law 881 = .ok (.iload 4, 2) := by decide +kernel
theorem dL_law_883 : decode cL_law 883 = .ok (.iconst 1, 1) := by decide +kernel
theorem dL_law_884 : decode cL_law 884 = .ok (.iadd, 1) := by decide +kernel
theorem dL_law_885 : decode cL_law 885 = .ok (.iaload, 1) := by decide +kernel
theorem dL_law_886 : decode cL_law 886 = .ok (.aload_n 0, 1) := by decide +kernel
theorem dL_law_887 : decode cL_law 887 = .ok (.iload 4, 2) := by decide +kernel
theorem dL_law_889 : decode cL_law 889 = .ok (.iconst 2, 1) := by decide +kernel
theorem dL_law_890 : decode cL_law 890 = .ok (.iadd, 1) := by decide +kernel
theorem dL_law_891 : decode cL_law 891 = .ok (.iaload, 1) := by decide +kernel
theorem dL_law_892 : decode cL_law 892 = .ok (.invokevirtual 110, 3) := by decide +kernel
theorem dL_law_895 : decode cL_law 895 = .ok (.if_icmp .eq 457, 3) := by decide +kernel
theorem dL_law_898 : decode cL_law 898 = .ok (.iconst 0, 1) := by decide +kernel
theorem dL_law_899 : decode cL_law 899 = .ok (.ireturn, 1) := by decide +kernel
theorem dL_law_900 : decode cL_law 900 = .ok (.aload_n 1, 1) := by decide +kernel
theorem dL_law_901 : decode cL_law 901 = .ok (.aload_n 0, 1) := by decide +kernel
theorem dL_law_902 : decode cL_law 902 = .ok (.iload 4, 2) := by decide +kernel
theorem dL_law_904 : decode cL_law 904 = .ok (.iconst 1, 1) := by decide +kernel
theorem dL_law_905 : decode cL_law 905 = .ok (.iadd, 1) := by decide +kernel
theorem dL_law_906 : decode cL_law 906 = .ok (.iaload, 1) := by decide +kernel
theorem dL_law_907 : decode cL_law 907 = .ok (.aload_n 0, 1) := by decide +kernel
theorem dL_law_908 : decode cL_law 908 = .ok (.iload 4, 2) := by decide +kernel
theorem dL_law_910 : decode cL_law 910 = .ok (.iconst 2, 1) := by decide +kernel
theorem dL_law_911 : decode cL_law 911 = .ok (.iadd, 1) := by decide +kernel
theorem dL_law_912 : decode cL_law 912 = .ok (.iaload, 1) := by decide +kernel
theorem dL_law_913 : decode cL_law 913 = .ok (.invokevirtual 111, 3) := by decide +kernel
theorem dL_law_916 : decode cL_law 916 = .ok (.aload_n 2, 1) := by decide +kernel
theorem dL_law_917 : decode cL_law 917 = .ok (.aload_n 0, 1) := by decide +kernel
theorem dL_law_918 : decode cL_law 918 = .ok (.iload 4, 2) := by decide +kernel
theorem dL_law_920 : decode cL_law 920 = .ok (.iconst 1, 1) := by decide +kernel
theorem dL_law_921 : decode cL_law 921 = .ok (.iadd, 1) := by decide +kernel
theorem dL_law_922 : decode cL_law 922 = .ok (.iaload, 1) := by decide +kernel
theorem dL_law_923 : decode cL_law 923 = .ok (.aload_n 0, 1) := by decide +kernel
theorem dL_law_924 : decode cL_law 924 = .ok (.iload 4, 2) := by decide +kernel
theorem dL_law_926 : decode cL_law 926 = .ok (.iconst 2, 1) := by decide +kernel
theorem dL_law_927 : decode cL_law 927 = .ok (.iadd, 1) := by decide +kernel
theorem dL_law_928 : decode cL_law 928 = .ok (.iaload, 1) := by decide +kernel
theorem dL_law_929 : decode cL_law 929 = .ok (.invokevirtual 114, 3) := by decide +kernel
theorem dL_law_932 : decode cL_law 932 = .ok (.lcmp, 1) := by decide +kernel
theorem dL_law_933 : decode cL_law 933 = .ok (.ifCond .eq 419, 3) := by decide +kernel
theorem dL_law_936 : decode cL_law 936 = .ok (.iconst 0, 1) := by decide +kernel
theorem dL_law_937 : decode cL_law 937 = .ok (.ireturn, 1) := by decide +kernel
theorem dL_law_938 : decode cL_law 938 = .ok (.aload_n 1, 1) := by decide +kernel
theorem dL_law_939 : decode cL_law 939 = .ok (.aload_n 0, 1) := by decide +kernel
theorem dL_law_940 : decode cL_law 940 = .ok (.iload 4, 2) := by decide +kernel
theorem dL_law_942 : decode cL_law 942 = .ok (.iconst 1, 1) := by decide +kernel
theorem dL_law_943 : decode cL_law 943 = .ok (.iadd, 1) := by decide +kernel
theorem dL_law_944 : decode cL_law 944 = .ok (.iaload, 1) := by decide +kernel
theorem dL_law_945 : decode cL_law 945 = .ok (.invokevirtual 115, 3) := by decide +kernel
theorem dL_law_948 : decode cL_law 948 = .ok (.aload_n 2, 1) := by decide +kernel
theorem dL_law_949 : decode cL_law 949 = .ok (.aload_n 0, 1) := by decide +kernel
theorem dL_law_950 : decode cL_law 950 = .ok (.iload 4, 2) := by decide +kernel
theorem dL_law_952 : decode cL_law 952 = .ok (.iconst 1, 1) := by decide +kernel
theorem dL_law_953 : decode cL_law 953 = .ok (.iadd, 1) := by decide +kernel
theorem dL_law_954 : decode cL_law 954 = .ok (.iaload, 1) := by decide +kernel
theorem dL_law_955 : decode cL_law 955 = .ok (.invokevirtual 118, 3) := by decide +kernel
theorem dL_law_958 : decode cL_law 958 = .ok (.if_icmp .eq 394, 3) := by decide +kernel
theorem dL_law_961 : decode cL_law 961 = .ok (.iconst 0, 1) := by decide +kernel
theorem dL_law_962 : decode cL_law 962 = .ok (.ireturn, 1) := by decide +kernel
theorem dL_law_963 : decode cL_law 963 = .ok (.aload_n 1, 1) := by decide +kernel
theorem dL_law_964 : decode cL_law 964 = .ok (.aload_n 0, 1) := by decide +kernel
theorem dL_law_965 : decode cL_law 965 = .ok (.iload 4, 2) := by decide +kernel
theorem dL_law_967 : decode cL_law 967 = .ok (.iconst 1, 1) := by decide +kernel
theorem dL_law_968 : decode cL_law 968 = .ok (.iadd, 1) := by decide +kernel
theorem dL_law_969 : decode cL_law 969 = .ok (.iaload, 1) := by decide +kernel
theorem dL_law_970 : decode cL_law 970 = .ok (.invokevirtual 119, 3) := by decide +kernel
theorem dL_law_973 : decode cL_law 973 = .ok (.aload_n 2, 1) := by decide +kernel
theorem dL_law_974 : decode cL_law 974 = .ok (.aload_n 0, 1) := by decide +kernel
theorem dL_law_975 : decode cL_law 975 = .ok (.iload 4, 2) := by decide +kernel
theorem dL_law_977 : decode cL_law 977 = .ok (.iconst 1, 1) := by decide +kernel
theorem dL_law_978 : decode cL_law 978 = .ok (.iadd, 1) := by decide +kernel
theorem dL_law_979 : decode cL_law 979 = .ok (.iaload, 1) := by decide +kernel
theorem dL_law_980 : decode cL_law 980 = .ok (.invokevirtual 122, 3) := by decide +kernel
theorem dL_law_983 : decode cL_law 983 = .ok (.if_icmp .eq 369, 3) := by decide +kernel
theorem dL_law_986 : decode cL_law 986 = .ok (.iconst 0, 1) := by decide +kernel
theorem dL_law_987 : decode cL_law 987 = .ok (.ireturn, 1) := by decide +kernel
theorem dL_law_988 : decode cL_law 988 = .ok (.aload_n 1, 1) := by decide +kernel
theorem dL_law_989 : decode cL_law 989 = .ok (.aload_n 0, 1) := by decide +kernel
theorem dL_law_990 : decode cL_law 990 = .ok (.iload 4, 2) := by decide +kernel
theorem dL_law_992 : decode cL_law 992 = .ok (.iconst 1, 1) := by decide +kernel
theorem dL_law_993 : decode cL_law 993 = .ok (.iadd, 1) := by decide +kernel
theorem dL_law_994 : decode cL_law 994 = .ok (.iaload, 1) := by decide +kernel
theorem dL_law_995 : decode cL_law 995 = .ok (.aload_n 0, 1) := by decide +kernel
theorem dL_law_996 : decode cL_law 996 = .ok (.iload 4, 2) := by decide +kernel
theorem dL_law_998 : decode cL_law 998 = .ok (.iconst 2, 1) := by decide +kernel
theorem dL_law_999 : decode cL_law 999 = .ok (.iadd, 1) := by decide +kernel
theorem dL_law_1000 : decode cL_law 1000 = .ok (.iaload, 1) := by decide +kernel
theorem dL_law_1001 : decode cL_law 1001 = .ok (.invokevirtual 123, 3) := by decide +kernel
theorem dL_law_1004 : decode cL_law 1004 = .ok (.aload_n 2, 1) := by decide +kernel
theorem dL_law_1005 : decode cL_law 1005 = .ok (.aload_n 0, 1) := by decide +kernel
theorem dL_law_1006 : decode cL_law 1006 = .ok (.iload 4, 2) := by decide +kernel
theorem dL_law_1008 : decode cL_law 1008 = .ok (.iconst 1, 1) := by decide +kernel
theorem dL_law_1009 : decode cL_law 1009 = .ok (.iadd, 1) := by decide +kernel
theorem dL_law_1010 : decode cL_law 1010 = .ok (.iaload, 1) := by decide +kernel
theorem dL_law_1011 : decode cL_law 1011 = .ok (.aload_n 0, 1) := by decide +kernel
theorem dL_law_1012 : decode cL_law 1012 = .ok (.iload 4, 2) := by decide +kernel
theorem dL_law_1014 : decode cL_law 1014 = .ok (.iconst 2, 1) := by decide +kernel
theorem dL_law_1015 : decode cL_law 1015 = .ok (.iadd, 1) := by decide +kernel
theorem dL_law_1016 : decode cL_law 1016 = .ok (.iaload, 1) := by decide +kernel
theorem dL_law_1017 : decode cL_law 1017 = .ok (.invokevirtual 126, 3) := by decide +kernel
theorem dL_law_1020 : decode cL_law 1020 = .ok (.if_icmp .eq 332, 3) := by decide +kernel
theorem dL_law_1023 : decode cL_law 1023 = .ok (.iconst 0, 1) := by decide +kernel
theorem dL_law_1024 : decode cL_law 1024 = .ok (.ireturn, 1) := by decide +kernel
theorem dL_law_1025 : decode cL_law 1025 = .ok (.aload_n 1, 1) := by decide +kernel
theorem dL_law_1026 : decode cL_law 1026 = .ok (.aload_n 0, 1) := by decide +kernel
theorem dL_law_1027 : decode cL_law 1027 = .ok (.iload 4, 2) := by decide +kernel
theorem dL_law_1029 : decode cL_law 1029 = .ok (.iconst 1, 1) := by decide +kernel
theorem dL_law_1030 : decode cL_law 1030 = .ok (.iadd, 1) := by decide +kernel
theorem dL_law_1031 : decode cL_law 1031 = .ok (.iaload, 1) := by decide +kernel
theorem dL_law_1032 : decode cL_law 1032 = .ok (.aload_n 0, 1) := by decide +kernel
theorem dL_law_1033 : decode cL_law 1033 = .ok (.iload 4, 2) := by decide +kernel
theorem dL_law_1035 : decode cL_law 1035 = .ok (.iconst 2, 1) := by decide +kernel
theorem dL_law_1036 : decode cL_law 1036 = .ok (.iadd, 1) := by decide +kernel
theorem dL_law_1037 : decode cL_law 1037 = .ok (.iaload, 1) := by decide +kernel
theorem dL_law_1038 : decode cL_law 1038 = .ok (.aload_n 0, 1) := by decide +kernel
theorem dL_law_1039 : decode cL_law 1039 = .ok (.iload 4, 2) := by decide +kernel
theorem dL_law_1041 : decode cL_law 1041 = .ok (.iconst 3, 1) := by decide +kernel
theorem dL_law_1042 : decode cL_law 1042 = .ok (.iadd, 1) := by decide +kernel
theorem dL_law_1043 : decode cL_law 1043 = .ok (.iaload, 1) := by decide +kernel
theorem dL_law_1044 : decode cL_law 1044 = .ok (.ifCond .eq 7, 3) := by decide +kernel
theorem dL_law_1047 : decode cL_law 1047 = .ok (.iconst 1, 1) := by decide +kernel
theorem dL_law_1048 : decode cL_law 1048 = .ok (.goto 4, 3) := by decide +kernel
theorem dL_law_1051 : decode cL_law 1051 = .ok (.iconst 0, 1) := by decide +kernel
theorem dL_law_1052 : decode cL_law 1052 = .ok (.invokevirtual 127, 3) := by decide +kernel
theorem dL_law_1055 : decode cL_law 1055 = .ok (.aload_n 2, 1) := by decide +kernel
theorem dL_law_1056 : decode cL_law 1056 = .ok (.aload_n 0, 1) := by decide +kernel
theorem dL_law_1057 : decode cL_law 1057 = .ok (.iload 4, 2) := by decide +kernel
theorem dL_law_1059 : decode cL_law 1059 = .ok (.iconst 1, 1) := by decide +kernel
theorem dL_law_1060 : decode cL_law 1060 = .ok (.iadd, 1) := by decide +kernel
theorem dL_law_1061 : decode cL_law 1061 = .ok (.iaload, 1) := by decide +kernel
theorem dL_law_1062 : decode cL_law 1062 = .ok (.aload_n 0, 1) := by decide +kernel
theorem dL_law_1063 : decode cL_law 1063 = .ok (.iload 4, 2) := by decide +kernel
theorem dL_law_1065 : decode cL_law 1065 = .ok (.iconst 2, 1) := by decide +kernel
theorem dL_law_1066 : decode cL_law 1066 = .ok (.iadd, 1) := by decide +kernel
theorem dL_law_1067 : decode cL_law 1067 = .ok (.iaload, 1) := by decide +kernel
theorem dL_law_1068 : decode cL_law 1068 = .ok (.aload_n 0, 1) := by decide +kernel
theorem dL_law_1069 : decode cL_law 1069 = .ok (.iload 4, 2) := by decide +kernel
theorem dL_law_1071 : decode cL_law 1071 = .ok (.iconst 3, 1) := by decide +kernel
theorem dL_law_1072 : decode cL_law 1072 = .ok (.iadd, 1) := by decide +kernel
theorem dL_law_1073 : decode cL_law 1073 = .ok (.iaload, 1) := by decide +kernel
theorem dL_law_1074 : decode cL_law 1074 = .ok (.ifCond .eq 7, 3) := by decide +kernel
theorem dL_law_1077 : decode cL_law 1077 = .ok (.iconst 1, 1) := by decide +kernel
theorem dL_law_1078 : decode cL_law 1078 = .ok (.goto 4, 3) := by decide +kernel
theorem dL_law_1081 : decode cL_law 1081 = .ok (.iconst 0, 1) := by decide +kernel
theorem dL_law_1082 : decode cL_law 1082 = .ok (.invokevirtual 131, 3) := by decide +kernel
theorem dL_law_1085 : decode cL_law 1085 = .ok (.if_icmp .eq 267, 3) := by decide +kernel
theorem dL_law_1088 : decode cL_law 1088 = .ok (.iconst 0, 1) := by decide +kernel
theorem dL_law_1089 : decode cL_law 1089 = .ok (.ireturn, 1) := by decide +kernel
theorem dL_law_1090 : decode cL_law 1090 = .ok (.aload_n 1, 1) := by decide +kernel
theorem dL_law_1091 : decode cL_law 1091 = .ok (.aload_n 0, 1) := by decide +kernel
theorem dL_law_1092 : decode cL_law 1092 = .ok (.iload 4, 2) := by decide +kernel
theorem dL_law_1094 : decode cL_law 1094 = .ok (.iconst 1, 1) := by decide +kernel
theorem dL_law_1095 : decode cL_law 1095 = .ok (.iadd, 1) := by decide +kernel
theorem dL_law_1096 : decode cL_law 1096 = .ok (.iaload, 1) := by decide +kernel
theorem dL_law_1097 : decode cL_law 1097 = .ok (.invokevirtual 132, 3) := by decide +kernel
theorem dL_law_1100 : decode cL_law 1100 = .ok (.aload_n 2, 1) := by decide +kernel
theorem dL_law_1101 : decode cL_law 1101 = .ok (.aload_n 0, 1) := by decide +kernel
theorem dL_law_1102 : decode cL_law 1102 = .ok (.iload 4, 2) := by decide +kernel
theorem dL_law_1104 : decode cL_law 1104 = .ok (.iconst 1, 1) := by decide +kernel
theorem dL_law_1105 : decode cL_law 1105 = .ok (.iadd, 1) := by decide +kernel
theorem dL_law_1106 : decode cL_law 1106 = .ok (.iaload, 1) := by decide +kernel
theorem dL_law_1107 : decode cL_law 1107 = .ok (.invokevirtual 135, 3) := by decide +kernel
theorem dL_law_1110 : decode cL_law 1110 = .ok (.if_icmp .eq 242, 3) := by decide +kernel
theorem dL_law_1113 : decode cL_law 1113 = .ok (.iconst 0, 1) := by decide +kernel
theorem dL_law_1114 : decode cL_law 1114 = .ok (.ireturn, 1) := by decide +kernel
theorem dL_law_1115 : decode cL_law 1115 = .ok (.aload_n 1, 1) := by decide +kernel
theorem dL_law_1116 : decode cL_law 1116 = .ok (.aload_n 0, 1) := by decide +kernel
theorem dL_law_1117 : decode cL_law 1117 = .ok (.iload 4, 2) := by decide +kernel
theorem dL_law_1119 : decode cL_law 1119 = .ok (.iconst 1, 1) := by decide +kernel
theorem dL_law_1120 : decode cL_law 1120 = .ok (.iadd, 1) := by decide +kernel
theorem dL_law_1121 : decode cL_law 1121 = .ok (.iaload, 1) := by decide +kernel
theorem dL_law_1122 : decode cL_law 1122 = .ok (.invokevirtual 136, 3) := by decide +kernel
theorem dL_law_1125 : decode cL_law 1125 = .ok (.aload_n 2, 1) := by decide +kernel
theorem dL_law_1126 : decode cL_law 1126 = .ok (.aload_n 0, 1) := by decide +kernel
theorem dL_law_1127 : decode cL_law 1127 = .ok (.iload 4, 2) := by decide +kernel
theorem dL_law_1129 : decode cL_law 1129 = .ok (.iconst 1, 1) := by decide +kernel
theorem dL_law_1130 : decode cL_law 1130 = .ok (.iadd, 1) := by decide +kernel
theorem dL_law_1131 : decode cL_law 1131 = .ok (.iaload, 1) := by decide +kernel
theorem dL_law_1132 : decode cL_law 1132 = .ok (.invokevirtual 140, 3) := by decide +kernel
theorem dL_law_1135 : decode cL_law 1135 = .ok (.if_icmp .eq 217, 3) := by decide +kernel
theorem dL_law_1138 : decode cL_law 1138 = .ok (.iconst 0, 1) := by decide +kernel
theorem dL_law_1139 : decode cL_law 1139 = .ok (.ireturn, 1) := by decide +kernel
theorem dL_law_1140 : decode cL_law 1140 = .ok (.aload_n 1, 1) := by decide +kernel
theorem dL_law_1141 : decode cL_law 1141 = .ok (.aload_n 0, 1) := by decide +kernel
theorem dL_law_1142 : decode cL_law 1142 = .ok (.iload 4, 2) := by decide +kernel
theorem dL_law_1144 : decode cL_law 1144 = .ok (.iconst 1, 1) := by decide +kernel
theorem dL_law_1145 : decode cL_law 1145 = .ok (.iadd, 1) := by decide +kernel
theorem dL_law_1146 : decode cL_law 1146 = .ok (.iaload, 1) := by decide +kernel
theorem dL_law_1147 : decode cL_law 1147 = .ok (.invokevirtual 141, 3) := by decide +kernel
theorem dL_law_1150 : decode cL_law 1150 = .ok (.aload_n 2, 1) := by decide +kernel
theorem dL_law_1151 : decode cL_law 1151 = .ok (.aload_n 0, 1) := by decide +kernel
theorem dL_law_1152 : decode cL_law 1152 = .ok (.iload 4, 2) := by decide +kernel
theorem dL_law_1154 : decode cL_law 1154 = .ok (.iconst 1, 1) := by decide +kernel
theorem dL_law_1155 : decode cL_law 1155 = .ok (.iadd, 1) := by decide +kernel
theorem dL_law_1156 : decode cL_law 1156 = .ok (.iaload, 1) := by decide +kernel
theorem dL_law_1157 : decode cL_law 1157 = .ok (.invokevirtual 144, 3) := by decide +kernel
theorem dL_law_1160 : decode cL_law 1160 = .ok (.if_icmp .eq 192, 3) := by decide +kernel
theorem dL_law_1163 : decode cL_law 1163 = .ok (.iconst 0, 1) := by decide +kernel
theorem dL_law_1164 : decode cL_law 1164 = .ok (.ireturn, 1) := by decide +kernel
theorem dL_law_1165 : decode cL_law 1165 = .ok (.aload_n 1, 1) := by decide +kernel
theorem dL_law_1166 : decode cL_law 1166 = .ok (.aload_n 0, 1) := by decide +kernel
theorem dL_law_1167 : decode cL_law 1167 = .ok (.iload 4, 2) := by decide +kernel
theorem dL_law_1169 : decode cL_law 1169 = .ok (.iconst 1, 1) := by decide +kernel
theorem dL_law_1170 : decode cL_law 1170 = .ok (.iadd, 1) := by decide +kernel
theorem dL_law_1171 : decode cL_law 1171 = .ok (.iaload, 1) := by decide +kernel
theorem dL_law_1172 : decode cL_law 1172 = .ok (.invokevirtual 145, 3) := by decide +kernel
theorem dL_law_1175 : decode cL_law 1175 = .ok (.aload_n 2, 1) := by decide +kernel
theorem dL_law_1176 : decode cL_law 1176 = .ok (.aload_n 0, 1) := by decide +kernel
theorem dL_law_1177 : decode cL_law 1177 = .ok (.iload 4, 2) := by decide +kernel
theorem dL_law_1179 : decode cL_law 1179 = .ok (.iconst 1, 1) := by decide +kernel
theorem dL_law_1180 : decode cL_law 1180 = .ok (.iadd, 1) := by decide +kernel
theorem dL_law_1181 : decode cL_law 1181 = .ok (.iaload, 1) := by decide +kernel
theorem dL_law_1182 : decode cL_law 1182 = .ok (.invokevirtual 148, 3) := by decide +kernel
theorem dL_law_1185 : decode cL_law 1185 = .ok (.if_icmp .eq 167, 3) := by decide +kernel
theorem dL_law_1188 : decode cL_law 1188 = .ok (.iconst 0, 1) := by decide +kernel
theorem dL_law_1189 : decode cL_law 1189 = .ok (.ireturn, 1) := by decide +kernel
theorem dL_law_1190 : decode cL_law 1190 = .ok (.aload_n 1, 1) := by decide +kernel
theorem dL_law_1191 : decode cL_law 1191 = .ok (.aload_n 0, 1) := by decide +kernel
theorem dL_law_1192 : decode cL_law 1192 = .ok (.iload 4, 2) := by decide +kernel
theorem dL_law_1194 : decode cL_law 1194 = .ok (.iconst 1, 1) := by decide +kernel
theorem dL_law_1195 : decode cL_law 1195 = .ok (.iadd, 1) := by decide +kernel
theorem dL_law_1196 : decode cL_law 1196 = .ok (.iaload, 1) := by decide +kernel
theorem dL_law_1197 : decode cL_law 1197 = .ok (.aload_n 0, 1) := by decide +kernel
theorem dL_law_1198 : decode cL_law 1198 = .ok (.iload 4, 2) := by decide +kernel
theorem dL_law_1200 : decode cL_law 1200 = .ok (.iconst 2, 1) := by decide +kernel
theorem dL_law_1201 : decode cL_law 1201 = .ok (.iadd, 1) := by decide +kernel
theorem dL_law_1202 : decode cL_law 1202 = .ok (.iaload, 1) := by decide +kernel
theorem dL_law_1203 : decode cL_law 1203 = .ok (.aload_n 0, 1) := by decide +kernel
theorem dL_law_1204 : decode cL_law 1204 = .ok (.iload 4, 2) := by decide +kernel
theorem dL_law_1206 : decode cL_law 1206 = .ok (.iconst 3, 1) := by decide +kernel
theorem dL_law_1207 : decode cL_law 1207 = .ok (.iadd, 1) := by decide +kernel
theorem dL_law_1208 : decode cL_law 1208 = .ok (.iaload, 1) := by decide +kernel
theorem dL_law_1209 : decode cL_law 1209 = .ok (.invokevirtual 149, 3) := by decide +kernel
theorem dL_law_1212 : decode cL_law 1212 = .ok (.aload_n 2, 1) := by decide +kernel
theorem dL_law_1213 : decode cL_law 1213 = .ok (.aload_n 0, 1) := by decide +kernel
theorem dL_law_1214 : decode cL_law 1214 = .ok (.iload 4, 2) := by decide +kernel
theorem dL_law_1216 : decode cL_law 1216 = .ok (.iconst 1, 1) := by decide +kernel
theorem dL_law_1217 : decode cL_law 1217 = .ok (.iadd, 1) := by decide +kernel
theorem dL_law_1218 : decode cL_law 1218 = .ok (.iaload, 1) := by decide +kernel
theorem dL_law_1219 : decode cL_law 1219 = .ok (.aload_n 0, 1) := by decide +kernel
theorem dL_law_1220 : decode cL_law 1220 = .ok (.iload 4, 2) := by decide +kernel
theorem dL_law_1222 : decode cL_law 1222 = .ok (.iconst 2, 1) := by decide +kernel
theorem dL_law_1223 : decode cL_law 1223 = .ok (.iadd, 1) := by decide +kernel
theorem dL_law_1224 : decode cL_law 1224 = .ok (.iaload, 1) := by decide +kernel
theorem dL_law_1225 : decode cL_law 1225 = .ok (.aload_n 0, 1) := by decide +kernel
theorem dL_law_1226 : decode cL_law 1226 = .ok (.iload 4, 2) := by decide +kernel
theorem dL_law_1228 : decode cL_law 1228 = .ok (.iconst 3, 1) := by decide +kernel
theorem dL_law_1229 : decode cL_law 1229 = .ok (.iadd, 1) := by decide +kernel
theorem dL_law_1230 : decode cL_law 1230 = .ok (.iaload, 1) := by decide +kernel
theorem dL_law_1231 : decode cL_law 1231 = .ok (.invokevirtual 153, 3) := by decide +kernel
theorem dL_law_1234 : decode cL_law 1234 = .ok (.if_icmp .eq 118, 3) := by decide +kernel
theorem dL_law_1237 : decode cL_law 1237 = .ok (.iconst 0, 1) := by decide +kernel
theorem dL_law_1238 : decode cL_law 1238 = .ok (.ireturn, 1) := by decide +kernel
theorem dL_law_1239 : decode cL_law 1239 = .ok (.aload_n 1, 1) := by decide +kernel
theorem dL_law_1240 : decode cL_law 1240 = .ok (.aload_n 0, 1) := by decide +kernel
theorem dL_law_1241 : decode cL_law 1241 = .ok (.iload 4, 2) := by decide +kernel
theorem dL_law_1243 : decode cL_law 1243 = .ok (.iconst 1, 1) := by decide +kernel
theorem dL_law_1244 : decode cL_law 1244 = .ok (.iadd, 1) := by decide +kernel
theorem dL_law_1245 : decode cL_law 1245 = .ok (.iaload, 1) := by decide +kernel
theorem dL_law_1246 : decode cL_law 1246 = .ok (.aload_n 0, 1) := by decide +kernel
theorem dL_law_1247 : decode cL_law 1247 = .ok (.iload 4, 2) := by decide +kernel
theorem dL_law_1249 : decode cL_law 1249 = .ok (.iconst 2, 1) := by decide +kernel
theorem dL_law_1250 : decode cL_law 1250 = .ok (.iadd, 1) := by decide +kernel
theorem dL_law_1251 : decode cL_law 1251 = .ok (.iaload, 1) := by decide +kernel
theorem dL_law_1252 : decode cL_law 1252 = .ok (.aload_n 0, 1) := by decide +kernel
theorem dL_law_1253 : decode cL_law 1253 = .ok (.iload 4, 2) := by decide +kernel
theorem dL_law_1255 : decode cL_law 1255 = .ok (.iconst 3, 1) := by decide +kernel
theorem dL_law_1256 : decode cL_law 1256 = .ok (.iadd, 1) := by decide +kernel
theorem dL_law_1257 : decode cL_law 1257 = .ok (.iaload, 1) := by decide +kernel
theorem dL_law_1258 : decode cL_law 1258 = .ok (.invokevirtual 154, 3) := by decide +kernel
theorem dL_law_1261 : decode cL_law 1261 = .ok (.aload_n 2, 1) := by decide +kernel
theorem dL_law_1262 : decode cL_law 1262 = .ok (.aload_n 0, 1) := by decide +kernel
theorem dL_law_1263 : decode cL_law 1263 = .ok (.iload 4, 2) := by decide +kernel
theorem dL_law_1265 : decode cL_law 1265 = .ok (.iconst 1, 1) := by decide +kernel
theorem dL_law_1266 : decode cL_law 1266 = .ok (.iadd, 1) := by decide +kernel
theorem dL_law_1267 : decode cL_law 1267 = .ok (.iaload, 1) := by decide +kernel
theorem dL_law_1268 : decode cL_law 1268 = .ok (.aload_n 0, 1) := by decide +kernel
theorem dL_law_1269 : decode cL_law 1269 = .ok (.iload 4, 2) := by decide +kernel
theorem dL_law_1271 : decode cL_law 1271 = .ok (.iconst 2, 1) := by decide +kernel
theorem dL_law_1272 : decode cL_law 1272 = .ok (.iadd, 1) := by decide +kernel
theorem dL_law_1273 : decode cL_law 1273 = .ok (.iaload, 1) := by decide +kernel
theorem dL_law_1274 : decode cL_law 1274 = .ok (.aload_n 0, 1) := by decide +kernel
theorem dL_law_1275 : decode cL_law 1275 = .ok (.iload 4, 2) := by decide +kernel
theorem dL_law_1277 : decode cL_law 1277 = .ok (.iconst 3, 1) := by decide +kernel
theorem dL_law_1278 : decode cL_law 1278 = .ok (.iadd, 1) := by decide +kernel
theorem dL_law_1279 : decode cL_law 1279 = .ok (.iaload, 1) := by decide +kernel
theorem dL_law_1280 : decode cL_law 1280 = .ok (.invokevirtual 157, 3) := by decide +kernel
theorem dL_law_1283 : decode cL_law 1283 = .ok (.if_icmp .eq 69, 3) := by decide +kernel
theorem dL_law_1286 : decode cL_law 1286 = .ok (.iconst 0, 1) := by decide +kernel
theorem dL_law_1287 : decode cL_law 1287 = .ok (.ireturn, 1) := by decide +kernel
theorem dL_law_1288 : decode cL_law 1288 = .ok (.aload_n 1, 1) := by decide +kernel
theorem dL_law_1289 : decode cL_law 1289 = .ok (.invokevirtual 158, 3) := by decide +kernel
theorem dL_law_1292 : decode cL_law 1292 = .ok (.aload_n 2, 1) := by decide +kernel
theorem dL_law_1293 : decode cL_law 1293 = .ok (.invokevirtual 161, 3) := by decide +kernel
theorem dL_law_1296 : decode cL_law 1296 = .ok (.if_icmp .eq 56, 3) := by decide +kernel
theorem dL_law_1299 : decode cL_law 1299 = .ok (.iconst 0, 1) := by decide +kernel
theorem dL_law_1300 : decode cL_law 1300 = .ok (.ireturn, 1) := by decide +kernel
theorem dL_law_1301 : decode cL_law 1301 = .ok (.aload_n 1, 1) := by decide +kernel
theorem dL_law_1302 : decode cL_law 1302 = .ok (.invokevirtual 162, 3) := by decide +kernel
theorem dL_law_1305 : decode cL_law 1305 = .ok (.aload_n 2, 1) := by decide +kernel
theorem dL_law_1306 : decode cL_law 1306 = .ok (.invokevirtual 165, 3) := by decide +kernel
theorem dL_law_1309 : decode cL_law 1309 = .ok (.if_icmp .eq 43, 3) := by decide +kernel
theorem dL_law_1312 : decode cL_law 1312 = .ok (.iconst 0, 1) := by decide +kernel
theorem dL_law_1313 : decode cL_law 1313 = .ok (.ireturn, 1) := by decide +kernel
theorem dL_law_1314 : decode cL_law 1314 = .ok (.aload_n 1, 1) := by decide +kernel
theorem dL_law_1315 : decode cL_law 1315 = .ok (.invokevirtual 166, 3) := by decide +kernel
theorem dL_law_1318 : decode cL_law 1318 = .ok (.aload_n 2, 1) := by decide +kernel
theorem dL_law_1319 : decode cL_law 1319 = .ok (.invokevirtual 169, 3) := by decide +kernel
theorem dL_law_1322 : decode cL_law 1322 = .ok (.if_icmp .eq 30, 3) := by decide +kernel
theorem dL_law_1325 : decode cL_law 1325 = .ok (.iconst 0, 1) := by decide +kernel
theorem dL_law_1326 : decode cL_law 1326 = .ok (.ireturn, 1) := by decide +kernel
theorem dL_law_1327 : decode cL_law 1327 = .ok (.aload_n 1, 1) := by decide +kernel
theorem dL_law_1328 : decode cL_law 1328 = .ok (.aload_n 0, 1) := by decide +kernel
theorem dL_law_1329 : decode cL_law 1329 = .ok (.iload 4, 2) := by decide +kernel
theorem dL_law_1331 : decode cL_law 1331 = .ok (.iconst 1, 1) := by decide +kernel
theorem dL_law_1332 : decode cL_law 1332 = .ok (.iadd, 1) := by decide +kernel
theorem dL_law_1333 : decode cL_law 1333 = .ok (.iaload, 1) := by decide +kernel
theorem dL_law_1334 : decode cL_law 1334 = .ok (.invokevirtual 170, 3) := by decide +kernel
theorem dL_law_1337 : decode cL_law 1337 = .ok (.aload_n 2, 1) := by decide +kernel
theorem dL_law_1338 : decode cL_law 1338 = .ok (.aload_n 0, 1) := by decide +kernel
theorem dL_law_1339 : decode cL_law 1339 = .ok (.iload 4, 2) := by decide +kernel
theorem dL_law_1341 : decode cL_law 1341 = .ok (.iconst 1, 1) := by decide +kernel
theorem dL_law_1342 : decode cL_law 1342 = .ok (.iadd, 1) := by decide +kernel
theorem dL_law_1343 : decode cL_law 1343 = .ok (.iaload, 1) := by decide +kernel
theorem dL_law_1344 : decode cL_law 1344 = .ok (.invokevirtual 173, 3) := by decide +kernel
theorem dL_law_1347 : decode cL_law 1347 = .ok (.if_icmp .eq 5, 3) := by decide +kernel
theorem dL_law_1350 : decode cL_law 1350 = .ok (.iconst 0, 1) := by decide +kernel
theorem dL_law_1351 : decode cL_law 1351 = .ok (.ireturn, 1) := by decide +kernel
theorem dL_law_1352 : decode cL_law 1352 = .ok (.iinc 4 6, 3) := by decide +kernel
theorem dL_law_1355 : decode cL_law 1355 = .ok (.goto (-1332), 3) := by decide +kernel
theorem dL_law_1358 : decode cL_law 1358 = .ok (.iconst 1, 1) := by decide +kernel
theorem dL_law_1359 : decode cL_law 1359 = .ok (.ireturn, 1) := by decide +kernel
