/-! The law: its code, 1 -/
theorem dw_0 : decode code 0 = .ok (.new 7, 3) := by decide +kernel
theorem dw_3 : decode code 3 = .ok (.dup, 1) := by decide +kernel
theorem dw_4 : decode code 4 = .ok (.invokespecial 9, 3) := by decide +kernel
theorem dw_7 : decode code 7 = .ok (.astore_n 1, 1) := by decide +kernel
theorem dw_8 : decode code 8 = .ok (.new 10, 3) := by decide +kernel
theorem dw_11 : decode code 11 = .ok (.dup, 1) := by decide +kernel
theorem dw_12 : decode code 12 = .ok (.invokespecial 12, 3) := by decide +kernel
theorem dw_15 : decode code 15 = .ok (.astore_n 2, 1) := by decide +kernel
theorem dw_16 : decode code 16 = .ok (.iconst 0, 1) := by decide +kernel
theorem dw_17 : decode code 17 = .ok (.istore_n 3, 1) := by decide +kernel
theorem dw_18 : decode code 18 = .ok (.iload_n 3, 1) := by decide +kernel
theorem dw_19 : decode code 19 = .ok (.aload_n 0, 1) := by decide +kernel
theorem dw_20 : decode code 20 = .ok (.arraylength, 1) := by decide +kernel
theorem dw_21 : decode code 21 = .ok (.iconst 5, 1) := by decide +kernel
theorem dw_22 : decode code 22 = .ok (.isub, 1) := by decide +kernel
theorem dw_23 : decode code 23 = .ok (.if_icmp .gt 715, 3) := by decide +kernel
theorem dw_26 : decode code 26 = .ok (.aload_n 0, 1) := by decide +kernel
theorem dw_27 : decode code 27 = .ok (.iload_n 3, 1) := by decide +kernel
theorem dw_28 : decode code 28 = .ok (.iaload, 1) := by decide +kernel
theorem dw_29 : decode code 29 = .ok (.bipush 31, 2) := by decide +kernel
theorem dw_31 : decode code 31 = .ok (.iand, 1) := by decide +kernel
theorem dw_32 : decode code 32 = .ok (.tableswitch 700 0 18 #[92, 115, 128, 141, 174, 207, 240, 273, 316, 369, 422, 455, 508, 551, 584, 627, 650, 663, 686], 92) := by decide +kernel
theorem dw_124 : decode code 124 = .ok (.aload_n 1, 1) := by decide +kernel
theorem dw_125 : decode code 125 = .ok (.aload_n 0, 1) := by decide +kernel
theorem dw_126 : decode code 126 = .ok (.iload_n 3, 1) := by decide +kernel
theorem dw_127 : decode code 127 = .ok (.iconst 1, 1) := by decide +kernel
theorem dw_128 : decode code 128 = .ok (.iadd, 1) := by decide +kernel
theorem dw_129 : decode code 129 = .ok (.iaload, 1) := by decide +kernel
theorem dw_130 : decode code 130 = .ok (.invokevirtual 13, 3) := by decide +kernel
theorem dw_133 : decode code 133 = .ok (.aload_n 2, 1) := by decide +kernel
theorem dw_134 : decode code 134 = .ok (.aload_n 0, 1) := by decide +kernel
theorem dw_135 : decode code 135 = .ok (.iload_n 3, 1) := by decide +kernel
theorem dw_136 : decode code 136 = .ok (.iconst 1, 1) := by decide +kernel
theorem dw_137 : decode code 137 = .ok (.iadd, 1) := by decide +kernel
theorem dw_138 : decode code 138 = .ok (.iaload, 1) := by decide +kernel
theorem dw_139 : decode code 139 = .ok (.invokevirtual 17, 3) := by decide +kernel
theorem dw_142 : decode code 142 = .ok (.if_icmp .eq 590, 3) := by decide +kernel
theorem dw_145 : decode code 145 = .ok (.iconst 0, 1) := by decide +kernel
theorem dw_146 : decode code 146 = .ok (.ireturn, 1) := by decide +kernel
theorem dw_147 : decode code 147 = .ok (.aload_n 1, 1) := by decide +kernel
theorem dw_148 : decode code 148 = .ok (.invokevirtual 18, 3) := by decide +kernel
theorem dw_151 : decode code 151 = .ok (.aload_n 2, 1) := by decide +kernel
theorem dw_152 : decode code 152 = .ok (.invokevirtual 22, 3) := by decide +kernel
theorem dw_155 : decode code 155 = .ok (.if_icmp .eq 577, 3) := by decide +kernel
theorem dw_158 : decode code 158 = .ok (.iconst 0, 1) := by decide +kernel
theorem dw_159 : decode code 159 = .ok (.ireturn, 1) := by decide +kernel
theorem dw_160 : decode code 160 = .ok (.aload_n 1, 1) := by decide +kernel
theorem dw_161 : decode code 161 = .ok (.invokevirtual 23, 3) := by decide +kernel
theorem dw_164 : decode code 164 = .ok (.aload_n 2, 1) := by decide +kernel
theorem dw_165 : decode code 165 = .ok (.invokevirtual 26, 3) := by decide +kernel
theorem dw_168 : decode code 168 = .ok (.if_icmp .eq 564, 3) := by decide +kernel
theorem dw_171 : decode code 171 = .ok (.iconst 0, 1) := by decide +kernel
theorem dw_172 : decode code 172 = .ok (.ireturn, 1) := by decide +kernel
theorem dw_173 : decode code 173 = .ok (.aload_n 1, 1) := by decide +kernel
theorem dw_174 : decode code 174 = .ok (.aload_n 0, 1) := by decide +kernel
theorem dw_175 : decode code 175 = .ok (.iload_n 3, 1) := by decide +kernel
theorem dw_176 : decode code 176 = .ok (.iconst 1, 1) := by decide +kernel
theorem dw_177 : decode code 177 = .ok (.iadd, 1) := by decide +kernel
theorem dw_178 : decode code 178 = .ok (.iaload, 1) := by decide +kernel
theorem dw_179 : decode code 179 = .ok (.aload_n 0, 1) := by decide +kernel
theorem dw_180 : decode code 180 = .ok (.iload_n 3, 1) := by decide +kernel
theorem dw_181 : decode code 181 = .ok (.iconst 2, 1) := by decide +kernel
theorem dw_182 : decode code 182 = .ok (.iadd, 1) := by decide +kernel
theorem dw_183 : decode code 183 = .ok (.iaload, 1) := by decide +kernel
theorem dw_184 : decode code 184 = .ok (.invokevirtual 27, 3) := by decide +kernel
theorem dw_187 : decode code 187 = .ok (.aload_n 2, 1) := by decide +kernel
theorem dw_188 : decode code 188 = .ok (.aload_n 0, 1) := by decide +kernel
theorem dw_189 : decode code 189 = .ok (.iload_n 3, 1) := by decide +kernel
theorem dw_190 : decode code 190 = .ok (.iconst 1, 1) := by decide +kernel
theorem dw_191 : decode code 191 = .ok (.iadd, 1) := by decide +kernel
theorem dw_192 : decode code 192 = .ok (.iaload, 1) := by decide +kernel
theorem dw_193 : decode code 193 = .ok (.aload_n 0, 1) := by decide +kernel
theorem dw_194 : decode code 194 = .ok (.iload_n 3, 1) := by decide +kernel
theorem dw_195 : decode code 195 = .ok (.iconst 2, 1) := by decide +kernel
theorem dw_196 : decode code 196 = .ok (.iadd, 1) := by decide +kernel
theorem dw_197 : decode code 197 = .ok (.iaload, 1) := by decide +kernel
theorem dw_198 : decode code 198 = .ok (.invokevirtual 31, 3) := by decide +kernel
theorem dw_201 : decode code 201 = .ok (.if_icmp .eq 531, 3) := by decide +kernel
theorem dw_204 : decode code 204 = .ok (.iconst 0, 1) := by decide +kernel
theorem dw_205 : decode code 205 = .ok (.ireturn, 1) := by decide +kernel
theorem dw_206 : decode code 206 = .ok (.aload_n 1, 1) := by decide +kernel
theorem dw_207 : decode code 207 = .ok (.aload_n 0, 1) := by decide +kernel
theorem dw_208 : decode code 208 = .ok (.iload_n 3, 1) := by decide +kernel
theorem dw_209 : decode code 209 = .ok (.iconst 1, 1) := by decide +kernel
theorem dw_210 : decode code 210 = .ok (.iadd, 1) := by decide +kernel
theorem dw_211 : decode code 211 = .ok (.iaload, 1) := by decide +kernel
theorem dw_212 : decode code 212 = .ok (.aload_n 0, 1) := by decide +kernel
theorem dw_213 : decode code 213 = .ok (.iload_n 3, 1) := by decide +kernel
theorem dw_214 : decode code 214 = .ok (.iconst 2, 1) := by decide +kernel
theorem dw_215 : decode code 215 = .ok (.iadd, 1) := by decide +kernel
theorem dw_216 : decode code 216 = .ok (.iaload, 1) := by decide +kernel
theorem dw_217 : decode code 217 = .ok (.invokevirtual 32, 3) := by decide +kernel
theorem dw_220 : decode code 220 = .ok (.aload_n 2, 1) := by decide +kernel
theorem dw_221 : decode code 221 = .ok (.aload_n 0, 1) := by decide +kernel
theorem dw_222 : decode code 222 = .ok (.iload_n 3, 1) := by decide +kernel
theorem dw_223 : decode code 223 = .ok (.iconst 1, 1) := by decide +kernel
theorem dw_224 : decode code 224 = .ok (.iadd, 1) := by decide +kernel
theorem dw_225 : decode code 225 = .ok (.iaload, 1) := by decide +kernel
theorem dw_226 : decode code 226 = .ok (.aload_n 0, 1) := by decide +kernel
theorem dw_227 : decode code 227 = .ok (.iload_n 3, 1) := by decide +kernel
theorem dw_228 : decode code 228 = .ok (.iconst 2, 1) := by decide +kernel
theorem dw_229 : decode code 229 = .ok (.iadd, 1) := by decide +kernel
theorem dw_230 : decode code 230 = .ok (.iaload, 1) := by decide +kernel
theorem dw_231 : decode code 231 = .ok (.invokevirtual 35, 3) := by decide +kernel
theorem dw_234 : decode code 234 = .ok (.if_icmp .eq 498, 3) := by decide +kernel
theorem dw_237 : decode code 237 = .ok (.iconst 0, 1) := by decide +kernel
theorem dw_238 : decode code 238 = .ok (.ireturn, 1) := by decide +kernel
theorem dw_239 : decode code 239 = .ok (.aload_n 1, 1) := by decide +kernel
theorem dw_240 : decode code 240 = .ok (.aload_n 0, 1) := by decide +kernel
theorem dw_241 : decode code 241 = .ok (.iload_n 3, 1) := by decide +kernel
theorem dw_242 : decode code 242 = .ok (.iconst 1, 1) := by decide +kernel
theorem dw_243 : decode code 243 = .ok (.iadd, 1) := by decide +kernel
theorem dw_244 : decode code 244 = .ok (.iaload, 1) := by decide +kernel
theorem dw_245 : decode code 245 = .ok (.aload_n 0, 1) := by decide +kernel
theorem dw_246 : decode code 246 = .ok (.iload_n 3, 1) := by decide +kernel
theorem dw_247 : decode code 247 = .ok (.iconst 2, 1) := by decide +kernel
theorem dw_248 : decode code 248 = .ok (.iadd, 1) := by decide +kernel
theorem dw_249 : decode code 249 = .ok (.iaload, 1) := by decide +kernel
theorem dw_250 : decode code 250 = .ok (.invokevirtual 36, 3) := by decide +kernel
theorem dw_253 : decode code 253 = .ok (.aload_n 2, 1) := by decide +kernel
theorem dw_254 : decode code 254 = .ok (.aload_n 0, 1) := by decide +kernel
theorem dw_255 : decode code 255 = .ok (.iload_n 3, 1) := by decide +kernel
theorem dw_256 : decode code 256 = .ok (.iconst 1, 1) := by decide +kernel
theorem dw_257 : decode code 257 = .ok (.iadd, 1) := by decide +kernel
theorem dw_258 : decode code 258 = .ok (.iaload, 1) := by decide +kernel
theorem dw_259 : decode code 259 = .ok (.aload_n 0, 1) := by decide +kernel
theorem dw_260 : decode code 260 = .ok (.iload_n 3, 1) := by decide +kernel
theorem dw_261 : decode code 261 = .ok (.iconst 2, 1) := by decide +kernel
theorem dw_262 : decode code 262 = .ok (.iadd, 1) := by decide +kernel
theorem dw_263 : decode code 263 = .ok (.iaload, 1) := by decide +kernel
theorem dw_264 : decode code 264 = .ok (.invokevirtual 39, 3) := by decide +kernel
theorem dw_267 : decode code 267 = .ok (.if_icmp .eq 465, 3) := by decide +kernel
theorem dw_270 : decode code 270 = .ok (.iconst 0, 1) := by decide +kernel
theorem dw_271 : decode code 271 = .ok (.ireturn, 1) := by decide +kernel
theorem dw_272 : decode code 272 = .ok (.aload_n 1, 1) := by decide +kernel
theorem dw_273 : decode code 273 = .ok (.aload_n 0, 1) := by decide +kernel
theorem dw_274 : decode code 274 = .ok (.iload_n 3, 1) := by decide +kernel
theorem dw_275 : decode code 275 = .ok (.iconst 1, 1) := by decide +kernel
theorem dw_276 : decode code 276 = .ok (.iadd, 1) := by decide +kernel
theorem dw_277 : decode code 277 = .ok (.iaload, 1) := by decide +kernel
theorem dw_278 : decode code 278 = .ok (.aload_n 0, 1) := by decide +kernel
theorem dw_279 : decode code 279 = .ok (.iload_n 3, 1) := by decide +kernel
theorem dw_280 : decode code 280 = .ok (.iconst 2, 1) := by decide +kernel
theorem dw_281 : decode code 281 = .ok (.iadd, 1) := by decide +kernel
theorem dw_282 : decode code 282 = .ok (.iaload, 1) := by decide +kernel
theorem dw_283 : decode code 283 = .ok (.invokevirtual 40, 3) := by decide +kernel
theorem dw_286 : decode code 286 = .ok (.aload_n 2, 1) := by decide +kernel
theorem dw_287 : decode code 287 = .ok (.aload_n 0, 1) := by decide +kernel
theorem dw_288 : decode code 288 = .ok (.iload_n 3, 1) := by decide +kernel
theorem dw_289 : decode code 289 = .ok (.iconst 1, 1) := by decide +kernel
theorem dw_290 : decode code 290 = .ok (.iadd, 1) := by decide +kernel
theorem dw_291 : decode code 291 = .ok (.iaload, 1) := by decide +kernel
theorem dw_292 : decode code 292 = .ok (.aload_n 0, 1) := by decide +kernel
theorem dw_293 : decode code 293 = .ok (.iload_n 3, 1) := by decide +kernel
theorem dw_294 : decode code 294 = .ok (.iconst 2, 1) := by decide +kernel
theorem dw_295 : decode code 295 = .ok (.iadd, 1) := by decide +kernel
theorem dw_296 : decode code 296 = .ok (.iaload, 1) := by decide +kernel
theorem dw_297 : decode code 297 = .ok (.invokevirtual 43, 3) := by decide +kernel
theorem dw_300 : decode code 300 = .ok (.if_icmp .eq 432, 3) := by decide +kernel
theorem dw_303 : decode code 303 = .ok (.iconst 0, 1) := by decide +kernel
theorem dw_304 : decode code 304 = .ok (.ireturn, 1) := by decide +kernel
theorem dw_305 : decode code 305 = .ok (.aload_n 1, 1) := by decide +kernel
theorem dw_306 : decode code 306 = .ok (.aload_n 0, 1) := by decide +kernel
theorem dw_307 : decode code 307 = .ok (.iload_n 3, 1) := by decide +kernel
theorem dw_308 : decode code 308 = .ok (.iconst 1, 1) := by decide +kernel
theorem dw_309 : decode code 309 = .ok (.iadd, 1) := by decide +kernel
theorem dw_310 : decode code 310 = .ok (.iaload, 1) := by decide +kernel
theorem dw_311 : decode code 311 = .ok (.aload_n 0, 1) := by decide +kernel
theorem dw_312 : decode code 312 = .ok (.iload_n 3, 1) := by decide +kernel
theorem dw_313 : decode code 313 = .ok (.iconst 2, 1) := by decide +kernel
theorem dw_314 : decode code 314 = .ok (.iadd, 1) := by decide +kernel
theorem dw_315 : decode code 315 = .ok (.iaload, 1) := by decide +kernel
theorem dw_316 : decode code 316 = .ok (.aload_n 0, 1) := by decide +kernel
theorem dw_317 : decode code 317 = .ok (.iload_n 3, 1) := by decide +kernel
