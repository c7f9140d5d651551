/-! What stands at a pc: method 0 to 75. By program (gen/at.py). -/
theorem z0_0 : za_n 0 0 0 6 3 := ⟨8, .null, ⟨rfl, rfl, rfl⟩, rfl⟩
theorem z0_3 : za 0 3 (.dup) 4 := ⟨rfl, rfl, rfl⟩
theorem z0_4 : za_i 0 4 8 0 7 := ⟨42, .null, ⟨rfl, rfl, rfl⟩, rfl⟩
theorem z0_7 : za 0 7 (.astore_n 1) 8 := ⟨rfl, rfl, rfl⟩
theorem z0_8 : za_n 0 8 5 29 11 := ⟨43, .null, ⟨rfl, rfl, rfl⟩, rfl⟩
theorem z0_11 : za 0 11 (.dup) 12 := ⟨rfl, rfl, rfl⟩
theorem z0_12 : za_i 0 12 76 0 15 := ⟨45, .null, ⟨rfl, rfl, rfl⟩, rfl⟩
theorem z0_15 : za 0 15 (.astore_n 2) 16 := ⟨rfl, rfl, rfl⟩
theorem z0_16 : za 0 16 (.iconst 1) 17 := ⟨rfl, rfl, rfl⟩
theorem z0_17 : za 0 17 (.newarray .long) 19 := ⟨rfl, rfl, rfl⟩
theorem z0_19 : za 0 19 (.astore_n 3) 20 := ⟨rfl, rfl, rfl⟩
theorem z0_20 : za 0 20 (.iconst 0) 21 := ⟨rfl, rfl, rfl⟩
theorem z0_21 : za 0 21 (.istore 4) 23 := ⟨rfl, rfl, rfl⟩
theorem z0_23 : za 0 23 (.iload 4) 25 := ⟨rfl, rfl, rfl⟩
theorem z0_25 : za 0 25 (.aload_n 0) 26 := ⟨rfl, rfl, rfl⟩
theorem z0_26 : za 0 26 (.arraylength) 27 := ⟨rfl, rfl, rfl⟩
theorem z0_27 : za 0 27 (.iconst 5) 28 := ⟨rfl, rfl, rfl⟩
theorem z0_28 : za 0 28 (.isub) 29 := ⟨rfl, rfl, rfl⟩
theorem z0_29 : zb (.if_icmp .gt) 0 29 769 32 := ⟨740, ⟨rfl, rfl, rfl⟩, rfl⟩
theorem z0_32 : za 0 32 (.aload_n 0) 33 := ⟨rfl, rfl, rfl⟩
theorem z0_33 : za 0 33 (.iload 4) 35 := ⟨rfl, rfl, rfl⟩
theorem z0_35 : za 0 35 (.iaload) 36 := ⟨rfl, rfl, rfl⟩
theorem z0_36 : za 0 36 (.bipush (15)) 38 := ⟨rfl, rfl, rfl⟩
theorem z0_38 : za 0 38 (.iand) 39 := ⟨rfl, rfl, rfl⟩
theorem z0_39 : za 0 39 (.tableswitch (724) (0) (15) #[(77), (138), (175), (211), (222), (290), (370), (442), (486), (530), (543), (580), (605), (642), (698), (711)]) 39 := ⟨rfl, rfl, rfl⟩
theorem z0_116 : za 0 116 (.aload_n 1) 117 := ⟨rfl, rfl, rfl⟩
theorem z0_117 : za 0 117 (.aload_n 0) 118 := ⟨rfl, rfl, rfl⟩
theorem z0_118 : za 0 118 (.iload 4) 120 := ⟨rfl, rfl, rfl⟩
theorem z0_120 : za 0 120 (.iconst 1) 121 := ⟨rfl, rfl, rfl⟩
theorem z0_121 : za 0 121 (.iadd) 122 := ⟨rfl, rfl, rfl⟩
theorem z0_122 : za 0 122 (.iaload) 123 := ⟨rfl, rfl, rfl⟩
theorem z0_123 : za 0 123 (.aload_n 0) 124 := ⟨rfl, rfl, rfl⟩
theorem z0_124 : za 0 124 (.iload 4) 126 := ⟨rfl, rfl, rfl⟩
theorem z0_126 : za 0 126 (.iconst 2) 127 := ⟨rfl, rfl, rfl⟩
theorem z0_127 : za 0 127 (.iadd) 128 := ⟨rfl, rfl, rfl⟩
theorem z0_128 : za 0 128 (.iaload) 129 := ⟨rfl, rfl, rfl⟩
theorem z0_129 : za 0 129 (.aload_n 0) 130 := ⟨rfl, rfl, rfl⟩
theorem z0_130 : za 0 130 (.iload 4) 132 := ⟨rfl, rfl, rfl⟩
theorem z0_132 : za 0 132 (.iconst 3) 133 := ⟨rfl, rfl, rfl⟩
theorem z0_133 : za 0 133 (.iadd) 134 := ⟨rfl, rfl, rfl⟩
theorem z0_134 : za 0 134 (.iaload) 135 := ⟨rfl, rfl, rfl⟩
theorem z0_135 : za 0 135 (.aload_n 0) 136 := ⟨rfl, rfl, rfl⟩
theorem z0_136 : za 0 136 (.iload 4) 138 := ⟨rfl, rfl, rfl⟩
theorem z0_138 : za 0 138 (.iconst 4) 139 := ⟨rfl, rfl, rfl⟩
theorem z0_139 : za 0 139 (.iadd) 140 := ⟨rfl, rfl, rfl⟩
theorem z0_140 : za 0 140 (.iaload) 141 := ⟨rfl, rfl, rfl⟩
theorem z0_141 : za_v 0 141 9 4 0 144 := ⟨46, ⟨rfl, rfl, rfl⟩, rfl⟩
theorem z0_144 : za 0 144 (.aload_n 2) 145 := ⟨rfl, rfl, rfl⟩
theorem z0_145 : za 0 145 (.aload_n 0) 146 := ⟨rfl, rfl, rfl⟩
theorem z0_146 : za 0 146 (.iload 4) 148 := ⟨rfl, rfl, rfl⟩
theorem z0_148 : za 0 148 (.iconst 1) 149 := ⟨rfl, rfl, rfl⟩
theorem z0_149 : za 0 149 (.iadd) 150 := ⟨rfl, rfl, rfl⟩
theorem z0_150 : za 0 150 (.iaload) 151 := ⟨rfl, rfl, rfl⟩
theorem z0_151 : za 0 151 (.aload_n 0) 152 := ⟨rfl, rfl, rfl⟩
theorem z0_152 : za 0 152 (.iload 4) 154 := ⟨rfl, rfl, rfl⟩
theorem z0_154 : za 0 154 (.iconst 2) 155 := ⟨rfl, rfl, rfl⟩
theorem z0_155 : za 0 155 (.iadd) 156 := ⟨rfl, rfl, rfl⟩
theorem z0_156 : za 0 156 (.iaload) 157 := ⟨rfl, rfl, rfl⟩
theorem z0_157 : za 0 157 (.aload_n 0) 158 := ⟨rfl, rfl, rfl⟩
theorem z0_158 : za 0 158 (.iload 4) 160 := ⟨rfl, rfl, rfl⟩
theorem z0_160 : za 0 160 (.iconst 3) 161 := ⟨rfl, rfl, rfl⟩
theorem z0_161 : za 0 161 (.iadd) 162 := ⟨rfl, rfl, rfl⟩
theorem z0_162 : za 0 162 (.iaload) 163 := ⟨rfl, rfl, rfl⟩
theorem z0_163 : za 0 163 (.aload_n 0) 164 := ⟨rfl, rfl, rfl⟩
theorem z0_164 : za 0 164 (.iload 4) 166 := ⟨rfl, rfl, rfl⟩
theorem z0_166 : za 0 166 (.iconst 4) 167 := ⟨rfl, rfl, rfl⟩
theorem z0_167 : za 0 167 (.iadd) 168 := ⟨rfl, rfl, rfl⟩
theorem z0_168 : za 0 168 (.iaload) 169 := ⟨rfl, rfl, rfl⟩
theorem z0_169 : za_v 0 169 87 4 5 172 := ⟨50, ⟨rfl, rfl, rfl⟩, rfl⟩
theorem z0_172 : zb (.if_icmp .eq) 0 172 763 175 := ⟨591, ⟨rfl, rfl, rfl⟩, rfl⟩
theorem z0_175 : za 0 175 (.iconst 0) 176 := ⟨rfl, rfl, rfl⟩
theorem z0_176 : za 0 176 (.ireturn) 177 := ⟨rfl, rfl, rfl⟩
theorem z0_177 : za 0 177 (.aload_n 1) 178 := ⟨rfl, rfl, rfl⟩
theorem z0_178 : za 0 178 (.aload_n 0) 179 := ⟨rfl, rfl, rfl⟩
theorem z0_179 : za 0 179 (.iload 4) 181 := ⟨rfl, rfl, rfl⟩
theorem z0_181 : za 0 181 (.iconst 1) 182 := ⟨rfl, rfl, rfl⟩
theorem z0_182 : za 0 182 (.iadd) 183 := ⟨rfl, rfl, rfl⟩
theorem z0_183 : za 0 183 (.iaload) 184 := ⟨rfl, rfl, rfl⟩
theorem z0_184 : za 0 184 (.aload_n 0) 185 := ⟨rfl, rfl, rfl⟩
theorem z0_185 : za 0 185 (.iload 4) 187 := ⟨rfl, rfl, rfl⟩
theorem z0_187 : za 0 187 (.iconst 2) 188 := ⟨rfl, rfl, rfl⟩
theorem z0_188 : za 0 188 (.iadd) 189 := ⟨rfl, rfl, rfl⟩
theorem z0_189 : za 0 189 (.iaload) 190 := ⟨rfl, rfl, rfl⟩
theorem z0_190 : za_v 0 190 10 2 0 193 := ⟨51, ⟨rfl, rfl, rfl⟩, rfl⟩
theorem z0_193 : za 0 193 (.aload_n 2) 194 := ⟨rfl, rfl, rfl⟩
theorem z0_194 : za 0 194 (.aload_n 0) 195 := ⟨rfl, rfl, rfl⟩
theorem z0_195 : za 0 195 (.iload 4) 197 := ⟨rfl, rfl, rfl⟩
theorem z0_197 : za 0 197 (.iconst 1) 198 := ⟨rfl, rfl, rfl⟩
theorem z0_198 : za 0 198 (.iadd) 199 := ⟨rfl, rfl, rfl⟩
theorem z0_199 : za 0 199 (.iaload) 200 := ⟨rfl, rfl, rfl⟩
theorem z0_200 : za 0 200 (.aload_n 0) 201 := ⟨rfl, rfl, rfl⟩
set_option maxRecDepth 20000 in
theorem z0_201 : za 0 201 (.iload 4) 203 := ⟨rfl, rfl, rfl⟩
set_option maxRecDepth 20000 in
theorem z0_203 : za 0 203 (.iconst 2) 204 := ⟨rfl, rfl, rfl⟩
set_option maxRecDepth 20000 in
theorem z0_204 : za 0 204 (.iadd) 205 := ⟨rfl, rfl, rfl⟩
set_option maxRecDepth 20000 in
theorem z0_205 : za 0 205 (.iaload) 206 := ⟨rfl, rfl, rfl⟩
set_option maxRecDepth 20000 in
theorem z0_206 : za_v 0 206 88 2 5 209 := ⟨55, ⟨rfl, rfl, rfl⟩, rfl⟩
set_option maxRecDepth 20000 in
theorem z0_209 : zb (.if_icmp .eq) 0 209 763 212 := ⟨554, ⟨rfl, rfl, rfl⟩, rfl⟩
set_option maxRecDepth 20000 in
theorem z0_212 : za 0 212 (.iconst 0) 213 := ⟨rfl, rfl, rfl⟩
set_option maxRecDepth 20000 in
theorem z0_213 : za 0 213 (.ireturn) 214 := ⟨rfl, rfl, rfl⟩
set_option maxRecDepth 20000 in
theorem z0_214 : za 0 214 (.aload_n 1) 215 := ⟨rfl, rfl, rfl⟩
set_option maxRecDepth 20000 in
theorem z0_215 : za 0 215 (.aload_n 0) 216 := ⟨rfl, rfl, rfl⟩
set_option maxRecDepth 20000 in
theorem z0_216 : za 0 216 (.iload 4) 218 := ⟨rfl, rfl, rfl⟩
set_option maxRecDepth 20000 in
theorem z0_218 : za 0 218 (.iconst 1) 219 := ⟨rfl, rfl, rfl⟩
set_option maxRecDepth 20000 in
theorem z0_219 : za 0 219 (.iadd) 220 := ⟨rfl, rfl, rfl⟩
set_option maxRecDepth 20000 in
theorem z0_220 : za 0 220 (.iaload) 221 := ⟨rfl, rfl, rfl⟩
set_option maxRecDepth 20000 in
theorem z0_221 : za_s 0 221 1 2 224 := ⟨56, .null, ⟨rfl, rfl, rfl⟩, rfl⟩
set_option maxRecDepth 20000 in
theorem z0_224 : za 0 224 (.istore 5) 226 := ⟨rfl, rfl, rfl⟩
set_option maxRecDepth 20000 in
theorem z0_226 : za 0 226 (.aload_n 2) 227 := ⟨rfl, rfl, rfl⟩
set_option maxRecDepth 20000 in
theorem z0_227 : za 0 227 (.aload_n 0) 228 := ⟨rfl, rfl, rfl⟩
set_option maxRecDepth 20000 in
theorem z0_228 : za 0 228 (.iload 4) 230 := ⟨rfl, rfl, rfl⟩
set_option maxRecDepth 20000 in
theorem z0_230 : za 0 230 (.iconst 1) 231 := ⟨rfl, rfl, rfl⟩
set_option maxRecDepth 20000 in
theorem z0_231 : za 0 231 (.iadd) 232 := ⟨rfl, rfl, rfl⟩
set_option maxRecDepth 20000 in
theorem z0_232 : za 0 232 (.iaload) 233 := ⟨rfl, rfl, rfl⟩
set_option maxRecDepth 20000 in
theorem z0_233 : za_v 0 233 91 1 5 236 := ⟨61, ⟨rfl, rfl, rfl⟩, rfl⟩
set_option maxRecDepth 20000 in
theorem z0_236 : za 0 236 (.aload_n 2) 237 := ⟨rfl, rfl, rfl⟩
set_option maxRecDepth 20000 in
theorem z0_237 : za_v 0 237 77 0 5 240 := ⟨62, ⟨rfl, rfl, rfl⟩, rfl⟩
set_option maxRecDepth 20000 in
theorem z0_240 : za 0 240 (.iload 5) 242 := ⟨rfl, rfl, rfl⟩
set_option maxRecDepth 20000 in
theorem z0_242 : zb (.if_icmp .eq) 0 242 247 245 := ⟨5, ⟨rfl, rfl, rfl⟩, rfl⟩
set_option maxRecDepth 20000 in
theorem z0_245 : za 0 245 (.iconst 0) 246 := ⟨rfl, rfl, rfl⟩
set_option maxRecDepth 20000 in
theorem z0_246 : za 0 246 (.ireturn) 247 := ⟨rfl, rfl, rfl⟩
set_option maxRecDepth 20000 in
theorem z0_247 : zb (.goto) 0 247 763 250 := ⟨516, ⟨rfl, rfl, rfl⟩, rfl⟩
set_option maxRecDepth 20000 in
theorem z0_250 : za 0 250 (.aload_n 1) 251 := ⟨rfl, rfl, rfl⟩
set_option maxRecDepth 20000 in
theorem z0_251 : za_v 0 251 12 0 0 254 := ⟨65, ⟨rfl, rfl, rfl⟩, rfl⟩
set_option maxRecDepth 20000 in
theorem z0_254 : za 0 254 (.aload_n 2) 255 := ⟨rfl, rfl, rfl⟩
set_option maxRecDepth 20000 in
theorem z0_255 : za_v 0 255 89 0 5 258 := ⟨68, ⟨rfl, rfl, rfl⟩, rfl⟩
set_option maxRecDepth 20000 in
theorem z0_258 : zb (.goto) 0 258 763 261 := ⟨505, ⟨rfl, rfl, rfl⟩, rfl⟩
set_option maxRecDepth 20000 in
theorem z0_261 : za 0 261 (.aload_n 1) 262 := ⟨rfl, rfl, rfl⟩
set_option maxRecDepth 20000 in
theorem z0_262 : za 0 262 (.aload_n 0) 263 := ⟨rfl, rfl, rfl⟩
set_option maxRecDepth 20000 in
theorem z0_263 : za 0 263 (.iload 4) 265 := ⟨rfl, rfl, rfl⟩
set_option maxRecDepth 20000 in
theorem z0_265 : za 0 265 (.iconst 1) 266 := ⟨rfl, rfl, rfl⟩
set_option maxRecDepth 20000 in
theorem z0_266 : za 0 266 (.iadd) 267 := ⟨rfl, rfl, rfl⟩
set_option maxRecDepth 20000 in
theorem z0_267 : za 0 267 (.iaload) 268 := ⟨rfl, rfl, rfl⟩
set_option maxRecDepth 20000 in
theorem z0_268 : za 0 268 (.aload_n 0) 269 := ⟨rfl, rfl, rfl⟩
set_option maxRecDepth 20000 in
theorem z0_269 : za 0 269 (.iload 4) 271 := ⟨rfl, rfl, rfl⟩
set_option maxRecDepth 20000 in
theorem z0_271 : za 0 271 (.iconst 2) 272 := ⟨rfl, rfl, rfl⟩
set_option maxRecDepth 20000 in
theorem z0_272 : za 0 272 (.iadd) 273 := ⟨rfl, rfl, rfl⟩
set_option maxRecDepth 20000 in
theorem z0_273 : za 0 273 (.iaload) 274 := ⟨rfl, rfl, rfl⟩
set_option maxRecDepth 20000 in
theorem z0_274 : za 0 274 (.aload_n 3) 275 := ⟨rfl, rfl, rfl⟩
set_option maxRecDepth 20000 in
theorem z0_275 : za_s 0 275 2 4 278 := ⟨69, .null, ⟨rfl, rfl, rfl⟩, rfl⟩
set_option maxRecDepth 20000 in
theorem z0_278 : za 0 278 (.istore 5) 280 := ⟨rfl, rfl, rfl⟩
set_option maxRecDepth 20000 in
theorem z0_280 : za 0 280 (.aload_n 2) 281 := ⟨rfl, rfl, rfl⟩
set_option maxRecDepth 20000 in
theorem z0_281 : za 0 281 (.aload_n 0) 282 := ⟨rfl, rfl, rfl⟩
set_option maxRecDepth 20000 in
theorem z0_282 : za 0 282 (.iload 4) 284 := ⟨rfl, rfl, rfl⟩
set_option maxRecDepth 20000 in
theorem z0_284 : za 0 284 (.iconst 1) 285 := ⟨rfl, rfl, rfl⟩
set_option maxRecDepth 20000 in
theorem z0_285 : za 0 285 (.iadd) 286 := ⟨rfl, rfl, rfl⟩
set_option maxRecDepth 20000 in
theorem z0_286 : za 0 286 (.iaload) 287 := ⟨rfl, rfl, rfl⟩
set_option maxRecDepth 20000 in
theorem z0_287 : za 0 287 (.aload_n 0) 288 := ⟨rfl, rfl, rfl⟩
set_option maxRecDepth 20000 in
theorem z0_288 : za 0 288 (.iload 4) 290 := ⟨rfl, rfl, rfl⟩
set_option maxRecDepth 20000 in
theorem z0_290 : za 0 290 (.iconst 2) 291 := ⟨rfl, rfl, rfl⟩
set_option maxRecDepth 20000 in
theorem z0_291 : za 0 291 (.iadd) 292 := ⟨rfl, rfl, rfl⟩
set_option maxRecDepth 20000 in
theorem z0_292 : za 0 292 (.iaload) 293 := ⟨rfl, rfl, rfl⟩
set_option maxRecDepth 20000 in
theorem z0_293 : za_v 0 293 93 2 5 296 := ⟨72, ⟨rfl, rfl, rfl⟩, rfl⟩
set_option maxRecDepth 20000 in
theorem z0_296 : za 0 296 (.istore 6) 298 := ⟨rfl, rfl, rfl⟩
set_option maxRecDepth 20000 in
theorem z0_298 : za 0 298 (.aload_n 2) 299 := ⟨rfl, rfl, rfl⟩
set_option maxRecDepth 20000 in
theorem z0_299 : za_v 0 299 77 0 5 302 := ⟨62, ⟨rfl, rfl, rfl⟩, rfl⟩
set_option maxRecDepth 20000 in
theorem z0_302 : za 0 302 (.iload 5) 304 := ⟨rfl, rfl, rfl⟩
set_option maxRecDepth 20000 in
theorem z0_304 : zb (.if_icmp .eq) 0 304 309 307 := ⟨5, ⟨rfl, rfl, rfl⟩, rfl⟩
set_option maxRecDepth 20000 in
theorem z0_307 : za 0 307 (.iconst 0) 308 := ⟨rfl, rfl, rfl⟩
set_option maxRecDepth 20000 in
theorem z0_308 : za 0 308 (.ireturn) 309 := ⟨rfl, rfl, rfl⟩
set_option maxRecDepth 20000 in
theorem z0_309 : za 0 309 (.iload 5) 311 := ⟨rfl, rfl, rfl⟩
set_option maxRecDepth 20000 in
theorem z0_311 : zb (.ifCond .ne) 0 311 326 314 := ⟨15, ⟨rfl, rfl, rfl⟩, rfl⟩
set_option maxRecDepth 20000 in
theorem z0_314 : za 0 314 (.aload_n 3) 315 := ⟨rfl, rfl, rfl⟩
set_option maxRecDepth 20000 in
theorem z0_315 : za 0 315 (.iconst 0) 316 := ⟨rfl, rfl, rfl⟩
set_option maxRecDepth 20000 in
theorem z0_316 : za 0 316 (.laload) 317 := ⟨rfl, rfl, rfl⟩
set_option maxRecDepth 20000 in
theorem z0_317 : za 0 317 (.iload 6) 319 := ⟨rfl, rfl, rfl⟩
set_option maxRecDepth 20000 in
theorem z0_319 : za 0 319 (.i2l) 320 := ⟨rfl, rfl, rfl⟩
set_option maxRecDepth 20000 in
theorem z0_320 : za 0 320 (.lcmp) 321 := ⟨rfl, rfl, rfl⟩
set_option maxRecDepth 20000 in
theorem z0_321 : zb (.ifCond .eq) 0 321 326 324 := ⟨5, ⟨rfl, rfl, rfl⟩, rfl⟩
set_option maxRecDepth 20000 in
theorem z0_324 : za 0 324 (.iconst 0) 325 := ⟨rfl, rfl, rfl⟩
set_option maxRecDepth 20000 in
theorem z0_325 : za 0 325 (.ireturn) 326 := ⟨rfl, rfl, rfl⟩
set_option maxRecDepth 20000 in
theorem z0_326 : zb (.goto) 0 326 763 329 := ⟨437, ⟨rfl, rfl, rfl⟩, rfl⟩
set_option maxRecDepth 20000 in
theorem z0_329 : za 0 329 (.aload_n 1) 330 := ⟨rfl, rfl, rfl⟩
set_option maxRecDepth 20000 in
theorem z0_330 : za 0 330 (.aload_n 0) 331 := ⟨rfl, rfl, rfl⟩
set_option maxRecDepth 20000 in
theorem z0_331 : za 0 331 (.iload 4) 333 := ⟨rfl, rfl, rfl⟩
set_option maxRecDepth 20000 in
theorem z0_333 : za 0 333 (.iconst 1) 334 := ⟨rfl, rfl, rfl⟩
set_option maxRecDepth 20000 in
theorem z0_334 : za 0 334 (.iadd) 335 := ⟨rfl, rfl, rfl⟩
set_option maxRecDepth 20000 in
theorem z0_335 : za 0 335 (.iaload) 336 := ⟨rfl, rfl, rfl⟩
set_option maxRecDepth 20000 in
theorem z0_336 : za 0 336 (.aload_n 0) 337 := ⟨rfl, rfl, rfl⟩
set_option maxRecDepth 20000 in
theorem z0_337 : za 0 337 (.iload 4) 339 := ⟨rfl, rfl, rfl⟩
set_option maxRecDepth 20000 in
theorem z0_339 : za 0 339 (.iconst 2) 340 := ⟨rfl, rfl, rfl⟩
set_option maxRecDepth 20000 in
theorem z0_340 : za 0 340 (.iadd) 341 := ⟨rfl, rfl, rfl⟩
set_option maxRecDepth 20000 in
theorem z0_341 : za 0 341 (.iaload) 342 := ⟨rfl, rfl, rfl⟩
set_option maxRecDepth 20000 in
theorem z0_342 : za 0 342 (.aload_n 0) 343 := ⟨rfl, rfl, rfl⟩
set_option maxRecDepth 20000 in
theorem z0_343 : za 0 343 (.iload 4) 345 := ⟨rfl, rfl, rfl⟩
set_option maxRecDepth 20000 in
theorem z0_345 : za 0 345 (.iconst 3) 346 := ⟨rfl, rfl, rfl⟩
set_option maxRecDepth 20000 in
theorem z0_346 : za 0 346 (.iadd) 347 := ⟨rfl, rfl, rfl⟩
set_option maxRecDepth 20000 in
theorem z0_347 : za 0 347 (.iaload) 348 := ⟨rfl, rfl, rfl⟩
set_option maxRecDepth 20000 in
theorem z0_348 : za 0 348 (.aload_n 3) 349 := ⟨rfl, rfl, rfl⟩
set_option maxRecDepth 20000 in
theorem z0_349 : za_s 0 349 3 5 352 := ⟨73, .null, ⟨rfl, rfl, rfl⟩, rfl⟩
set_option maxRecDepth 20000 in
theorem z0_352 : za 0 352 (.istore 5) 354 := ⟨rfl, rfl, rfl⟩
set_option maxRecDepth 20000 in
theorem z0_354 : za 0 354 (.aload_n 2) 355 := ⟨rfl, rfl, rfl⟩
set_option maxRecDepth 20000 in
theorem z0_355 : za 0 355 (.aload_n 0) 356 := ⟨rfl, rfl, rfl⟩
set_option maxRecDepth 20000 in
theorem z0_356 : za 0 356 (.iload 4) 358 := ⟨rfl, rfl, rfl⟩
set_option maxRecDepth 20000 in
theorem z0_358 : za 0 358 (.iconst 1) 359 := ⟨rfl, rfl, rfl⟩
set_option maxRecDepth 20000 in
theorem z0_359 : za 0 359 (.iadd) 360 := ⟨rfl, rfl, rfl⟩
set_option maxRecDepth 20000 in
theorem z0_360 : za 0 360 (.iaload) 361 := ⟨rfl, rfl, rfl⟩
set_option maxRecDepth 20000 in
theorem z0_361 : za 0 361 (.aload_n 0) 362 := ⟨rfl, rfl, rfl⟩
set_option maxRecDepth 20000 in
theorem z0_362 : za 0 362 (.iload 4) 364 := ⟨rfl, rfl, rfl⟩
set_option maxRecDepth 20000 in
theorem z0_364 : za 0 364 (.iconst 2) 365 := ⟨rfl, rfl, rfl⟩
set_option maxRecDepth 20000 in
theorem z0_365 : za 0 365 (.iadd) 366 := ⟨rfl, rfl, rfl⟩
set_option maxRecDepth 20000 in
theorem z0_366 : za 0 366 (.iaload) 367 := ⟨rfl, rfl, rfl⟩
set_option maxRecDepth 20000 in
theorem z0_367 : za 0 367 (.aload_n 0) 368 := ⟨rfl, rfl, rfl⟩
set_option maxRecDepth 20000 in
theorem z0_368 : za 0 368 (.iload 4) 370 := ⟨rfl, rfl, rfl⟩
set_option maxRecDepth 20000 in
theorem z0_370 : za 0 370 (.iconst 3) 371 := ⟨rfl, rfl, rfl⟩
set_option maxRecDepth 20000 in
theorem z0_371 : za 0 371 (.iadd) 372 := ⟨rfl, rfl, rfl⟩
set_option maxRecDepth 20000 in
theorem z0_372 : za 0 372 (.iaload) 373 := ⟨rfl, rfl, rfl⟩
set_option maxRecDepth 20000 in
theorem z0_373 : za_v 0 373 107 3 5 376 := ⟨76, ⟨rfl, rfl, rfl⟩, rfl⟩
set_option maxRecDepth 20000 in
theorem z0_376 : za 0 376 (.istore 6) 378 := ⟨rfl, rfl, rfl⟩
set_option maxRecDepth 20000 in
theorem z0_378 : za 0 378 (.aload_n 2) 379 := ⟨rfl, rfl, rfl⟩
set_option maxRecDepth 20000 in
theorem z0_379 : za_v 0 379 77 0 5 382 := ⟨62, ⟨rfl, rfl, rfl⟩, rfl⟩
set_option maxRecDepth 20000 in
theorem z0_382 : za 0 382 (.iload 5) 384 := ⟨rfl, rfl, rfl⟩
set_option maxRecDepth 20000 in
theorem z0_384 : zb (.if_icmp .eq) 0 384 389 387 := ⟨5, ⟨rfl, rfl, rfl⟩, rfl⟩
set_option maxRecDepth 20000 in
theorem z0_387 : za 0 387 (.iconst 0) 388 := ⟨rfl, rfl, rfl⟩
set_option maxRecDepth 20000 in
theorem z0_388 : za 0 388 (.ireturn) 389 := ⟨rfl, rfl, rfl⟩
set_option maxRecDepth 20000 in
theorem z0_389 : za 0 389 (.iload 5) 391 := ⟨rfl, rfl, rfl⟩
set_option maxRecDepth 20000 in
theorem z0_391 : zb (.ifCond .ne) 0 391 406 394 := ⟨15, ⟨rfl, rfl, rfl⟩, rfl⟩
set_option maxRecDepth 20000 in
theorem z0_394 : za 0 394 (.aload_n 3) 395 := ⟨rfl, rfl, rfl⟩
set_option maxRecDepth 20000 in
theorem z0_395 : za 0 395 (.iconst 0) 396 := ⟨rfl, rfl, rfl⟩
set_option maxRecDepth 20000 in
theorem z0_396 : za 0 396 (.laload) 397 := ⟨rfl, rfl, rfl⟩
set_option maxRecDepth 20000 in
theorem z0_397 : za 0 397 (.iload 6) 399 := ⟨rfl, rfl, rfl⟩
set_option maxRecDepth 20000 in
theorem z0_399 : za 0 399 (.i2l) 400 := ⟨rfl, rfl, rfl⟩
set_option maxRecDepth 20000 in
theorem z0_400 : za 0 400 (.lcmp) 401 := ⟨rfl, rfl, rfl⟩
set_option maxRecDepth 20000 in
theorem z0_401 : zb (.ifCond .eq) 0 401 406 404 := ⟨5, ⟨rfl, rfl, rfl⟩, rfl⟩
set_option maxRecDepth 20000 in
theorem z0_404 : za 0 404 (.iconst 0) 405 := ⟨rfl, rfl, rfl⟩
set_option maxRecDepth 20000 in
theorem z0_405 : za 0 405 (.ireturn) 406 := ⟨rfl, rfl, rfl⟩
set_option maxRecDepth 20000 in
theorem z0_406 : zb (.goto) 0 406 763 409 := ⟨357, ⟨rfl, rfl, rfl⟩, rfl⟩
set_option maxRecDepth 20000 in
theorem z0_409 : za 0 409 (.aload_n 1) 410 := ⟨rfl, rfl, rfl⟩
set_option maxRecDepth 20000 in
theorem z0_410 : za 0 410 (.aload_n 0) 411 := ⟨rfl, rfl, rfl⟩
set_option maxRecDepth 20000 in
theorem z0_411 : za 0 411 (.iload 4) 413 := ⟨rfl, rfl, rfl⟩
set_option maxRecDepth 20000 in
theorem z0_413 : za 0 413 (.iconst 1) 414 := ⟨rfl, rfl, rfl⟩
set_option maxRecDepth 20000 in
theorem z0_414 : za 0 414 (.iadd) 415 := ⟨rfl, rfl, rfl⟩
set_option maxRecDepth 20000 in
theorem z0_415 : za 0 415 (.iaload) 416 := ⟨rfl, rfl, rfl⟩
set_option maxRecDepth 20000 in
theorem z0_416 : za 0 416 (.i2c) 417 := ⟨rfl, rfl, rfl⟩
set_option maxRecDepth 20000 in
theorem z0_417 : za 0 417 (.aload_n 0) 418 := ⟨rfl, rfl, rfl⟩
set_option maxRecDepth 20000 in
theorem z0_418 : za 0 418 (.iload 4) 420 := ⟨rfl, rfl, rfl⟩
set_option maxRecDepth 20000 in
theorem z0_420 : za 0 420 (.iconst 2) 421 := ⟨rfl, rfl, rfl⟩
set_option maxRecDepth 20000 in
theorem z0_421 : za 0 421 (.iadd) 422 := ⟨rfl, rfl, rfl⟩
set_option maxRecDepth 20000 in
theorem z0_422 : za 0 422 (.iaload) 423 := ⟨rfl, rfl, rfl⟩
set_option maxRecDepth 20000 in
theorem z0_423 : za 0 423 (.i2c) 424 := ⟨rfl, rfl, rfl⟩
set_option maxRecDepth 20000 in
theorem z0_424 : za 0 424 (.aload_n 3) 425 := ⟨rfl, rfl, rfl⟩
set_option maxRecDepth 20000 in
theorem z0_425 : za_s 0 425 4 4 428 := ⟨77, .null, ⟨rfl, rfl, rfl⟩, rfl⟩
set_option maxRecDepth 20000 in
theorem z0_428 : za 0 428 (.istore 5) 430 := ⟨rfl, rfl, rfl⟩
set_option maxRecDepth 20000 in
theorem z0_430 : za 0 430 (.aload_n 2) 431 := ⟨rfl, rfl, rfl⟩
set_option maxRecDepth 20000 in
theorem z0_431 : za 0 431 (.aload_n 0) 432 := ⟨rfl, rfl, rfl⟩
set_option maxRecDepth 20000 in
theorem z0_432 : za 0 432 (.iload 4) 434 := ⟨rfl, rfl, rfl⟩
set_option maxRecDepth 20000 in
theorem z0_434 : za 0 434 (.iconst 1) 435 := ⟨rfl, rfl, rfl⟩
set_option maxRecDepth 20000 in
theorem z0_435 : za 0 435 (.iadd) 436 := ⟨rfl, rfl, rfl⟩
set_option maxRecDepth 20000 in
theorem z0_436 : za 0 436 (.iaload) 437 := ⟨rfl, rfl, rfl⟩
set_option maxRecDepth 20000 in
theorem z0_437 : za 0 437 (.i2c) 438 := ⟨rfl, rfl, rfl⟩
set_option maxRecDepth 20000 in
theorem z0_438 : za 0 438 (.aload_n 0) 439 := ⟨rfl, rfl, rfl⟩
set_option maxRecDepth 20000 in
theorem z0_439 : za 0 439 (.iload 4) 441 := ⟨rfl, rfl, rfl⟩
set_option maxRecDepth 20000 in
theorem z0_441 : za 0 441 (.iconst 2) 442 := ⟨rfl, rfl, rfl⟩
set_option maxRecDepth 20000 in
theorem z0_442 : za 0 442 (.iadd) 443 := ⟨rfl, rfl, rfl⟩
set_option maxRecDepth 20000 in
theorem z0_443 : za 0 443 (.iaload) 444 := ⟨rfl, rfl, rfl⟩
set_option maxRecDepth 20000 in
theorem z0_444 : za 0 444 (.i2c) 445 := ⟨rfl, rfl, rfl⟩
set_option maxRecDepth 20000 in
theorem z0_445 : za_v 0 445 110 2 5 448 := ⟨80, ⟨rfl, rfl, rfl⟩, rfl⟩
set_option maxRecDepth 20000 in
theorem z0_448 : za 0 448 (.istore 6) 450 := ⟨rfl, rfl, rfl⟩
set_option maxRecDepth 20000 in
theorem z0_450 : za 0 450 (.aload_n 2) 451 := ⟨rfl, rfl, rfl⟩
set_option maxRecDepth 20000 in
theorem z0_451 : za_v 0 451 77 0 5 454 := ⟨62, ⟨rfl, rfl, rfl⟩, rfl⟩
set_option maxRecDepth 20000 in
theorem z0_454 : za 0 454 (.iload 5) 456 := ⟨rfl, rfl, rfl⟩
set_option maxRecDepth 20000 in
theorem z0_456 : zb (.if_icmp .eq) 0 456 461 459 := ⟨5, ⟨rfl, rfl, rfl⟩, rfl⟩
set_option maxRecDepth 20000 in
theorem z0_459 : za 0 459 (.iconst 0) 460 := ⟨rfl, rfl, rfl⟩
set_option maxRecDepth 20000 in
theorem z0_460 : za 0 460 (.ireturn) 461 := ⟨rfl, rfl, rfl⟩
set_option maxRecDepth 20000 in
theorem z0_461 : za 0 461 (.iload 5) 463 := ⟨rfl, rfl, rfl⟩
set_option maxRecDepth 20000 in
theorem z0_463 : zb (.ifCond .ne) 0 463 478 466 := ⟨15, ⟨rfl, rfl, rfl⟩, rfl⟩
set_option maxRecDepth 20000 in
theorem z0_466 : za 0 466 (.aload_n 3) 467 := ⟨rfl, rfl, rfl⟩
set_option maxRecDepth 20000 in
theorem z0_467 : za 0 467 (.iconst 0) 468 := ⟨rfl, rfl, rfl⟩
set_option maxRecDepth 20000 in
theorem z0_468 : za 0 468 (.laload) 469 := ⟨rfl, rfl, rfl⟩
set_option maxRecDepth 20000 in
theorem z0_469 : za 0 469 (.iload 6) 471 := ⟨rfl, rfl, rfl⟩
set_option maxRecDepth 20000 in
theorem z0_471 : za 0 471 (.i2l) 472 := ⟨rfl, rfl, rfl⟩
set_option maxRecDepth 20000 in
theorem z0_472 : za 0 472 (.lcmp) 473 := ⟨rfl, rfl, rfl⟩
set_option maxRecDepth 20000 in
theorem z0_473 : zb (.ifCond .eq) 0 473 478 476 := ⟨5, ⟨rfl, rfl, rfl⟩, rfl⟩
set_option maxRecDepth 20000 in
theorem z0_476 : za 0 476 (.iconst 0) 477 := ⟨rfl, rfl, rfl⟩
set_option maxRecDepth 20000 in
theorem z0_477 : za 0 477 (.ireturn) 478 := ⟨rfl, rfl, rfl⟩
set_option maxRecDepth 20000 in
theorem z0_478 : zb (.goto) 0 478 763 481 := ⟨285, ⟨rfl, rfl, rfl⟩, rfl⟩
set_option maxRecDepth 20000 in
theorem z0_481 : za 0 481 (.aload_n 1) 482 := ⟨rfl, rfl, rfl⟩
set_option maxRecDepth 20000 in
theorem z0_482 : za 0 482 (.aload_n 3) 483 := ⟨rfl, rfl, rfl⟩
set_option maxRecDepth 20000 in
theorem z0_483 : za_s 0 483 5 2 486 := ⟨81, .null, ⟨rfl, rfl, rfl⟩, rfl⟩
set_option maxRecDepth 20000 in
theorem z0_486 : za 0 486 (.istore 5) 488 := ⟨rfl, rfl, rfl⟩
set_option maxRecDepth 20000 in
theorem z0_488 : za 0 488 (.aload_n 2) 489 := ⟨rfl, rfl, rfl⟩
set_option maxRecDepth 20000 in
theorem z0_489 : za_v 0 489 113 0 5 492 := ⟨84, ⟨rfl, rfl, rfl⟩, rfl⟩
set_option maxRecDepth 20000 in
theorem z0_492 : za 0 492 (.istore 6) 494 := ⟨rfl, rfl, rfl⟩
set_option maxRecDepth 20000 in
theorem z0_494 : za 0 494 (.aload_n 2) 495 := ⟨rfl, rfl, rfl⟩
set_option maxRecDepth 20000 in
theorem z0_495 : za_v 0 495 77 0 5 498 := ⟨62, ⟨rfl, rfl, rfl⟩, rfl⟩
set_option maxRecDepth 20000 in
theorem z0_498 : za 0 498 (.iload 5) 500 := ⟨rfl, rfl, rfl⟩
set_option maxRecDepth 20000 in
theorem z0_500 : zb (.if_icmp .eq) 0 500 505 503 := ⟨5, ⟨rfl, rfl, rfl⟩, rfl⟩
set_option maxRecDepth 20000 in
theorem z0_503 : za 0 503 (.iconst 0) 504 := ⟨rfl, rfl, rfl⟩
set_option maxRecDepth 20000 in
theorem z0_504 : za 0 504 (.ireturn) 505 := ⟨rfl, rfl, rfl⟩
set_option maxRecDepth 20000 in
theorem z0_505 : za 0 505 (.iload 5) 507 := ⟨rfl, rfl, rfl⟩
set_option maxRecDepth 20000 in
theorem z0_507 : zb (.ifCond .ne) 0 507 522 510 := ⟨15, ⟨rfl, rfl, rfl⟩, rfl⟩
set_option maxRecDepth 20000 in
theorem z0_510 : za 0 510 (.aload_n 3) 511 := ⟨rfl, rfl, rfl⟩
set_option maxRecDepth 20000 in
theorem z0_511 : za 0 511 (.iconst 0) 512 := ⟨rfl, rfl, rfl⟩
set_option maxRecDepth 20000 in
theorem z0_512 : za 0 512 (.laload) 513 := ⟨rfl, rfl, rfl⟩
set_option maxRecDepth 20000 in
theorem z0_513 : za 0 513 (.iload 6) 515 := ⟨rfl, rfl, rfl⟩
set_option maxRecDepth 20000 in
theorem z0_515 : za 0 515 (.i2l) 516 := ⟨rfl, rfl, rfl⟩
set_option maxRecDepth 20000 in
theorem z0_516 : za 0 516 (.lcmp) 517 := ⟨rfl, rfl, rfl⟩
set_option maxRecDepth 20000 in
theorem z0_517 : zb (.ifCond .eq) 0 517 522 520 := ⟨5, ⟨rfl, rfl, rfl⟩, rfl⟩
set_option maxRecDepth 20000 in
theorem z0_520 : za 0 520 (.iconst 0) 521 := ⟨rfl, rfl, rfl⟩
set_option maxRecDepth 20000 in
theorem z0_521 : za 0 521 (.ireturn) 522 := ⟨rfl, rfl, rfl⟩
set_option maxRecDepth 20000 in
theorem z0_522 : zb (.goto) 0 522 763 525 := ⟨241, ⟨rfl, rfl, rfl⟩, rfl⟩
set_option maxRecDepth 20000 in
theorem z0_525 : za 0 525 (.aload_n 1) 526 := ⟨rfl, rfl, rfl⟩
set_option maxRecDepth 20000 in
theorem z0_526 : za 0 526 (.aload_n 3) 527 := ⟨rfl, rfl, rfl⟩
set_option maxRecDepth 20000 in
theorem z0_527 : za_s 0 527 6 2 530 := ⟨85, .null, ⟨rfl, rfl, rfl⟩, rfl⟩
set_option maxRecDepth 20000 in
theorem z0_530 : za 0 530 (.istore 5) 532 := ⟨rfl, rfl, rfl⟩
set_option maxRecDepth 20000 in
theorem z0_532 : za 0 532 (.aload_n 2) 533 := ⟨rfl, rfl, rfl⟩
set_option maxRecDepth 20000 in
theorem z0_533 : za_v 0 533 114 0 5 536 := ⟨87, ⟨rfl, rfl, rfl⟩, rfl⟩
set_option maxRecDepth 20000 in
theorem z0_536 : za 0 536 (.istore 6) 538 := ⟨rfl, rfl, rfl⟩
set_option maxRecDepth 20000 in
theorem z0_538 : za 0 538 (.aload_n 2) 539 := ⟨rfl, rfl, rfl⟩
set_option maxRecDepth 20000 in
theorem z0_539 : za_v 0 539 77 0 5 542 := ⟨62, ⟨rfl, rfl, rfl⟩, rfl⟩
set_option maxRecDepth 20000 in
theorem z0_542 : za 0 542 (.iload 5) 544 := ⟨rfl, rfl, rfl⟩
set_option maxRecDepth 20000 in
theorem z0_544 : zb (.if_icmp .eq) 0 544 549 547 := ⟨5, ⟨rfl, rfl, rfl⟩, rfl⟩
set_option maxRecDepth 20000 in
theorem z0_547 : za 0 547 (.iconst 0) 548 := ⟨rfl, rfl, rfl⟩
set_option maxRecDepth 20000 in
theorem z0_548 : za 0 548 (.ireturn) 549 := ⟨rfl, rfl, rfl⟩
set_option maxRecDepth 20000 in
theorem z0_549 : za 0 549 (.iload 5) 551 := ⟨rfl, rfl, rfl⟩
set_option maxRecDepth 20000 in
theorem z0_551 : zb (.ifCond .ne) 0 551 566 554 := ⟨15, ⟨rfl, rfl, rfl⟩, rfl⟩
set_option maxRecDepth 20000 in
theorem z0_554 : za 0 554 (.aload_n 3) 555 := ⟨rfl, rfl, rfl⟩
set_option maxRecDepth 20000 in
theorem z0_555 : za 0 555 (.iconst 0) 556 := ⟨rfl, rfl, rfl⟩
set_option maxRecDepth 20000 in
theorem z0_556 : za 0 556 (.laload) 557 := ⟨rfl, rfl, rfl⟩
set_option maxRecDepth 20000 in
theorem z0_557 : za 0 557 (.iload 6) 559 := ⟨rfl, rfl, rfl⟩
set_option maxRecDepth 20000 in
theorem z0_559 : za 0 559 (.i2l) 560 := ⟨rfl, rfl, rfl⟩
set_option maxRecDepth 20000 in
theorem z0_560 : za 0 560 (.lcmp) 561 := ⟨rfl, rfl, rfl⟩
set_option maxRecDepth 20000 in
theorem z0_561 : zb (.ifCond .eq) 0 561 566 564 := ⟨5, ⟨rfl, rfl, rfl⟩, rfl⟩
set_option maxRecDepth 20000 in
theorem z0_564 : za 0 564 (.iconst 0) 565 := ⟨rfl, rfl, rfl⟩
set_option maxRecDepth 20000 in
theorem z0_565 : za 0 565 (.ireturn) 566 := ⟨rfl, rfl, rfl⟩
set_option maxRecDepth 20000 in
theorem z0_566 : zb (.goto) 0 566 763 569 := ⟨197, ⟨rfl, rfl, rfl⟩, rfl⟩
set_option maxRecDepth 20000 in
theorem z0_569 : za 0 569 (.aload_n 1) 570 := ⟨rfl, rfl, rfl⟩
set_option maxRecDepth 20000 in
theorem z0_570 : za_v 0 570 18 0 0 573 := ⟨88, ⟨rfl, rfl, rfl⟩, rfl⟩
set_option maxRecDepth 20000 in
theorem z0_573 : za 0 573 (.aload_n 2) 574 := ⟨rfl, rfl, rfl⟩
set_option maxRecDepth 20000 in
theorem z0_574 : za_v 0 574 115 0 5 577 := ⟨91, ⟨rfl, rfl, rfl⟩, rfl⟩
set_option maxRecDepth 20000 in
theorem z0_577 : zb (.if_icmp .eq) 0 577 763 580 := ⟨186, ⟨rfl, rfl, rfl⟩, rfl⟩
set_option maxRecDepth 20000 in
theorem z0_580 : za 0 580 (.iconst 0) 581 := ⟨rfl, rfl, rfl⟩
set_option maxRecDepth 20000 in
theorem z0_581 : za 0 581 (.ireturn) 582 := ⟨rfl, rfl, rfl⟩
set_option maxRecDepth 20000 in
theorem z0_582 : za 0 582 (.aload_n 1) 583 := ⟨rfl, rfl, rfl⟩
set_option maxRecDepth 20000 in
theorem z0_583 : za 0 583 (.aload_n 0) 584 := ⟨rfl, rfl, rfl⟩
set_option maxRecDepth 20000 in
theorem z0_584 : za 0 584 (.iload 4) 586 := ⟨rfl, rfl, rfl⟩
set_option maxRecDepth 20000 in
theorem z0_586 : za 0 586 (.iconst 1) 587 := ⟨rfl, rfl, rfl⟩
set_option maxRecDepth 20000 in
theorem z0_587 : za 0 587 (.iadd) 588 := ⟨rfl, rfl, rfl⟩
set_option maxRecDepth 20000 in
theorem z0_588 : za 0 588 (.iaload) 589 := ⟨rfl, rfl, rfl⟩
set_option maxRecDepth 20000 in
theorem z0_589 : za 0 589 (.aload_n 0) 590 := ⟨rfl, rfl, rfl⟩
set_option maxRecDepth 20000 in
theorem z0_590 : za 0 590 (.iload 4) 592 := ⟨rfl, rfl, rfl⟩
set_option maxRecDepth 20000 in
theorem z0_592 : za 0 592 (.iconst 2) 593 := ⟨rfl, rfl, rfl⟩
set_option maxRecDepth 20000 in
theorem z0_593 : za 0 593 (.iadd) 594 := ⟨rfl, rfl, rfl⟩
set_option maxRecDepth 20000 in
theorem z0_594 : za 0 594 (.iaload) 595 := ⟨rfl, rfl, rfl⟩
set_option maxRecDepth 20000 in
theorem z0_595 : za_v 0 595 19 2 0 598 := ⟨92, ⟨rfl, rfl, rfl⟩, rfl⟩
set_option maxRecDepth 20000 in
theorem z0_598 : za 0 598 (.aload_n 2) 599 := ⟨rfl, rfl, rfl⟩
set_option maxRecDepth 20000 in
theorem z0_599 : za 0 599 (.aload_n 0) 600 := ⟨rfl, rfl, rfl⟩
set_option maxRecDepth 20000 in
theorem z0_600 : za 0 600 (.iload 4) 602 := ⟨rfl, rfl, rfl⟩
set_option maxRecDepth 20000 in
theorem z0_602 : za 0 602 (.iconst 1) 603 := ⟨rfl, rfl, rfl⟩
set_option maxRecDepth 20000 in
theorem z0_603 : za 0 603 (.iadd) 604 := ⟨rfl, rfl, rfl⟩
set_option maxRecDepth 20000 in
theorem z0_604 : za 0 604 (.iaload) 605 := ⟨rfl, rfl, rfl⟩
set_option maxRecDepth 20000 in
theorem z0_605 : za 0 605 (.aload_n 0) 606 := ⟨rfl, rfl, rfl⟩
set_option maxRecDepth 20000 in
theorem z0_606 : za 0 606 (.iload 4) 608 := ⟨rfl, rfl, rfl⟩
set_option maxRecDepth 20000 in
theorem z0_608 : za 0 608 (.iconst 2) 609 := ⟨rfl, rfl, rfl⟩
set_option maxRecDepth 20000 in
theorem z0_609 : za 0 609 (.iadd) 610 := ⟨rfl, rfl, rfl⟩
set_option maxRecDepth 20000 in
theorem z0_610 : za 0 610 (.iaload) 611 := ⟨rfl, rfl, rfl⟩
set_option maxRecDepth 20000 in
theorem z0_611 : za_v 0 611 116 2 5 614 := ⟨95, ⟨rfl, rfl, rfl⟩, rfl⟩
set_option maxRecDepth 20000 in
theorem z0_614 : zb (.if_icmp .eq) 0 614 763 617 := ⟨149, ⟨rfl, rfl, rfl⟩, rfl⟩
set_option maxRecDepth 20000 in
theorem z0_617 : za 0 617 (.iconst 0) 618 := ⟨rfl, rfl, rfl⟩
set_option maxRecDepth 20000 in
theorem z0_618 : za 0 618 (.ireturn) 619 := ⟨rfl, rfl, rfl⟩
set_option maxRecDepth 20000 in
theorem z0_619 : za 0 619 (.aload_n 1) 620 := ⟨rfl, rfl, rfl⟩
set_option maxRecDepth 20000 in
theorem z0_620 : za 0 620 (.aload_n 0) 621 := ⟨rfl, rfl, rfl⟩
set_option maxRecDepth 20000 in
theorem z0_621 : za 0 621 (.iload 4) 623 := ⟨rfl, rfl, rfl⟩
set_option maxRecDepth 20000 in
theorem z0_623 : za 0 623 (.iconst 1) 624 := ⟨rfl, rfl, rfl⟩
set_option maxRecDepth 20000 in
theorem z0_624 : za 0 624 (.iadd) 625 := ⟨rfl, rfl, rfl⟩
set_option maxRecDepth 20000 in
theorem z0_625 : za 0 625 (.iaload) 626 := ⟨rfl, rfl, rfl⟩
set_option maxRecDepth 20000 in
theorem z0_626 : za_v 0 626 20 1 0 629 := ⟨96, ⟨rfl, rfl, rfl⟩, rfl⟩
set_option maxRecDepth 20000 in
theorem z0_629 : za 0 629 (.aload_n 2) 630 := ⟨rfl, rfl, rfl⟩
set_option maxRecDepth 20000 in
theorem z0_630 : za 0 630 (.aload_n 0) 631 := ⟨rfl, rfl, rfl⟩
set_option maxRecDepth 20000 in
theorem z0_631 : za 0 631 (.iload 4) 633 := ⟨rfl, rfl, rfl⟩
set_option maxRecDepth 20000 in
theorem z0_633 : za 0 633 (.iconst 1) 634 := ⟨rfl, rfl, rfl⟩
set_option maxRecDepth 20000 in
theorem z0_634 : za 0 634 (.iadd) 635 := ⟨rfl, rfl, rfl⟩
set_option maxRecDepth 20000 in
theorem z0_635 : za 0 635 (.iaload) 636 := ⟨rfl, rfl, rfl⟩
set_option maxRecDepth 20000 in
theorem z0_636 : za_v 0 636 117 1 5 639 := ⟨99, ⟨rfl, rfl, rfl⟩, rfl⟩
set_option maxRecDepth 20000 in
theorem z0_639 : zb (.if_icmp .eq) 0 639 763 642 := ⟨124, ⟨rfl, rfl, rfl⟩, rfl⟩
set_option maxRecDepth 20000 in
theorem z0_642 : za 0 642 (.iconst 0) 643 := ⟨rfl, rfl, rfl⟩
set_option maxRecDepth 20000 in
theorem z0_643 : za 0 643 (.ireturn) 644 := ⟨rfl, rfl, rfl⟩
set_option maxRecDepth 20000 in
theorem z0_644 : za 0 644 (.aload_n 1) 645 := ⟨rfl, rfl, rfl⟩
set_option maxRecDepth 20000 in
theorem z0_645 : za 0 645 (.aload_n 0) 646 := ⟨rfl, rfl, rfl⟩
set_option maxRecDepth 20000 in
theorem z0_646 : za 0 646 (.iload 4) 648 := ⟨rfl, rfl, rfl⟩
set_option maxRecDepth 20000 in
theorem z0_648 : za 0 648 (.iconst 1) 649 := ⟨rfl, rfl, rfl⟩
set_option maxRecDepth 20000 in
theorem z0_649 : za 0 649 (.iadd) 650 := ⟨rfl, rfl, rfl⟩
set_option maxRecDepth 20000 in
theorem z0_650 : za 0 650 (.iaload) 651 := ⟨rfl, rfl, rfl⟩
set_option maxRecDepth 20000 in
theorem z0_651 : za 0 651 (.aload_n 0) 652 := ⟨rfl, rfl, rfl⟩
set_option maxRecDepth 20000 in
theorem z0_652 : za 0 652 (.iload 4) 654 := ⟨rfl, rfl, rfl⟩
set_option maxRecDepth 20000 in
theorem z0_654 : za 0 654 (.iconst 2) 655 := ⟨rfl, rfl, rfl⟩
set_option maxRecDepth 20000 in
theorem z0_655 : za 0 655 (.iadd) 656 := ⟨rfl, rfl, rfl⟩
set_option maxRecDepth 20000 in
theorem z0_656 : za 0 656 (.iaload) 657 := ⟨rfl, rfl, rfl⟩
set_option maxRecDepth 20000 in
theorem z0_657 : za_v 0 657 21 2 0 660 := ⟨100, ⟨rfl, rfl, rfl⟩, rfl⟩
set_option maxRecDepth 20000 in
theorem z0_660 : za 0 660 (.aload_n 2) 661 := ⟨rfl, rfl, rfl⟩
set_option maxRecDepth 20000 in
theorem z0_661 : za 0 661 (.aload_n 0) 662 := ⟨rfl, rfl, rfl⟩
set_option maxRecDepth 20000 in
theorem z0_662 : za 0 662 (.iload 4) 664 := ⟨rfl, rfl, rfl⟩
set_option maxRecDepth 20000 in
theorem z0_664 : za 0 664 (.iconst 1) 665 := ⟨rfl, rfl, rfl⟩
set_option maxRecDepth 20000 in
theorem z0_665 : za 0 665 (.iadd) 666 := ⟨rfl, rfl, rfl⟩
set_option maxRecDepth 20000 in
theorem z0_666 : za 0 666 (.iaload) 667 := ⟨rfl, rfl, rfl⟩
set_option maxRecDepth 20000 in
theorem z0_667 : za 0 667 (.aload_n 0) 668 := ⟨rfl, rfl, rfl⟩
set_option maxRecDepth 20000 in
theorem z0_668 : za 0 668 (.iload 4) 670 := ⟨rfl, rfl, rfl⟩
set_option maxRecDepth 20000 in
theorem z0_670 : za 0 670 (.iconst 2) 671 := ⟨rfl, rfl, rfl⟩
set_option maxRecDepth 20000 in
theorem z0_671 : za 0 671 (.iadd) 672 := ⟨rfl, rfl, rfl⟩
set_option maxRecDepth 20000 in
theorem z0_672 : za 0 672 (.iaload) 673 := ⟨rfl, rfl, rfl⟩
set_option maxRecDepth 20000 in
theorem z0_673 : za_v 0 673 118 2 5 676 := ⟨103, ⟨rfl, rfl, rfl⟩, rfl⟩
set_option maxRecDepth 20000 in
theorem z0_676 : zb (.if_icmp .eq) 0 676 763 679 := ⟨87, ⟨rfl, rfl, rfl⟩, rfl⟩
set_option maxRecDepth 20000 in
theorem z0_679 : za 0 679 (.iconst 0) 680 := ⟨rfl, rfl, rfl⟩
set_option maxRecDepth 20000 in
theorem z0_680 : za 0 680 (.ireturn) 681 := ⟨rfl, rfl, rfl⟩
set_option maxRecDepth 20000 in
theorem z0_681 : za 0 681 (.aload_n 1) 682 := ⟨rfl, rfl, rfl⟩
set_option maxRecDepth 20000 in
theorem z0_682 : za 0 682 (.aload_n 0) 683 := ⟨rfl, rfl, rfl⟩
set_option maxRecDepth 20000 in
theorem z0_683 : za 0 683 (.iload 4) 685 := ⟨rfl, rfl, rfl⟩
set_option maxRecDepth 20000 in
theorem z0_685 : za 0 685 (.iconst 1) 686 := ⟨rfl, rfl, rfl⟩
set_option maxRecDepth 20000 in
theorem z0_686 : za 0 686 (.iadd) 687 := ⟨rfl, rfl, rfl⟩
set_option maxRecDepth 20000 in
theorem z0_687 : za 0 687 (.iaload) 688 := ⟨rfl, rfl, rfl⟩
set_option maxRecDepth 20000 in
theorem z0_688 : za 0 688 (.aload_n 3) 689 := ⟨rfl, rfl, rfl⟩
set_option maxRecDepth 20000 in
theorem z0_689 : za_s 0 689 7 3 692 := ⟨104, .null, ⟨rfl, rfl, rfl⟩, rfl⟩
set_option maxRecDepth 20000 in
theorem z0_692 : za 0 692 (.istore 5) 694 := ⟨rfl, rfl, rfl⟩
set_option maxRecDepth 20000 in
theorem z0_694 : za 0 694 (.aload_n 2) 695 := ⟨rfl, rfl, rfl⟩
set_option maxRecDepth 20000 in
theorem z0_695 : za 0 695 (.aload_n 0) 696 := ⟨rfl, rfl, rfl⟩
set_option maxRecDepth 20000 in
theorem z0_696 : za 0 696 (.iload 4) 698 := ⟨rfl, rfl, rfl⟩
set_option maxRecDepth 20000 in
theorem z0_698 : za 0 698 (.iconst 1) 699 := ⟨rfl, rfl, rfl⟩
set_option maxRecDepth 20000 in
theorem z0_699 : za 0 699 (.iadd) 700 := ⟨rfl, rfl, rfl⟩
set_option maxRecDepth 20000 in
theorem z0_700 : za 0 700 (.iaload) 701 := ⟨rfl, rfl, rfl⟩
set_option maxRecDepth 20000 in
theorem z0_701 : za_v 0 701 131 1 5 704 := ⟨107, ⟨rfl, rfl, rfl⟩, rfl⟩
set_option maxRecDepth 20000 in
theorem z0_704 : za 0 704 (.istore 6) 706 := ⟨rfl, rfl, rfl⟩
set_option maxRecDepth 20000 in
theorem z0_706 : za 0 706 (.aload_n 2) 707 := ⟨rfl, rfl, rfl⟩
set_option maxRecDepth 20000 in
theorem z0_707 : za_v 0 707 77 0 5 710 := ⟨62, ⟨rfl, rfl, rfl⟩, rfl⟩
set_option maxRecDepth 20000 in
theorem z0_710 : za 0 710 (.iload 5) 712 := ⟨rfl, rfl, rfl⟩
set_option maxRecDepth 20000 in
theorem z0_712 : zb (.if_icmp .eq) 0 712 717 715 := ⟨5, ⟨rfl, rfl, rfl⟩, rfl⟩
set_option maxRecDepth 20000 in
theorem z0_715 : za 0 715 (.iconst 0) 716 := ⟨rfl, rfl, rfl⟩
set_option maxRecDepth 20000 in
theorem z0_716 : za 0 716 (.ireturn) 717 := ⟨rfl, rfl, rfl⟩
set_option maxRecDepth 20000 in
theorem z0_717 : za 0 717 (.iload 5) 719 := ⟨rfl, rfl, rfl⟩
set_option maxRecDepth 20000 in
theorem z0_719 : zb (.ifCond .ne) 0 719 734 722 := ⟨15, ⟨rfl, rfl, rfl⟩, rfl⟩
set_option maxRecDepth 20000 in
theorem z0_722 : za 0 722 (.aload_n 3) 723 := ⟨rfl, rfl, rfl⟩
set_option maxRecDepth 20000 in
theorem z0_723 : za 0 723 (.iconst 0) 724 := ⟨rfl, rfl, rfl⟩
set_option maxRecDepth 20000 in
theorem z0_724 : za 0 724 (.laload) 725 := ⟨rfl, rfl, rfl⟩
set_option maxRecDepth 20000 in
theorem z0_725 : za 0 725 (.iload 6) 727 := ⟨rfl, rfl, rfl⟩
set_option maxRecDepth 20000 in
theorem z0_727 : za 0 727 (.i2l) 728 := ⟨rfl, rfl, rfl⟩
set_option maxRecDepth 20000 in
theorem z0_728 : za 0 728 (.lcmp) 729 := ⟨rfl, rfl, rfl⟩
set_option maxRecDepth 20000 in
theorem z0_729 : zb (.ifCond .eq) 0 729 734 732 := ⟨5, ⟨rfl, rfl, rfl⟩, rfl⟩
set_option maxRecDepth 20000 in
theorem z0_732 : za 0 732 (.iconst 0) 733 := ⟨rfl, rfl, rfl⟩
set_option maxRecDepth 20000 in
theorem z0_733 : za 0 733 (.ireturn) 734 := ⟨rfl, rfl, rfl⟩
set_option maxRecDepth 20000 in
theorem z0_734 : zb (.goto) 0 734 763 737 := ⟨29, ⟨rfl, rfl, rfl⟩, rfl⟩
set_option maxRecDepth 20000 in
theorem z0_737 : za 0 737 (.aload_n 1) 738 := ⟨rfl, rfl, rfl⟩
set_option maxRecDepth 20000 in
theorem z0_738 : za_v 0 738 23 0 0 741 := ⟨108, ⟨rfl, rfl, rfl⟩, rfl⟩
set_option maxRecDepth 20000 in
theorem z0_741 : za 0 741 (.aload_n 2) 742 := ⟨rfl, rfl, rfl⟩
set_option maxRecDepth 20000 in
theorem z0_742 : za_v 0 742 132 0 5 745 := ⟨111, ⟨rfl, rfl, rfl⟩, rfl⟩
set_option maxRecDepth 20000 in
theorem z0_745 : zb (.if_icmp .eq) 0 745 763 748 := ⟨18, ⟨rfl, rfl, rfl⟩, rfl⟩
set_option maxRecDepth 20000 in
theorem z0_748 : za 0 748 (.iconst 0) 749 := ⟨rfl, rfl, rfl⟩
set_option maxRecDepth 20000 in
theorem z0_749 : za 0 749 (.ireturn) 750 := ⟨rfl, rfl, rfl⟩
set_option maxRecDepth 20000 in
theorem z0_750 : za 0 750 (.aload_n 1) 751 := ⟨rfl, rfl, rfl⟩
set_option maxRecDepth 20000 in
theorem z0_751 : za_v 0 751 24 0 0 754 := ⟨112, ⟨rfl, rfl, rfl⟩, rfl⟩
set_option maxRecDepth 20000 in
theorem z0_754 : za 0 754 (.aload_n 2) 755 := ⟨rfl, rfl, rfl⟩
set_option maxRecDepth 20000 in
theorem z0_755 : za_v 0 755 133 0 5 758 := ⟨115, ⟨rfl, rfl, rfl⟩, rfl⟩
set_option maxRecDepth 20000 in
theorem z0_758 : zb (.if_icmp .eq) 0 758 763 761 := ⟨5, ⟨rfl, rfl, rfl⟩, rfl⟩
set_option maxRecDepth 20000 in
theorem z0_761 : za 0 761 (.iconst 0) 762 := ⟨rfl, rfl, rfl⟩
set_option maxRecDepth 20000 in
theorem z0_762 : za 0 762 (.ireturn) 763 := ⟨rfl, rfl, rfl⟩
set_option maxRecDepth 20000 in
theorem z0_763 : za 0 763 (.iinc 4 (5)) 766 := ⟨rfl, rfl, rfl⟩
set_option maxRecDepth 20000 in
theorem z0_766 : zb (.goto) 0 766 23 769 := ⟨(-743), ⟨rfl, rfl, rfl⟩, rfl⟩
set_option maxRecDepth 20000 in
theorem z0_769 : za 0 769 (.iconst 1) 770 := ⟨rfl, rfl, rfl⟩
set_option maxRecDepth 20000 in
theorem z0_770 : za 0 770 (.ireturn) 771 := ⟨rfl, rfl, rfl⟩
theorem z1_0 : za 1 0 (.aload_n 0) 1 := ⟨rfl, rfl, rfl⟩
theorem z1_1 : za 1 1 (.iload_n 1) 2 := ⟨rfl, rfl, rfl⟩
theorem z1_2 : za_v 1 2 11 1 0 5 := ⟨7, ⟨rfl, rfl, rfl⟩, rfl⟩
theorem z1_5 : zb (.goto) 1 5 11 8 := ⟨6, ⟨rfl, rfl, rfl⟩, rfl⟩
theorem z1_8 : za 1 8 (.astore_n 2) 9 := ⟨rfl, rfl, rfl⟩
theorem z1_9 : za 1 9 (.iconst 1) 10 := ⟨rfl, rfl, rfl⟩
theorem z1_10 : za 1 10 (.ireturn) 11 := ⟨rfl, rfl, rfl⟩
theorem z1_11 : za 1 11 (.iconst 0) 12 := ⟨rfl, rfl, rfl⟩
theorem z1_12 : za 1 12 (.ireturn) 13 := ⟨rfl, rfl, rfl⟩
theorem z2_0 : za 2 0 (.aload_n 3) 1 := ⟨rfl, rfl, rfl⟩
theorem z2_1 : za 2 1 (.iconst 0) 2 := ⟨rfl, rfl, rfl⟩
theorem z2_2 : za 2 2 (.aload_n 0) 3 := ⟨rfl, rfl, rfl⟩
theorem z2_3 : za 2 3 (.iload_n 1) 4 := ⟨rfl, rfl, rfl⟩
theorem z2_4 : za 2 4 (.iload_n 2) 5 := ⟨rfl, rfl, rfl⟩
theorem z2_5 : za_v 2 5 13 2 0 8 := ⟨15, ⟨rfl, rfl, rfl⟩, rfl⟩
theorem z2_8 : za 2 8 (.i2l) 9 := ⟨rfl, rfl, rfl⟩
theorem z2_9 : za 2 9 (.lastore) 10 := ⟨rfl, rfl, rfl⟩
theorem z2_10 : zb (.goto) 2 10 21 13 := ⟨11, ⟨rfl, rfl, rfl⟩, rfl⟩
theorem z2_13 : za 2 13 (.astore 4) 15 := ⟨rfl, rfl, rfl⟩
theorem z2_15 : za 2 15 (.iconst 1) 16 := ⟨rfl, rfl, rfl⟩
theorem z2_16 : za 2 16 (.ireturn) 17 := ⟨rfl, rfl, rfl⟩
theorem z2_17 : za 2 17 (.astore 4) 19 := ⟨rfl, rfl, rfl⟩
theorem z2_19 : za 2 19 (.iconst 2) 20 := ⟨rfl, rfl, rfl⟩
theorem z2_20 : za 2 20 (.ireturn) 21 := ⟨rfl, rfl, rfl⟩
theorem z2_21 : za 2 21 (.iconst 0) 22 := ⟨rfl, rfl, rfl⟩
theorem z2_22 : za 2 22 (.ireturn) 23 := ⟨rfl, rfl, rfl⟩
theorem z3_0 : za 3 0 (.aload 4) 2 := ⟨rfl, rfl, rfl⟩
theorem z3_2 : za 3 2 (.iconst 0) 3 := ⟨rfl, rfl, rfl⟩
theorem z3_3 : za 3 3 (.aload_n 0) 4 := ⟨rfl, rfl, rfl⟩
theorem z3_4 : za 3 4 (.iload_n 1) 5 := ⟨rfl, rfl, rfl⟩
theorem z3_5 : za 3 5 (.iload_n 2) 6 := ⟨rfl, rfl, rfl⟩
theorem z3_6 : za 3 6 (.iload_n 3) 7 := ⟨rfl, rfl, rfl⟩
theorem z3_7 : za_v 3 7 14 3 0 10 := ⟨21, ⟨rfl, rfl, rfl⟩, rfl⟩
theorem z3_10 : za 3 10 (.i2l) 11 := ⟨rfl, rfl, rfl⟩
theorem z3_11 : za 3 11 (.lastore) 12 := ⟨rfl, rfl, rfl⟩
theorem z3_12 : zb (.goto) 3 12 23 15 := ⟨11, ⟨rfl, rfl, rfl⟩, rfl⟩
theorem z3_15 : za 3 15 (.astore 5) 17 := ⟨rfl, rfl, rfl⟩
theorem z3_17 : za 3 17 (.iconst 1) 18 := ⟨rfl, rfl, rfl⟩
theorem z3_18 : za 3 18 (.ireturn) 19 := ⟨rfl, rfl, rfl⟩
theorem z3_19 : za 3 19 (.astore 5) 21 := ⟨rfl, rfl, rfl⟩
theorem z3_21 : za 3 21 (.iconst 2) 22 := ⟨rfl, rfl, rfl⟩
theorem z3_22 : za 3 22 (.ireturn) 23 := ⟨rfl, rfl, rfl⟩
theorem z3_23 : za 3 23 (.iconst 0) 24 := ⟨rfl, rfl, rfl⟩
theorem z3_24 : za 3 24 (.ireturn) 25 := ⟨rfl, rfl, rfl⟩
theorem z4_0 : za 4 0 (.aload_n 3) 1 := ⟨rfl, rfl, rfl⟩
theorem z4_1 : za 4 1 (.iconst 0) 2 := ⟨rfl, rfl, rfl⟩
theorem z4_2 : za 4 2 (.aload_n 0) 3 := ⟨rfl, rfl, rfl⟩
theorem z4_3 : za 4 3 (.iload_n 1) 4 := ⟨rfl, rfl, rfl⟩
theorem z4_4 : za 4 4 (.iload_n 2) 5 := ⟨rfl, rfl, rfl⟩
theorem z4_5 : za_v 4 5 15 2 0 8 := ⟨25, ⟨rfl, rfl, rfl⟩, rfl⟩
theorem z4_8 : za 4 8 (.i2l) 9 := ⟨rfl, rfl, rfl⟩
theorem z4_9 : za 4 9 (.lastore) 10 := ⟨rfl, rfl, rfl⟩
theorem z4_10 : zb (.goto) 4 10 21 13 := ⟨11, ⟨rfl, rfl, rfl⟩, rfl⟩
theorem z4_13 : za 4 13 (.astore 4) 15 := ⟨rfl, rfl, rfl⟩
theorem z4_15 : za 4 15 (.iconst 1) 16 := ⟨rfl, rfl, rfl⟩
theorem z4_16 : za 4 16 (.ireturn) 17 := ⟨rfl, rfl, rfl⟩
theorem z4_17 : za 4 17 (.astore 4) 19 := ⟨rfl, rfl, rfl⟩
theorem z4_19 : za 4 19 (.iconst 2) 20 := ⟨rfl, rfl, rfl⟩
theorem z4_20 : za 4 20 (.ireturn) 21 := ⟨rfl, rfl, rfl⟩
theorem z4_21 : za 4 21 (.iconst 0) 22 := ⟨rfl, rfl, rfl⟩
theorem z4_22 : za 4 22 (.ireturn) 23 := ⟨rfl, rfl, rfl⟩
theorem z5_0 : za 5 0 (.aload_n 1) 1 := ⟨rfl, rfl, rfl⟩
theorem z5_1 : za 5 1 (.iconst 0) 2 := ⟨rfl, rfl, rfl⟩
theorem z5_2 : za 5 2 (.aload_n 0) 3 := ⟨rfl, rfl, rfl⟩
theorem z5_3 : za_v 5 3 16 0 0 6 := ⟨29, ⟨rfl, rfl, rfl⟩, rfl⟩
theorem z5_6 : za 5 6 (.i2l) 7 := ⟨rfl, rfl, rfl⟩
theorem z5_7 : za 5 7 (.lastore) 8 := ⟨rfl, rfl, rfl⟩
theorem z5_8 : zb (.goto) 5 8 14 11 := ⟨6, ⟨rfl, rfl, rfl⟩, rfl⟩
theorem z5_11 : za 5 11 (.astore_n 2) 12 := ⟨rfl, rfl, rfl⟩
theorem z5_12 : za 5 12 (.iconst 1) 13 := ⟨rfl, rfl, rfl⟩
theorem z5_13 : za 5 13 (.ireturn) 14 := ⟨rfl, rfl, rfl⟩
theorem z5_14 : za 5 14 (.iconst 0) 15 := ⟨rfl, rfl, rfl⟩
theorem z5_15 : za 5 15 (.ireturn) 16 := ⟨rfl, rfl, rfl⟩
theorem z6_0 : za 6 0 (.aload_n 1) 1 := ⟨rfl, rfl, rfl⟩
theorem z6_1 : za 6 1 (.iconst 0) 2 := ⟨rfl, rfl, rfl⟩
theorem z6_2 : za 6 2 (.aload_n 0) 3 := ⟨rfl, rfl, rfl⟩
theorem z6_3 : za_v 6 3 17 0 0 6 := ⟨33, ⟨rfl, rfl, rfl⟩, rfl⟩
theorem z6_6 : za 6 6 (.i2l) 7 := ⟨rfl, rfl, rfl⟩
theorem z6_7 : za 6 7 (.lastore) 8 := ⟨rfl, rfl, rfl⟩
theorem z6_8 : zb (.goto) 6 8 14 11 := ⟨6, ⟨rfl, rfl, rfl⟩, rfl⟩
theorem z6_11 : za 6 11 (.astore_n 2) 12 := ⟨rfl, rfl, rfl⟩
theorem z6_12 : za 6 12 (.iconst 1) 13 := ⟨rfl, rfl, rfl⟩
theorem z6_13 : za 6 13 (.ireturn) 14 := ⟨rfl, rfl, rfl⟩
theorem z6_14 : za 6 14 (.iconst 0) 15 := ⟨rfl, rfl, rfl⟩
theorem z6_15 : za 6 15 (.ireturn) 16 := ⟨rfl, rfl, rfl⟩
theorem z7_0 : za 7 0 (.aload_n 2) 1 := ⟨rfl, rfl, rfl⟩
theorem z7_1 : za 7 1 (.iconst 0) 2 := ⟨rfl, rfl, rfl⟩
theorem z7_2 : za 7 2 (.aload_n 0) 3 := ⟨rfl, rfl, rfl⟩
theorem z7_3 : za 7 3 (.iload_n 1) 4 := ⟨rfl, rfl, rfl⟩
theorem z7_4 : za_v 7 4 22 1 0 7 := ⟨38, ⟨rfl, rfl, rfl⟩, rfl⟩
theorem z7_7 : za 7 7 (.i2l) 8 := ⟨rfl, rfl, rfl⟩
theorem z7_8 : za 7 8 (.lastore) 9 := ⟨rfl, rfl, rfl⟩
theorem z7_9 : zb (.goto) 7 9 18 12 := ⟨9, ⟨rfl, rfl, rfl⟩, rfl⟩
theorem z7_12 : za 7 12 (.astore_n 3) 13 := ⟨rfl, rfl, rfl⟩
theorem z7_13 : za 7 13 (.iconst 1) 14 := ⟨rfl, rfl, rfl⟩
theorem z7_14 : za 7 14 (.ireturn) 15 := ⟨rfl, rfl, rfl⟩
theorem z7_15 : za 7 15 (.astore_n 3) 16 := ⟨rfl, rfl, rfl⟩
theorem z7_16 : za 7 16 (.iconst 2) 17 := ⟨rfl, rfl, rfl⟩
theorem z7_17 : za 7 17 (.ireturn) 18 := ⟨rfl, rfl, rfl⟩
theorem z7_18 : za 7 18 (.iconst 0) 19 := ⟨rfl, rfl, rfl⟩
theorem z7_19 : za 7 19 (.ireturn) 20 := ⟨rfl, rfl, rfl⟩
theorem z8_0 : za 8 0 (.aload_n 0) 1 := ⟨rfl, rfl, rfl⟩
theorem z8_1 : za_o 8 1 4 := ⟨1, 0, .null, ⟨rfl, rfl, rfl⟩, rfl⟩
theorem z8_4 : za 8 4 (.aload_n 0) 5 := ⟨rfl, rfl, rfl⟩
theorem z8_5 : za_n 8 5 1 6 8 := ⟨7, .null, ⟨rfl, rfl, rfl⟩, rfl⟩
theorem z8_8 : za 8 8 (.dup) 9 := ⟨rfl, rfl, rfl⟩
theorem z8_9 : za_i 8 9 28 0 12 := ⟨9, .null, ⟨rfl, rfl, rfl⟩, rfl⟩
theorem z8_12 : za_p 8 12 0 0 15 := ⟨10, 8, .null, ⟨rfl, rfl, rfl⟩, rfl, Or.inr rfl⟩
theorem z8_15 : za 8 15 (.aload_n 0) 16 := ⟨rfl, rfl, rfl⟩
theorem z8_16 : za_n 8 16 2 6 19 := ⟨16, .null, ⟨rfl, rfl, rfl⟩, rfl⟩
theorem z8_19 : za 8 19 (.dup) 20 := ⟨rfl, rfl, rfl⟩
theorem z8_20 : za 8 20 (.aload_n 0) 21 := ⟨rfl, rfl, rfl⟩
theorem z8_21 : za_f 8 21 0 0 24 := ⟨10, 8, .null, ⟨rfl, rfl, rfl⟩, rfl, Or.inr (Or.inl rfl)⟩
theorem z8_24 : za_i 8 24 39 1 27 := ⟨18, .null, ⟨rfl, rfl, rfl⟩, rfl⟩
theorem z8_27 : za_p 8 27 0 1 30 := ⟨21, 8, .null, ⟨rfl, rfl, rfl⟩, rfl, Or.inr rfl⟩
theorem z8_30 : za 8 30 (.aload_n 0) 31 := ⟨rfl, rfl, rfl⟩
theorem z8_31 : za_n 8 31 3 6 34 := ⟨25, .null, ⟨rfl, rfl, rfl⟩, rfl⟩
theorem z8_34 : za 8 34 (.dup) 35 := ⟨rfl, rfl, rfl⟩
theorem z8_35 : za_i 8 35 63 0 38 := ⟨27, .null, ⟨rfl, rfl, rfl⟩, rfl⟩
theorem z8_38 : za_p 8 38 0 2 41 := ⟨28, 8, .null, ⟨rfl, rfl, rfl⟩, rfl, Or.inr rfl⟩
theorem z8_41 : za 8 41 (.aload_n 0) 42 := ⟨rfl, rfl, rfl⟩
theorem z8_42 : za_n 8 42 4 10 45 := ⟨32, .null, ⟨rfl, rfl, rfl⟩, rfl⟩
theorem z8_45 : za 8 45 (.dup) 46 := ⟨rfl, rfl, rfl⟩
theorem z8_46 : za 8 46 (.aload_n 0) 47 := ⟨rfl, rfl, rfl⟩
theorem z8_47 : za_f 8 47 0 0 50 := ⟨10, 8, .null, ⟨rfl, rfl, rfl⟩, rfl, Or.inr (Or.inl rfl)⟩
theorem z8_50 : za_i 8 50 67 1 53 := ⟨34, .null, ⟨rfl, rfl, rfl⟩, rfl⟩
theorem z8_53 : za_p 8 53 0 3 56 := ⟨35, 8, .null, ⟨rfl, rfl, rfl⟩, rfl, Or.inr rfl⟩
theorem z8_56 : za 8 56 (.aload_n 0) 57 := ⟨rfl, rfl, rfl⟩
theorem z8_57 : za 8 57 (.bipush (52)) 59 := ⟨rfl, rfl, rfl⟩
theorem z8_59 : za 8 59 (.newarray .int) 61 := ⟨rfl, rfl, rfl⟩
theorem z8_61 : za_p 8 61 0 4 64 := ⟨39, 8, .null, ⟨rfl, rfl, rfl⟩, rfl, Or.inr rfl⟩
theorem z8_64 : za 8 64 (.aload_n 0) 65 := ⟨rfl, rfl, rfl⟩
theorem z8_65 : za 8 65 (.iconst (-1)) 66 := ⟨rfl, rfl, rfl⟩
theorem z8_66 : za_p 8 66 0 5 69 := ⟨43, 0, .null, ⟨rfl, rfl, rfl⟩, rfl, Or.inl rfl⟩
theorem z8_69 : za 8 69 (.return_) 70 := ⟨rfl, rfl, rfl⟩
theorem z9_0 : za 9 0 (.iload_n 1) 1 := ⟨rfl, rfl, rfl⟩
theorem z9_1 : za 9 1 (.iconst 2) 2 := ⟨rfl, rfl, rfl⟩
theorem z9_2 : za 9 2 (.bipush (8)) 4 := ⟨rfl, rfl, rfl⟩
theorem z9_4 : za_s 9 4 25 3 7 := ⟨47, .null, ⟨rfl, rfl, rfl⟩, rfl⟩
theorem z9_7 : zb (.ifCond .eq) 9 7 42 10 := ⟨35, ⟨rfl, rfl, rfl⟩, rfl⟩
theorem z9_10 : za 9 10 (.iload_n 2) 11 := ⟨rfl, rfl, rfl⟩
theorem z9_11 : za 9 11 (.iconst 0) 12 := ⟨rfl, rfl, rfl⟩
theorem z9_12 : za 9 12 (.iconst 4) 13 := ⟨rfl, rfl, rfl⟩
theorem z9_13 : za_s 9 13 25 3 16 := ⟨47, .null, ⟨rfl, rfl, rfl⟩, rfl⟩
theorem z9_16 : zb (.ifCond .eq) 9 16 42 19 := ⟨26, ⟨rfl, rfl, rfl⟩, rfl⟩
theorem z9_19 : za 9 19 (.iload_n 3) 20 := ⟨rfl, rfl, rfl⟩
theorem z9_20 : za 9 20 (.iconst 0) 21 := ⟨rfl, rfl, rfl⟩
theorem z9_21 : za 9 21 (.iconst 2) 22 := ⟨rfl, rfl, rfl⟩
theorem z9_22 : za_s 9 22 25 3 25 := ⟨47, .null, ⟨rfl, rfl, rfl⟩, rfl⟩
theorem z9_25 : zb (.ifCond .eq) 9 25 42 28 := ⟨17, ⟨rfl, rfl, rfl⟩, rfl⟩
theorem z9_28 : za 9 28 (.iload 4) 30 := ⟨rfl, rfl, rfl⟩
theorem z9_30 : za 9 30 (.iconst 0) 31 := ⟨rfl, rfl, rfl⟩
theorem z9_31 : za 9 31 (.iconst 2) 32 := ⟨rfl, rfl, rfl⟩
theorem z9_32 : za_s 9 32 25 3 35 := ⟨47, .null, ⟨rfl, rfl, rfl⟩, rfl⟩
theorem z9_35 : zb (.ifCond .eq) 9 35 42 38 := ⟨7, ⟨rfl, rfl, rfl⟩, rfl⟩
theorem z9_38 : za 9 38 (.iconst 1) 39 := ⟨rfl, rfl, rfl⟩
theorem z9_39 : zb (.goto) 9 39 43 42 := ⟨4, ⟨rfl, rfl, rfl⟩, rfl⟩
theorem z9_42 : za 9 42 (.iconst 0) 43 := ⟨rfl, rfl, rfl⟩
theorem z9_43 : za 9 43 (.istore 5) 45 := ⟨rfl, rfl, rfl⟩
theorem z9_45 : za 9 45 (.iload 5) 47 := ⟨rfl, rfl, rfl⟩
theorem z9_47 : zb (.ifCond .ne) 9 47 52 50 := ⟨5, ⟨rfl, rfl, rfl⟩, rfl⟩
theorem z9_50 : za 9 50 (.iconst 0) 51 := ⟨rfl, rfl, rfl⟩
theorem z9_51 : za 9 51 (.ireturn) 52 := ⟨rfl, rfl, rfl⟩
theorem z9_52 : za 9 52 (.aload_n 0) 53 := ⟨rfl, rfl, rfl⟩
theorem z9_53 : za_f 9 53 0 0 56 := ⟨10, 9, .null, ⟨rfl, rfl, rfl⟩, rfl, Or.inr (Or.inr rfl)⟩
theorem z9_56 : za 9 56 (.iload_n 1) 57 := ⟨rfl, rfl, rfl⟩
theorem z9_57 : za_p 9 57 1 0 60 := ⟨51, 0, .null, ⟨rfl, rfl, rfl⟩, rfl, Or.inl rfl⟩
theorem z9_60 : za 9 60 (.aload_n 0) 61 := ⟨rfl, rfl, rfl⟩
theorem z9_61 : za_f 9 61 0 0 64 := ⟨10, 9, .null, ⟨rfl, rfl, rfl⟩, rfl, Or.inr (Or.inr rfl)⟩
theorem z9_64 : za 9 64 (.iload_n 2) 65 := ⟨rfl, rfl, rfl⟩
theorem z9_65 : za_p 9 65 1 1 68 := ⟨54, 0, .null, ⟨rfl, rfl, rfl⟩, rfl, Or.inl rfl⟩
theorem z9_68 : za 9 68 (.aload_n 0) 69 := ⟨rfl, rfl, rfl⟩
theorem z9_69 : za_f 9 69 0 0 72 := ⟨10, 9, .null, ⟨rfl, rfl, rfl⟩, rfl, Or.inr (Or.inr rfl)⟩
theorem z9_72 : za 9 72 (.iload_n 3) 73 := ⟨rfl, rfl, rfl⟩
theorem z9_73 : za_p 9 73 1 2 76 := ⟨57, 0, .null, ⟨rfl, rfl, rfl⟩, rfl, Or.inl rfl⟩
theorem z9_76 : za 9 76 (.aload_n 0) 77 := ⟨rfl, rfl, rfl⟩
theorem z9_77 : za_f 9 77 0 0 80 := ⟨10, 9, .null, ⟨rfl, rfl, rfl⟩, rfl, Or.inr (Or.inr rfl)⟩
theorem z9_80 : za 9 80 (.iload 4) 82 := ⟨rfl, rfl, rfl⟩
theorem z9_82 : za_p 9 82 1 3 85 := ⟨60, 0, .null, ⟨rfl, rfl, rfl⟩, rfl, Or.inl rfl⟩
theorem z9_85 : za 9 85 (.aload_n 0) 86 := ⟨rfl, rfl, rfl⟩
theorem z9_86 : za_v 9 86 12 0 0 89 := ⟨63, ⟨rfl, rfl, rfl⟩, rfl⟩
theorem z9_89 : za 9 89 (.iconst 1) 90 := ⟨rfl, rfl, rfl⟩
theorem z9_90 : za 9 90 (.ireturn) 91 := ⟨rfl, rfl, rfl⟩
theorem z10_0 : za 10 0 (.iload_n 1) 1 := ⟨rfl, rfl, rfl⟩
theorem z10_1 : za 10 1 (.iconst 1) 2 := ⟨rfl, rfl, rfl⟩
theorem z10_2 : za 10 2 (.iconst 4) 3 := ⟨rfl, rfl, rfl⟩
theorem z10_3 : za_s 10 3 25 3 6 := ⟨47, .null, ⟨rfl, rfl, rfl⟩, rfl⟩
theorem z10_6 : zb (.ifCond .eq) 10 6 19 9 := ⟨13, ⟨rfl, rfl, rfl⟩, rfl⟩
theorem z10_9 : za 10 9 (.iload_n 2) 10 := ⟨rfl, rfl, rfl⟩
theorem z10_10 : za 10 10 (.iconst 1) 11 := ⟨rfl, rfl, rfl⟩
theorem z10_11 : za 10 11 (.bipush (13)) 13 := ⟨rfl, rfl, rfl⟩
theorem z10_13 : za_s 10 13 25 3 16 := ⟨47, .null, ⟨rfl, rfl, rfl⟩, rfl⟩
theorem z10_16 : zb (.ifCond .ne) 10 16 21 19 := ⟨5, ⟨rfl, rfl, rfl⟩, rfl⟩
theorem z10_19 : za 10 19 (.iconst 0) 20 := ⟨rfl, rfl, rfl⟩
theorem z10_20 : za 10 20 (.ireturn) 21 := ⟨rfl, rfl, rfl⟩
theorem z10_21 : za 10 21 (.aload_n 0) 22 := ⟨rfl, rfl, rfl⟩
theorem z10_22 : za_f 10 22 0 0 25 := ⟨10, 9, .null, ⟨rfl, rfl, rfl⟩, rfl, Or.inr (Or.inr rfl)⟩
theorem z10_25 : za 10 25 (.iload_n 1) 26 := ⟨rfl, rfl, rfl⟩
theorem z10_26 : za_p 10 26 1 4 29 := ⟨66, 0, .null, ⟨rfl, rfl, rfl⟩, rfl, Or.inl rfl⟩
theorem z10_29 : za 10 29 (.aload_n 0) 30 := ⟨rfl, rfl, rfl⟩
theorem z10_30 : za_f 10 30 0 0 33 := ⟨10, 9, .null, ⟨rfl, rfl, rfl⟩, rfl, Or.inr (Or.inr rfl)⟩
theorem z10_33 : za 10 33 (.iload_n 2) 34 := ⟨rfl, rfl, rfl⟩
theorem z10_34 : za_p 10 34 1 5 37 := ⟨69, 0, .null, ⟨rfl, rfl, rfl⟩, rfl, Or.inl rfl⟩
theorem z10_37 : za 10 37 (.aload_n 0) 38 := ⟨rfl, rfl, rfl⟩
theorem z10_38 : za_v 10 38 12 0 0 41 := ⟨63, ⟨rfl, rfl, rfl⟩, rfl⟩
theorem z10_41 : za 10 41 (.iconst 1) 42 := ⟨rfl, rfl, rfl⟩
theorem z10_42 : za 10 42 (.ireturn) 43 := ⟨rfl, rfl, rfl⟩
theorem z11_0 : za 11 0 (.iload_n 1) 1 := ⟨rfl, rfl, rfl⟩
theorem z11_1 : za 11 1 (.iconst 0) 2 := ⟨rfl, rfl, rfl⟩
theorem z11_2 : za 11 2 (.sipush (32000)) 5 := ⟨rfl, rfl, rfl⟩
theorem z11_5 : za_s 11 5 25 3 8 := ⟨47, .null, ⟨rfl, rfl, rfl⟩, rfl⟩
theorem z11_8 : zb (.ifCond .ne) 11 8 21 11 := ⟨13, ⟨rfl, rfl, rfl⟩, rfl⟩
theorem z11_21 : za 11 21 (.aload_n 0) 22 := ⟨rfl, rfl, rfl⟩
theorem z11_22 : za_v 11 22 12 0 0 25 := ⟨63, ⟨rfl, rfl, rfl⟩, rfl⟩
theorem z11_25 : za 11 25 (.aload_n 0) 26 := ⟨rfl, rfl, rfl⟩
theorem z11_26 : za_f 11 26 0 0 29 := ⟨10, 9, .null, ⟨rfl, rfl, rfl⟩, rfl, Or.inr (Or.inr rfl)⟩
theorem z11_29 : za_v 11 29 32 0 1 32 := ⟨79, ⟨rfl, rfl, rfl⟩, rfl⟩
theorem z11_32 : za 11 32 (.istore_n 2) 33 := ⟨rfl, rfl, rfl⟩
theorem z11_33 : za 11 33 (.iconst 0) 34 := ⟨rfl, rfl, rfl⟩
theorem z11_34 : za 11 34 (.istore_n 3) 35 := ⟨rfl, rfl, rfl⟩
theorem z11_35 : za 11 35 (.iload_n 3) 36 := ⟨rfl, rfl, rfl⟩
theorem z11_36 : za 11 36 (.iload_n 2) 37 := ⟨rfl, rfl, rfl⟩
theorem z11_37 : zb (.if_icmp .ge) 11 37 53 40 := ⟨16, ⟨rfl, rfl, rfl⟩, rfl⟩
theorem z11_40 : za 11 40 (.aload_n 0) 41 := ⟨rfl, rfl, rfl⟩
theorem z11_41 : za_f 11 41 0 4 44 := ⟨39, 9, .null, ⟨rfl, rfl, rfl⟩, rfl, Or.inr (Or.inr rfl)⟩
theorem z11_44 : za 11 44 (.iload_n 3) 45 := ⟨rfl, rfl, rfl⟩
theorem z11_45 : za 11 45 (.iload_n 3) 46 := ⟨rfl, rfl, rfl⟩
theorem z11_46 : za 11 46 (.iastore) 47 := ⟨rfl, rfl, rfl⟩
theorem z11_47 : za 11 47 (.iinc 3 (1)) 50 := ⟨rfl, rfl, rfl⟩
theorem z11_50 : zb (.goto) 11 50 35 53 := ⟨(-15), ⟨rfl, rfl, rfl⟩, rfl⟩
theorem z11_53 : za 11 53 (.iload_n 1) 54 := ⟨rfl, rfl, rfl⟩
theorem z11_54 : za 11 54 (.istore_n 3) 55 := ⟨rfl, rfl, rfl⟩
theorem z11_55 : za 11 55 (.iconst 0) 56 := ⟨rfl, rfl, rfl⟩
theorem z11_56 : za 11 56 (.istore 4) 58 := ⟨rfl, rfl, rfl⟩
theorem z11_58 : za 11 58 (.iload 4) 60 := ⟨rfl, rfl, rfl⟩
theorem z11_60 : za 11 60 (.iload_n 2) 61 := ⟨rfl, rfl, rfl⟩
theorem z11_61 : zb (.if_icmp .ge) 11 61 136 64 := ⟨75, ⟨rfl, rfl, rfl⟩, rfl⟩
theorem z11_64 : za 11 64 (.iload_n 2) 65 := ⟨rfl, rfl, rfl⟩
theorem z11_65 : za 11 65 (.iload 4) 67 := ⟨rfl, rfl, rfl⟩
theorem z11_67 : za 11 67 (.isub) 68 := ⟨rfl, rfl, rfl⟩
theorem z11_68 : za 11 68 (.istore 5) 70 := ⟨rfl, rfl, rfl⟩
theorem z11_70 : za_c 11 70 72 (214013) := ⟨83, 0, 0, ⟨rfl, rfl, rfl⟩, rfl⟩
theorem z11_72 : za 11 72 (.iload_n 3) 73 := ⟨rfl, rfl, rfl⟩
theorem z11_73 : za 11 73 (.imul) 74 := ⟨rfl, rfl, rfl⟩
theorem z11_74 : za_c 11 74 76 (2531011) := ⟨84, 0, 0, ⟨rfl, rfl, rfl⟩, rfl⟩
theorem z11_76 : za 11 76 (.iadd) 77 := ⟨rfl, rfl, rfl⟩
theorem z11_77 : za_c 11 77 79 (2147483647) := ⟨85, 0, 0, ⟨rfl, rfl, rfl⟩, rfl⟩
theorem z11_79 : za 11 79 (.iand) 80 := ⟨rfl, rfl, rfl⟩
theorem z11_80 : za 11 80 (.istore_n 3) 81 := ⟨rfl, rfl, rfl⟩
theorem z11_81 : za 11 81 (.iload_n 3) 82 := ⟨rfl, rfl, rfl⟩
theorem z11_82 : za_c 11 82 84 (65536) := ⟨86, 0, 0, ⟨rfl, rfl, rfl⟩, rfl⟩
theorem z11_84 : za 11 84 (.idiv) 85 := ⟨rfl, rfl, rfl⟩
theorem z11_85 : za 11 85 (.iload 5) 87 := ⟨rfl, rfl, rfl⟩
theorem z11_87 : za 11 87 (.irem) 88 := ⟨rfl, rfl, rfl⟩
theorem z11_88 : za 11 88 (.istore 6) 90 := ⟨rfl, rfl, rfl⟩
theorem z11_90 : za 11 90 (.aload_n 0) 91 := ⟨rfl, rfl, rfl⟩
theorem z11_91 : za_f 11 91 0 1 94 := ⟨21, 9, .null, ⟨rfl, rfl, rfl⟩, rfl, Or.inr (Or.inr rfl)⟩
theorem z11_94 : za 11 94 (.iload 4) 96 := ⟨rfl, rfl, rfl⟩
theorem z11_96 : za 11 96 (.aload_n 0) 97 := ⟨rfl, rfl, rfl⟩
theorem z11_97 : za_f 11 97 0 0 100 := ⟨10, 9, .null, ⟨rfl, rfl, rfl⟩, rfl, Or.inr (Or.inr rfl)⟩
theorem z11_100 : za_f 11 100 1 0 103 := ⟨51, 0, .null, ⟨rfl, rfl, rfl⟩, rfl, Or.inl rfl⟩
theorem z11_103 : za 11 103 (.irem) 104 := ⟨rfl, rfl, rfl⟩
theorem z11_104 : za 11 104 (.aload_n 0) 105 := ⟨rfl, rfl, rfl⟩
theorem z11_105 : za_f 11 105 0 4 108 := ⟨39, 9, .null, ⟨rfl, rfl, rfl⟩, rfl, Or.inr (Or.inr rfl)⟩
theorem z11_108 : za 11 108 (.iload 6) 110 := ⟨rfl, rfl, rfl⟩
theorem z11_110 : za 11 110 (.iaload) 111 := ⟨rfl, rfl, rfl⟩
theorem z11_111 : za_v 11 111 45 2 2 114 := ⟨87, ⟨rfl, rfl, rfl⟩, rfl⟩
theorem z11_114 : za 11 114 (.aload_n 0) 115 := ⟨rfl, rfl, rfl⟩
theorem z11_115 : za_f 11 115 0 4 118 := ⟨39, 9, .null, ⟨rfl, rfl, rfl⟩, rfl, Or.inr (Or.inr rfl)⟩
theorem z11_118 : za 11 118 (.iload 6) 120 := ⟨rfl, rfl, rfl⟩
theorem z11_120 : za 11 120 (.aload_n 0) 121 := ⟨rfl, rfl, rfl⟩
theorem z11_121 : za_f 11 121 0 4 124 := ⟨39, 9, .null, ⟨rfl, rfl, rfl⟩, rfl, Or.inr (Or.inr rfl)⟩
theorem z11_124 : za 11 124 (.iload 5) 126 := ⟨rfl, rfl, rfl⟩
theorem z11_126 : za 11 126 (.iconst 1) 127 := ⟨rfl, rfl, rfl⟩
theorem z11_127 : za 11 127 (.isub) 128 := ⟨rfl, rfl, rfl⟩
theorem z11_128 : za 11 128 (.iaload) 129 := ⟨rfl, rfl, rfl⟩
theorem z11_129 : za 11 129 (.iastore) 130 := ⟨rfl, rfl, rfl⟩
theorem z11_130 : za 11 130 (.iinc 4 (1)) 133 := ⟨rfl, rfl, rfl⟩
theorem z11_133 : zb (.goto) 11 133 58 136 := ⟨(-75), ⟨rfl, rfl, rfl⟩, rfl⟩
theorem z11_136 : za 11 136 (.return_) 137 := ⟨rfl, rfl, rfl⟩
theorem z12_0 : za 12 0 (.aload_n 0) 1 := ⟨rfl, rfl, rfl⟩
theorem z12_1 : za_f 12 1 0 1 4 := ⟨21, 9, .null, ⟨rfl, rfl, rfl⟩, rfl, Or.inr (Or.inr rfl)⟩
theorem z12_4 : za_v 12 4 40 0 2 7 := ⟨91, ⟨rfl, rfl, rfl⟩, rfl⟩
theorem z12_7 : za 12 7 (.aload_n 0) 8 := ⟨rfl, rfl, rfl⟩
theorem z12_8 : za_f 12 8 0 2 11 := ⟨28, 9, .null, ⟨rfl, rfl, rfl⟩, rfl, Or.inr (Or.inr rfl)⟩
theorem z12_11 : za_v 12 11 64 0 3 14 := ⟨94, ⟨rfl, rfl, rfl⟩, rfl⟩
theorem z12_14 : za 12 14 (.aload_n 0) 15 := ⟨rfl, rfl, rfl⟩
theorem z12_15 : za 12 15 (.iconst (-1)) 16 := ⟨rfl, rfl, rfl⟩
theorem z12_16 : za_p 12 16 0 5 19 := ⟨43, 0, .null, ⟨rfl, rfl, rfl⟩, rfl, Or.inl rfl⟩
theorem z12_19 : za 12 19 (.return_) 20 := ⟨rfl, rfl, rfl⟩
theorem z13_0 : za 13 0 (.aload_n 0) 1 := ⟨rfl, rfl, rfl⟩
theorem z13_1 : za_f 13 1 0 0 4 := ⟨10, 9, .null, ⟨rfl, rfl, rfl⟩, rfl, Or.inr (Or.inr rfl)⟩
theorem z13_4 : za 13 4 (.iload_n 1) 5 := ⟨rfl, rfl, rfl⟩
theorem z13_5 : za_v 13 5 29 1 1 8 := ⟨97, ⟨rfl, rfl, rfl⟩, rfl⟩
theorem z13_8 : zb (.ifCond .eq) 13 8 22 11 := ⟨14, ⟨rfl, rfl, rfl⟩, rfl⟩
theorem z13_11 : za 13 11 (.aload_n 0) 12 := ⟨rfl, rfl, rfl⟩
theorem z13_12 : za_f 13 12 0 0 15 := ⟨10, 9, .null, ⟨rfl, rfl, rfl⟩, rfl, Or.inr (Or.inr rfl)⟩
theorem z13_15 : za 13 15 (.iload_n 2) 16 := ⟨rfl, rfl, rfl⟩
theorem z13_16 : za_v 13 16 33 1 1 19 := ⟨101, ⟨rfl, rfl, rfl⟩, rfl⟩
theorem z13_19 : zb (.ifCond .ne) 13 19 32 22 := ⟨13, ⟨rfl, rfl, rfl⟩, rfl⟩
theorem z13_32 : za 13 32 (.aload_n 0) 33 := ⟨rfl, rfl, rfl⟩
theorem z13_33 : za_f 13 33 0 1 36 := ⟨21, 9, .null, ⟨rfl, rfl, rfl⟩, rfl, Or.inr (Or.inr rfl)⟩
theorem z13_36 : za 13 36 (.iload_n 2) 37 := ⟨rfl, rfl, rfl⟩
theorem z13_37 : za_v 13 37 42 1 2 40 := ⟨106, ⟨rfl, rfl, rfl⟩, rfl⟩
theorem z13_40 : zb (.ifCond .eq) 13 40 53 43 := ⟨13, ⟨rfl, rfl, rfl⟩, rfl⟩
theorem z13_53 : za 13 53 (.aload_n 0) 54 := ⟨rfl, rfl, rfl⟩
theorem z13_54 : za_f 13 54 0 1 57 := ⟨21, 9, .null, ⟨rfl, rfl, rfl⟩, rfl, Or.inr (Or.inr rfl)⟩
theorem z13_57 : za 13 57 (.iload_n 1) 58 := ⟨rfl, rfl, rfl⟩
theorem z13_58 : za 13 58 (.iload_n 2) 59 := ⟨rfl, rfl, rfl⟩
theorem z13_59 : za_v 13 59 45 2 2 62 := ⟨87, ⟨rfl, rfl, rfl⟩, rfl⟩
theorem z13_62 : za 13 62 (.aload_n 0) 63 := ⟨rfl, rfl, rfl⟩
theorem z13_63 : za 13 63 (.iconst (-1)) 64 := ⟨rfl, rfl, rfl⟩
theorem z13_64 : za_p 13 64 0 5 67 := ⟨43, 0, .null, ⟨rfl, rfl, rfl⟩, rfl, Or.inl rfl⟩
theorem z13_67 : za 13 67 (.aload_n 0) 68 := ⟨rfl, rfl, rfl⟩
theorem z13_68 : za_f 13 68 0 1 71 := ⟨21, 9, .null, ⟨rfl, rfl, rfl⟩, rfl, Or.inr (Or.inr rfl)⟩
theorem z13_71 : za_f 13 71 2 4 74 := ⟨114, 0, .null, ⟨rfl, rfl, rfl⟩, rfl, Or.inl rfl⟩
theorem z13_74 : za 13 74 (.ireturn) 75 := ⟨rfl, rfl, rfl⟩
theorem z14_0 : za 14 0 (.aload_n 0) 1 := ⟨rfl, rfl, rfl⟩
theorem z14_1 : za_f 14 1 0 0 4 := ⟨10, 9, .null, ⟨rfl, rfl, rfl⟩, rfl, Or.inr (Or.inr rfl)⟩
theorem z14_4 : za 14 4 (.iload_n 1) 5 := ⟨rfl, rfl, rfl⟩
theorem z14_5 : za_v 14 5 31 1 1 8 := ⟨117, ⟨rfl, rfl, rfl⟩, rfl⟩
theorem z14_8 : zb (.ifCond .eq) 14 8 33 11 := ⟨25, ⟨rfl, rfl, rfl⟩, rfl⟩
theorem z14_11 : za 14 11 (.aload_n 0) 12 := ⟨rfl, rfl, rfl⟩
theorem z14_12 : za_f 14 12 0 0 15 := ⟨10, 9, .null, ⟨rfl, rfl, rfl⟩, rfl, Or.inr (Or.inr rfl)⟩
theorem z14_15 : za 14 15 (.iload_n 2) 16 := ⟨rfl, rfl, rfl⟩
theorem z14_16 : za_v 14 16 31 1 1 19 := ⟨117, ⟨rfl, rfl, rfl⟩, rfl⟩
theorem z14_19 : zb (.ifCond .eq) 14 19 33 22 := ⟨14, ⟨rfl, rfl, rfl⟩, rfl⟩
theorem z14_22 : za 14 22 (.iload_n 1) 23 := ⟨rfl, rfl, rfl⟩
theorem z14_23 : za 14 23 (.bipush (12)) 25 := ⟨rfl, rfl, rfl⟩
theorem z14_25 : zb (.if_icmp .eq) 14 25 33 28 := ⟨8, ⟨rfl, rfl, rfl⟩, rfl⟩
theorem z14_28 : za 14 28 (.iload_n 3) 29 := ⟨rfl, rfl, rfl⟩
theorem z14_29 : za 14 29 (.iconst 1) 30 := ⟨rfl, rfl, rfl⟩
theorem z14_30 : zb (.if_icmp .ge) 14 30 43 33 := ⟨13, ⟨rfl, rfl, rfl⟩, rfl⟩
theorem z14_43 : za 14 43 (.aload_n 0) 44 := ⟨rfl, rfl, rfl⟩
theorem z14_44 : za_f 14 44 0 1 47 := ⟨21, 9, .null, ⟨rfl, rfl, rfl⟩, rfl, Or.inr (Or.inr rfl)⟩
theorem z14_47 : za_v 14 47 43 0 2 50 := ⟨122, ⟨rfl, rfl, rfl⟩, rfl⟩
theorem z14_50 : zb (.ifCond .eq) 14 50 66 53 := ⟨16, ⟨rfl, rfl, rfl⟩, rfl⟩
theorem z14_53 : za 14 53 (.aload_n 0) 54 := ⟨rfl, rfl, rfl⟩
theorem z14_54 : za_f 14 54 0 1 57 := ⟨21, 9, .null, ⟨rfl, rfl, rfl⟩, rfl, Or.inr (Or.inr rfl)⟩
theorem z14_57 : za 14 57 (.iload_n 1) 58 := ⟨rfl, rfl, rfl⟩
theorem z14_58 : za 14 58 (.iload_n 2) 59 := ⟨rfl, rfl, rfl⟩
theorem z14_59 : za 14 59 (.iload_n 3) 60 := ⟨rfl, rfl, rfl⟩
theorem z14_60 : za_v 14 60 49 3 2 63 := ⟨126, ⟨rfl, rfl, rfl⟩, rfl⟩
theorem z14_63 : zb (.ifCond .ne) 14 63 76 66 := ⟨13, ⟨rfl, rfl, rfl⟩, rfl⟩
theorem z14_76 : za 14 76 (.aload_n 0) 77 := ⟨rfl, rfl, rfl⟩
theorem z14_77 : za 14 77 (.iload_n 1) 78 := ⟨rfl, rfl, rfl⟩
theorem z14_78 : za 14 78 (.iload_n 2) 79 := ⟨rfl, rfl, rfl⟩
theorem z14_79 : za 14 79 (.iload_n 3) 80 := ⟨rfl, rfl, rfl⟩
theorem z14_80 : za_v 14 80 27 3 0 83 := ⟨131, ⟨rfl, rfl, rfl⟩, rfl⟩
theorem z14_83 : za 14 83 (.aload_n 0) 84 := ⟨rfl, rfl, rfl⟩
theorem z14_84 : za_f 14 84 0 1 87 := ⟨21, 9, .null, ⟨rfl, rfl, rfl⟩, rfl, Or.inr (Or.inr rfl)⟩
theorem z14_87 : za_f 14 87 2 5 90 := ⟨135, 0, .null, ⟨rfl, rfl, rfl⟩, rfl, Or.inl rfl⟩
theorem z14_90 : za 14 90 (.ireturn) 91 := ⟨rfl, rfl, rfl⟩
theorem z15_0 : za 15 0 (.iload_n 1) 1 := ⟨rfl, rfl, rfl⟩
theorem z15_1 : za_s 15 1 26 1 4 := ⟨138, .null, ⟨rfl, rfl, rfl⟩, rfl⟩
theorem z15_4 : za 15 4 (.istore_n 3) 5 := ⟨rfl, rfl, rfl⟩
theorem z15_5 : za 15 5 (.iload_n 2) 6 := ⟨rfl, rfl, rfl⟩
theorem z15_6 : za_s 15 6 26 1 9 := ⟨138, .null, ⟨rfl, rfl, rfl⟩, rfl⟩
theorem z15_9 : za 15 9 (.istore 4) 11 := ⟨rfl, rfl, rfl⟩
theorem z15_11 : za 15 11 (.aload_n 0) 12 := ⟨rfl, rfl, rfl⟩
theorem z15_12 : za_f 15 12 0 0 15 := ⟨10, 9, .null, ⟨rfl, rfl, rfl⟩, rfl, Or.inr (Or.inr rfl)⟩
theorem z15_15 : za 15 15 (.iload_n 3) 16 := ⟨rfl, rfl, rfl⟩
theorem z15_16 : za_v 15 16 31 1 1 19 := ⟨117, ⟨rfl, rfl, rfl⟩, rfl⟩
theorem z15_19 : zb (.ifCond .eq) 15 19 40 22 := ⟨21, ⟨rfl, rfl, rfl⟩, rfl⟩
theorem z15_22 : za 15 22 (.aload_n 0) 23 := ⟨rfl, rfl, rfl⟩
theorem z15_23 : za_f 15 23 0 0 26 := ⟨10, 9, .null, ⟨rfl, rfl, rfl⟩, rfl, Or.inr (Or.inr rfl)⟩
theorem z15_26 : za 15 26 (.iload 4) 28 := ⟨rfl, rfl, rfl⟩
theorem z15_28 : za_v 15 28 31 1 1 31 := ⟨117, ⟨rfl, rfl, rfl⟩, rfl⟩
theorem z15_31 : zb (.ifCond .eq) 15 31 40 34 := ⟨9, ⟨rfl, rfl, rfl⟩, rfl⟩
theorem z15_34 : za 15 34 (.iload_n 3) 35 := ⟨rfl, rfl, rfl⟩
theorem z15_35 : za 15 35 (.bipush (12)) 37 := ⟨rfl, rfl, rfl⟩
theorem z15_37 : zb (.if_icmp .ne) 15 37 50 40 := ⟨13, ⟨rfl, rfl, rfl⟩, rfl⟩
theorem z15_50 : za 15 50 (.aload_n 0) 51 := ⟨rfl, rfl, rfl⟩
theorem z15_51 : za_f 15 51 0 0 54 := ⟨10, 9, .null, ⟨rfl, rfl, rfl⟩, rfl, Or.inr (Or.inr rfl)⟩
theorem z15_54 : za 15 54 (.iload_n 3) 55 := ⟨rfl, rfl, rfl⟩
theorem z15_55 : za_v 15 55 29 1 1 58 := ⟨97, ⟨rfl, rfl, rfl⟩, rfl⟩
theorem z15_58 : zb (.ifCond .eq) 15 58 86 61 := ⟨28, ⟨rfl, rfl, rfl⟩, rfl⟩
theorem z15_61 : za 15 61 (.aload_n 0) 62 := ⟨rfl, rfl, rfl⟩
theorem z15_62 : za_f 15 62 0 0 65 := ⟨10, 9, .null, ⟨rfl, rfl, rfl⟩, rfl, Or.inr (Or.inr rfl)⟩
theorem z15_65 : za 15 65 (.iload 4) 67 := ⟨rfl, rfl, rfl⟩
theorem z15_67 : za_v 15 67 29 1 1 70 := ⟨97, ⟨rfl, rfl, rfl⟩, rfl⟩
theorem z15_70 : zb (.ifCond .eq) 15 70 86 73 := ⟨16, ⟨rfl, rfl, rfl⟩, rfl⟩
theorem z15_73 : za 15 73 (.aload_n 0) 74 := ⟨rfl, rfl, rfl⟩
theorem z15_74 : za_f 15 74 0 1 77 := ⟨21, 9, .null, ⟨rfl, rfl, rfl⟩, rfl, Or.inr (Or.inr rfl)⟩
theorem z15_77 : za 15 77 (.iload_n 3) 78 := ⟨rfl, rfl, rfl⟩
theorem z15_78 : za 15 78 (.iload 4) 80 := ⟨rfl, rfl, rfl⟩
theorem z15_80 : za_v 15 80 56 2 2 83 := ⟨142, ⟨rfl, rfl, rfl⟩, rfl⟩
theorem z15_83 : zb (.goto) 15 83 87 86 := ⟨4, ⟨rfl, rfl, rfl⟩, rfl⟩
theorem z15_86 : za 15 86 (.iconst 1) 87 := ⟨rfl, rfl, rfl⟩
theorem z15_87 : za 15 87 (.istore 5) 89 := ⟨rfl, rfl, rfl⟩
theorem z15_89 : za 15 89 (.aload_n 0) 90 := ⟨rfl, rfl, rfl⟩
theorem z15_90 : za_f 15 90 0 1 93 := ⟨21, 9, .null, ⟨rfl, rfl, rfl⟩, rfl, Or.inr (Or.inr rfl)⟩
theorem z15_93 : za_v 15 93 43 0 2 96 := ⟨122, ⟨rfl, rfl, rfl⟩, rfl⟩
theorem z15_96 : zb (.ifCond .eq) 15 96 114 99 := ⟨18, ⟨rfl, rfl, rfl⟩, rfl⟩
theorem z15_99 : za 15 99 (.aload_n 0) 100 := ⟨rfl, rfl, rfl⟩
theorem z15_100 : za_f 15 100 0 1 103 := ⟨21, 9, .null, ⟨rfl, rfl, rfl⟩, rfl, Or.inr (Or.inr rfl)⟩
theorem z15_103 : za 15 103 (.iload_n 3) 104 := ⟨rfl, rfl, rfl⟩
theorem z15_104 : za 15 104 (.iload 4) 106 := ⟨rfl, rfl, rfl⟩
theorem z15_106 : za 15 106 (.iload 5) 108 := ⟨rfl, rfl, rfl⟩
theorem z15_108 : za_v 15 108 49 3 2 111 := ⟨126, ⟨rfl, rfl, rfl⟩, rfl⟩
theorem z15_111 : zb (.ifCond .ne) 15 111 124 114 := ⟨13, ⟨rfl, rfl, rfl⟩, rfl⟩
theorem z15_124 : za 15 124 (.aload_n 0) 125 := ⟨rfl, rfl, rfl⟩
theorem z15_125 : za 15 125 (.iload_n 3) 126 := ⟨rfl, rfl, rfl⟩
theorem z15_126 : za 15 126 (.iload 4) 128 := ⟨rfl, rfl, rfl⟩
theorem z15_128 : za 15 128 (.iload 5) 130 := ⟨rfl, rfl, rfl⟩
theorem z15_130 : za_v 15 130 27 3 0 133 := ⟨131, ⟨rfl, rfl, rfl⟩, rfl⟩
theorem z15_133 : za 15 133 (.iload 5) 135 := ⟨rfl, rfl, rfl⟩
theorem z15_135 : za 15 135 (.ireturn) 136 := ⟨rfl, rfl, rfl⟩
theorem z16_0 : za 16 0 (.aload_n 0) 1 := ⟨rfl, rfl, rfl⟩
theorem z16_1 : za_f 16 1 0 1 4 := ⟨21, 9, .null, ⟨rfl, rfl, rfl⟩, rfl, Or.inr (Or.inr rfl)⟩
theorem z16_4 : za_v 16 4 43 0 2 7 := ⟨122, ⟨rfl, rfl, rfl⟩, rfl⟩
theorem z16_7 : zb (.ifCond .ne) 16 7 20 10 := ⟨13, ⟨rfl, rfl, rfl⟩, rfl⟩
theorem z16_20 : za 16 20 (.iconst 0) 21 := ⟨rfl, rfl, rfl⟩
theorem z16_21 : za 16 21 (.istore_n 1) 22 := ⟨rfl, rfl, rfl⟩
theorem z16_22 : za 16 22 (.iload_n 1) 23 := ⟨rfl, rfl, rfl⟩
theorem z16_23 : za 16 23 (.bipush (52)) 25 := ⟨rfl, rfl, rfl⟩
theorem z16_25 : zb (.if_icmp .ge) 16 25 57 28 := ⟨32, ⟨rfl, rfl, rfl⟩, rfl⟩
theorem z16_28 : za 16 28 (.aload_n 0) 29 := ⟨rfl, rfl, rfl⟩
theorem z16_29 : za_f 16 29 0 1 32 := ⟨21, 9, .null, ⟨rfl, rfl, rfl⟩, rfl, Or.inr (Or.inr rfl)⟩
theorem z16_32 : za_v 16 32 58 0 2 35 := ⟨148, ⟨rfl, rfl, rfl⟩, rfl⟩
theorem z16_35 : za 16 35 (.istore_n 2) 36 := ⟨rfl, rfl, rfl⟩
theorem z16_36 : za 16 36 (.iload_n 2) 37 := ⟨rfl, rfl, rfl⟩
theorem z16_37 : za 16 37 (.iconst (-1)) 38 := ⟨rfl, rfl, rfl⟩
theorem z16_38 : zb (.if_icmp .ne) 16 38 43 41 := ⟨5, ⟨rfl, rfl, rfl⟩, rfl⟩
theorem z16_41 : za 16 41 (.iload_n 1) 42 := ⟨rfl, rfl, rfl⟩
theorem z16_42 : za 16 42 (.ireturn) 43 := ⟨rfl, rfl, rfl⟩
theorem z16_43 : za 16 43 (.aload_n 0) 44 := ⟨rfl, rfl, rfl⟩
theorem z16_44 : za 16 44 (.iload_n 2) 45 := ⟨rfl, rfl, rfl⟩
theorem z16_45 : za 16 45 (.bipush (12)) 47 := ⟨rfl, rfl, rfl⟩
theorem z16_47 : za 16 47 (.iconst 1) 48 := ⟨rfl, rfl, rfl⟩
theorem z16_48 : za_v 16 48 27 3 0 51 := ⟨131, ⟨rfl, rfl, rfl⟩, rfl⟩
theorem z16_51 : za 16 51 (.iinc 1 (1)) 54 := ⟨rfl, rfl, rfl⟩
theorem z16_54 : zb (.goto) 16 54 22 57 := ⟨(-32), ⟨rfl, rfl, rfl⟩, rfl⟩
theorem z16_57 : za 16 57 (.bipush (52)) 59 := ⟨rfl, rfl, rfl⟩
theorem z16_59 : za 16 59 (.ireturn) 60 := ⟨rfl, rfl, rfl⟩
theorem z17_0 : za 17 0 (.aload_n 0) 1 := ⟨rfl, rfl, rfl⟩
theorem z17_1 : za_f 17 1 0 2 4 := ⟨28, 9, .null, ⟨rfl, rfl, rfl⟩, rfl, Or.inr (Or.inr rfl)⟩
theorem z17_4 : za_f 17 4 3 5 7 := ⟨151, 0, .null, ⟨rfl, rfl, rfl⟩, rfl, Or.inl rfl⟩
theorem z17_7 : zb (.ifCond .ne) 17 7 20 10 := ⟨13, ⟨rfl, rfl, rfl⟩, rfl⟩
theorem z17_20 : za 17 20 (.aload_n 0) 21 := ⟨rfl, rfl, rfl⟩
theorem z17_21 : za_f 17 21 0 2 24 := ⟨28, 9, .null, ⟨rfl, rfl, rfl⟩, rfl, Or.inr (Or.inr rfl)⟩
theorem z17_24 : za_v 17 24 66 0 3 27 := ⟨159, ⟨rfl, rfl, rfl⟩, rfl⟩
theorem z17_27 : za 17 27 (.istore_n 1) 28 := ⟨rfl, rfl, rfl⟩
theorem z17_28 : za 17 28 (.aload_n 0) 29 := ⟨rfl, rfl, rfl⟩
theorem z17_29 : za_f 17 29 0 1 32 := ⟨21, 9, .null, ⟨rfl, rfl, rfl⟩, rfl, Or.inr (Or.inr rfl)⟩
theorem z17_32 : za 17 32 (.aload_n 0) 33 := ⟨rfl, rfl, rfl⟩
theorem z17_33 : za_f 17 33 0 2 36 := ⟨28, 9, .null, ⟨rfl, rfl, rfl⟩, rfl, Or.inr (Or.inr rfl)⟩
theorem z17_36 : za_f 17 36 3 0 39 := ⟨162, 9, .null, ⟨rfl, rfl, rfl⟩, rfl, Or.inr (Or.inr rfl)⟩
theorem z17_39 : za 17 39 (.iload_n 1) 40 := ⟨rfl, rfl, rfl⟩
theorem z17_40 : za 17 40 (.iaload) 41 := ⟨rfl, rfl, rfl⟩
theorem z17_41 : za 17 41 (.aload_n 0) 42 := ⟨rfl, rfl, rfl⟩
theorem z17_42 : za_f 17 42 0 2 45 := ⟨28, 9, .null, ⟨rfl, rfl, rfl⟩, rfl, Or.inr (Or.inr rfl)⟩
theorem z17_45 : za_f 17 45 3 2 48 := ⟨165, 9, .null, ⟨rfl, rfl, rfl⟩, rfl, Or.inr (Or.inr rfl)⟩
theorem z17_48 : za 17 48 (.iload_n 1) 49 := ⟨rfl, rfl, rfl⟩
theorem z17_49 : za 17 49 (.iaload) 50 := ⟨rfl, rfl, rfl⟩
theorem z17_50 : za 17 50 (.aload_n 0) 51 := ⟨rfl, rfl, rfl⟩
theorem z17_51 : za_f 17 51 0 2 54 := ⟨28, 9, .null, ⟨rfl, rfl, rfl⟩, rfl, Or.inr (Or.inr rfl)⟩
theorem z17_54 : za_f 17 54 3 1 57 := ⟨168, 9, .null, ⟨rfl, rfl, rfl⟩, rfl, Or.inr (Or.inr rfl)⟩
theorem z17_57 : za 17 57 (.iload_n 1) 58 := ⟨rfl, rfl, rfl⟩
theorem z17_58 : za 17 58 (.iaload) 59 := ⟨rfl, rfl, rfl⟩
theorem z17_59 : za_v 17 59 62 3 2 62 := ⟨171, ⟨rfl, rfl, rfl⟩, rfl⟩
theorem z17_62 : za 17 62 (.aload_n 0) 63 := ⟨rfl, rfl, rfl⟩
theorem z17_63 : za 17 63 (.iconst (-1)) 64 := ⟨rfl, rfl, rfl⟩
theorem z17_64 : za_p 17 64 0 5 67 := ⟨43, 0, .null, ⟨rfl, rfl, rfl⟩, rfl, Or.inl rfl⟩
theorem z17_67 : za 17 67 (.aload_n 0) 68 := ⟨rfl, rfl, rfl⟩
theorem z17_68 : za_f 17 68 0 2 71 := ⟨28, 9, .null, ⟨rfl, rfl, rfl⟩, rfl, Or.inr (Or.inr rfl)⟩
theorem z17_71 : za_f 17 71 3 3 74 := ⟨174, 9, .null, ⟨rfl, rfl, rfl⟩, rfl, Or.inr (Or.inr rfl)⟩
theorem z17_74 : za 17 74 (.iload_n 1) 75 := ⟨rfl, rfl, rfl⟩
theorem z17_75 : za 17 75 (.iaload) 76 := ⟨rfl, rfl, rfl⟩
theorem z17_76 : za 17 76 (.ireturn) 77 := ⟨rfl, rfl, rfl⟩
theorem z18_0 : za 18 0 (.aload_n 0) 1 := ⟨rfl, rfl, rfl⟩
theorem z18_1 : za_f 18 1 0 2 4 := ⟨28, 9, .null, ⟨rfl, rfl, rfl⟩, rfl, Or.inr (Or.inr rfl)⟩
theorem z18_4 : za_f 18 4 3 5 7 := ⟨151, 0, .null, ⟨rfl, rfl, rfl⟩, rfl, Or.inl rfl⟩
theorem z18_7 : za 18 7 (.ireturn) 8 := ⟨rfl, rfl, rfl⟩
theorem z19_0 : za 19 0 (.aload_n 0) 1 := ⟨rfl, rfl, rfl⟩
theorem z19_1 : za_f 19 1 0 0 4 := ⟨10, 9, .null, ⟨rfl, rfl, rfl⟩, rfl, Or.inr (Or.inr rfl)⟩
theorem z19_4 : za 19 4 (.iload_n 1) 5 := ⟨rfl, rfl, rfl⟩
theorem z19_5 : za_v 19 5 31 1 1 8 := ⟨117, ⟨rfl, rfl, rfl⟩, rfl⟩
theorem z19_8 : zb (.ifCond .eq) 19 8 15 11 := ⟨7, ⟨rfl, rfl, rfl⟩, rfl⟩
theorem z19_11 : za 19 11 (.iload_n 2) 12 := ⟨rfl, rfl, rfl⟩
theorem z19_12 : zb (.ifCond .ge) 19 12 17 15 := ⟨5, ⟨rfl, rfl, rfl⟩, rfl⟩
theorem z19_15 : za 19 15 (.iconst (-1)) 16 := ⟨rfl, rfl, rfl⟩
theorem z19_16 : za 19 16 (.ireturn) 17 := ⟨rfl, rfl, rfl⟩
theorem z19_17 : za 19 17 (.iload_n 1) 18 := ⟨rfl, rfl, rfl⟩
theorem z19_18 : za 19 18 (.bipush (12)) 20 := ⟨rfl, rfl, rfl⟩
theorem z19_20 : zb (.if_icmp .ne) 19 20 34 23 := ⟨14, ⟨rfl, rfl, rfl⟩, rfl⟩
theorem z19_23 : za 19 23 (.aload_n 0) 24 := ⟨rfl, rfl, rfl⟩
theorem z19_24 : za_f 19 24 0 1 27 := ⟨21, 9, .null, ⟨rfl, rfl, rfl⟩, rfl, Or.inr (Or.inr rfl)⟩
theorem z19_27 : za 19 27 (.iload_n 2) 28 := ⟨rfl, rfl, rfl⟩
theorem z19_28 : za_v 19 28 48 1 2 31 := ⟨177, ⟨rfl, rfl, rfl⟩, rfl⟩
theorem z19_31 : zb (.goto) 19 31 54 34 := ⟨23, ⟨rfl, rfl, rfl⟩, rfl⟩
theorem z19_34 : za 19 34 (.aload_n 0) 35 := ⟨rfl, rfl, rfl⟩
theorem z19_35 : za_f 19 35 0 1 38 := ⟨21, 9, .null, ⟨rfl, rfl, rfl⟩, rfl, Or.inr (Or.inr rfl)⟩
theorem z19_38 : za 19 38 (.iload_n 1) 39 := ⟨rfl, rfl, rfl⟩
theorem z19_39 : za 19 39 (.aload_n 0) 40 := ⟨rfl, rfl, rfl⟩
theorem z19_40 : za_f 19 40 0 1 43 := ⟨21, 9, .null, ⟨rfl, rfl, rfl⟩, rfl, Or.inr (Or.inr rfl)⟩
theorem z19_43 : za 19 43 (.iload_n 1) 44 := ⟨rfl, rfl, rfl⟩
theorem z19_44 : za_v 19 44 46 1 2 47 := ⟨181, ⟨rfl, rfl, rfl⟩, rfl⟩
theorem z19_47 : za 19 47 (.iconst 1) 48 := ⟨rfl, rfl, rfl⟩
theorem z19_48 : za 19 48 (.isub) 49 := ⟨rfl, rfl, rfl⟩
theorem z19_49 : za 19 49 (.iload_n 2) 50 := ⟨rfl, rfl, rfl⟩
theorem z19_50 : za 19 50 (.isub) 51 := ⟨rfl, rfl, rfl⟩
theorem z19_51 : za_v 19 51 47 2 2 54 := ⟨184, ⟨rfl, rfl, rfl⟩, rfl⟩
theorem z19_54 : za 19 54 (.ireturn) 55 := ⟨rfl, rfl, rfl⟩
theorem z20_0 : za 20 0 (.aload_n 0) 1 := ⟨rfl, rfl, rfl⟩
theorem z20_1 : za_f 20 1 0 0 4 := ⟨10, 9, .null, ⟨rfl, rfl, rfl⟩, rfl, Or.inr (Or.inr rfl)⟩
theorem z20_4 : za 20 4 (.iload_n 1) 5 := ⟨rfl, rfl, rfl⟩
theorem z20_5 : za_v 20 5 31 1 1 8 := ⟨117, ⟨rfl, rfl, rfl⟩, rfl⟩
theorem z20_8 : zb (.ifCond .eq) 20 8 22 11 := ⟨14, ⟨rfl, rfl, rfl⟩, rfl⟩
theorem z20_11 : za 20 11 (.aload_n 0) 12 := ⟨rfl, rfl, rfl⟩
theorem z20_12 : za_f 20 12 0 1 15 := ⟨21, 9, .null, ⟨rfl, rfl, rfl⟩, rfl, Or.inr (Or.inr rfl)⟩
theorem z20_15 : za 20 15 (.iload_n 1) 16 := ⟨rfl, rfl, rfl⟩
theorem z20_16 : za_v 20 16 46 1 2 19 := ⟨181, ⟨rfl, rfl, rfl⟩, rfl⟩
theorem z20_19 : zb (.goto) 20 19 23 22 := ⟨4, ⟨rfl, rfl, rfl⟩, rfl⟩
theorem z20_22 : za 20 22 (.iconst (-1)) 23 := ⟨rfl, rfl, rfl⟩
theorem z20_23 : za 20 23 (.ireturn) 24 := ⟨rfl, rfl, rfl⟩
theorem z21_0 : za 21 0 (.aload_n 0) 1 := ⟨rfl, rfl, rfl⟩
theorem z21_1 : za_f 21 1 0 0 4 := ⟨10, 9, .null, ⟨rfl, rfl, rfl⟩, rfl, Or.inr (Or.inr rfl)⟩
theorem z21_4 : za 21 4 (.iload_n 1) 5 := ⟨rfl, rfl, rfl⟩
theorem z21_5 : za_v 21 5 29 1 1 8 := ⟨97, ⟨rfl, rfl, rfl⟩, rfl⟩
theorem z21_8 : zb (.ifCond .eq) 21 8 32 11 := ⟨24, ⟨rfl, rfl, rfl⟩, rfl⟩
theorem z21_11 : za 21 11 (.aload_n 0) 12 := ⟨rfl, rfl, rfl⟩
theorem z21_12 : za_f 21 12 0 0 15 := ⟨10, 9, .null, ⟨rfl, rfl, rfl⟩, rfl, Or.inr (Or.inr rfl)⟩
theorem z21_15 : za 21 15 (.iload_n 2) 16 := ⟨rfl, rfl, rfl⟩
theorem z21_16 : za_v 21 16 29 1 1 19 := ⟨97, ⟨rfl, rfl, rfl⟩, rfl⟩
theorem z21_19 : zb (.ifCond .eq) 21 19 32 22 := ⟨13, ⟨rfl, rfl, rfl⟩, rfl⟩
theorem z21_22 : za 21 22 (.aload_n 0) 23 := ⟨rfl, rfl, rfl⟩
theorem z21_23 : za_f 21 23 0 1 26 := ⟨21, 9, .null, ⟨rfl, rfl, rfl⟩, rfl, Or.inr (Or.inr rfl)⟩
theorem z21_26 : za_v 21 26 43 0 2 29 := ⟨122, ⟨rfl, rfl, rfl⟩, rfl⟩
theorem z21_29 : zb (.ifCond .ne) 21 29 34 32 := ⟨5, ⟨rfl, rfl, rfl⟩, rfl⟩
theorem z21_32 : za 21 32 (.iconst 0) 33 := ⟨rfl, rfl, rfl⟩
theorem z21_33 : za 21 33 (.ireturn) 34 := ⟨rfl, rfl, rfl⟩
theorem z21_34 : za 21 34 (.aload_n 0) 35 := ⟨rfl, rfl, rfl⟩
theorem z21_35 : za_f 21 35 0 1 38 := ⟨21, 9, .null, ⟨rfl, rfl, rfl⟩, rfl, Or.inr (Or.inr rfl)⟩
theorem z21_38 : za 21 38 (.iload_n 1) 39 := ⟨rfl, rfl, rfl⟩
theorem z21_39 : za 21 39 (.iload_n 2) 40 := ⟨rfl, rfl, rfl⟩
theorem z21_40 : za_v 21 40 56 2 2 43 := ⟨142, ⟨rfl, rfl, rfl⟩, rfl⟩
theorem z21_43 : za 21 43 (.ireturn) 44 := ⟨rfl, rfl, rfl⟩
theorem z22_0 : za 22 0 (.iload_n 1) 1 := ⟨rfl, rfl, rfl⟩
theorem z22_1 : za 22 1 (.iconst 1) 2 := ⟨rfl, rfl, rfl⟩
theorem z22_2 : za 22 2 (.sipush (200)) 5 := ⟨rfl, rfl, rfl⟩
theorem z22_5 : za_s 22 5 25 3 8 := ⟨47, .null, ⟨rfl, rfl, rfl⟩, rfl⟩
theorem z22_8 : zb (.ifCond .ne) 22 8 21 11 := ⟨13, ⟨rfl, rfl, rfl⟩, rfl⟩
theorem z22_21 : za 22 21 (.aload_n 0) 22 := ⟨rfl, rfl, rfl⟩
theorem z22_22 : za_f 22 22 0 1 25 := ⟨21, 9, .null, ⟨rfl, rfl, rfl⟩, rfl, Or.inr (Or.inr rfl)⟩
theorem z22_25 : za_v 22 25 43 0 2 28 := ⟨122, ⟨rfl, rfl, rfl⟩, rfl⟩
theorem z22_28 : zb (.ifCond .ne) 22 28 41 31 := ⟨13, ⟨rfl, rfl, rfl⟩, rfl⟩
theorem z22_41 : za 22 41 (.aload_n 0) 42 := ⟨rfl, rfl, rfl⟩
theorem z22_42 : za_f 22 42 0 3 45 := ⟨35, 9, .null, ⟨rfl, rfl, rfl⟩, rfl, Or.inr (Or.inr rfl)⟩
theorem z22_45 : za 22 45 (.aload_n 0) 46 := ⟨rfl, rfl, rfl⟩
theorem z22_46 : za_f 22 46 0 1 49 := ⟨21, 9, .null, ⟨rfl, rfl, rfl⟩, rfl, Or.inr (Or.inr rfl)⟩
theorem z22_49 : za 22 49 (.iload_n 1) 50 := ⟨rfl, rfl, rfl⟩
theorem z22_50 : za_v 22 50 68 2 4 53 := ⟨189, ⟨rfl, rfl, rfl⟩, rfl⟩
theorem z22_53 : za 22 53 (.istore_n 2) 54 := ⟨rfl, rfl, rfl⟩
theorem z22_54 : za 22 54 (.aload_n 0) 55 := ⟨rfl, rfl, rfl⟩
theorem z22_55 : za 22 55 (.aload_n 0) 56 := ⟨rfl, rfl, rfl⟩
theorem z22_56 : za_f 22 56 0 3 59 := ⟨35, 9, .null, ⟨rfl, rfl, rfl⟩, rfl, Or.inr (Or.inr rfl)⟩
theorem z22_59 : za_f 22 59 4 8 62 := ⟨193, 0, .null, ⟨rfl, rfl, rfl⟩, rfl, Or.inl rfl⟩
theorem z22_62 : za_p 22 62 0 5 65 := ⟨43, 0, .null, ⟨rfl, rfl, rfl⟩, rfl, Or.inl rfl⟩
theorem z22_65 : za 22 65 (.iload_n 2) 66 := ⟨rfl, rfl, rfl⟩
theorem z22_66 : za 22 66 (.ireturn) 67 := ⟨rfl, rfl, rfl⟩
theorem z23_0 : za 23 0 (.aload_n 0) 1 := ⟨rfl, rfl, rfl⟩
theorem z23_1 : za_f 23 1 0 5 4 := ⟨43, 0, .null, ⟨rfl, rfl, rfl⟩, rfl, Or.inl rfl⟩
theorem z23_4 : za 23 4 (.ireturn) 5 := ⟨rfl, rfl, rfl⟩
theorem z24_0 : za 24 0 (.aload_n 0) 1 := ⟨rfl, rfl, rfl⟩
theorem z24_1 : za_f 24 1 0 3 4 := ⟨35, 9, .null, ⟨rfl, rfl, rfl⟩, rfl, Or.inr (Or.inr rfl)⟩
theorem z24_4 : za_f 24 4 4 9 7 := ⟨196, 0, .null, ⟨rfl, rfl, rfl⟩, rfl, Or.inl rfl⟩
theorem z24_7 : za 24 7 (.ireturn) 8 := ⟨rfl, rfl, rfl⟩
theorem z25_0 : za 25 0 (.iload_n 0) 1 := ⟨rfl, rfl, rfl⟩
theorem z25_1 : za 25 1 (.iload_n 1) 2 := ⟨rfl, rfl, rfl⟩
theorem z25_2 : zb (.if_icmp .lt) 25 2 14 5 := ⟨12, ⟨rfl, rfl, rfl⟩, rfl⟩
theorem z25_5 : za 25 5 (.iload_n 0) 6 := ⟨rfl, rfl, rfl⟩
theorem z25_6 : za 25 6 (.iload_n 2) 7 := ⟨rfl, rfl, rfl⟩
theorem z25_7 : zb (.if_icmp .gt) 25 7 14 10 := ⟨7, ⟨rfl, rfl, rfl⟩, rfl⟩
theorem z25_10 : za 25 10 (.iconst 1) 11 := ⟨rfl, rfl, rfl⟩
theorem z25_11 : zb (.goto) 25 11 15 14 := ⟨4, ⟨rfl, rfl, rfl⟩, rfl⟩
theorem z25_14 : za 25 14 (.iconst 0) 15 := ⟨rfl, rfl, rfl⟩
theorem z25_15 : za 25 15 (.ireturn) 16 := ⟨rfl, rfl, rfl⟩
theorem z26_0 : za 26 0 (.iload_n 0) 1 := ⟨rfl, rfl, rfl⟩
theorem z26_1 : za 26 1 (.bipush (49)) 3 := ⟨rfl, rfl, rfl⟩
theorem z26_3 : zb (.if_icmp .lt) 26 3 17 6 := ⟨14, ⟨rfl, rfl, rfl⟩, rfl⟩
theorem z26_6 : za 26 6 (.iload_n 0) 7 := ⟨rfl, rfl, rfl⟩
theorem z26_7 : za 26 7 (.bipush (56)) 9 := ⟨rfl, rfl, rfl⟩
theorem z26_9 : zb (.if_icmp .gt) 26 9 17 12 := ⟨8, ⟨rfl, rfl, rfl⟩, rfl⟩
theorem z26_12 : za 26 12 (.iload_n 0) 13 := ⟨rfl, rfl, rfl⟩
theorem z26_13 : za 26 13 (.bipush (49)) 15 := ⟨rfl, rfl, rfl⟩
theorem z26_15 : za 26 15 (.isub) 16 := ⟨rfl, rfl, rfl⟩
theorem z26_16 : za 26 16 (.ireturn) 17 := ⟨rfl, rfl, rfl⟩
theorem z26_17 : za 26 17 (.iload_n 0) 18 := ⟨rfl, rfl, rfl⟩
theorem z26_18 : za 26 18 (.bipush (97)) 20 := ⟨rfl, rfl, rfl⟩
theorem z26_20 : zb (.if_icmp .lt) 26 20 37 23 := ⟨17, ⟨rfl, rfl, rfl⟩, rfl⟩
theorem z26_23 : za 26 23 (.iload_n 0) 24 := ⟨rfl, rfl, rfl⟩
theorem z26_24 : za 26 24 (.bipush (100)) 26 := ⟨rfl, rfl, rfl⟩
theorem z26_26 : zb (.if_icmp .gt) 26 26 37 29 := ⟨11, ⟨rfl, rfl, rfl⟩, rfl⟩
theorem z26_29 : za 26 29 (.bipush (8)) 31 := ⟨rfl, rfl, rfl⟩
theorem z26_31 : za 26 31 (.iload_n 0) 32 := ⟨rfl, rfl, rfl⟩
theorem z26_32 : za 26 32 (.iadd) 33 := ⟨rfl, rfl, rfl⟩
theorem z26_33 : za 26 33 (.bipush (97)) 35 := ⟨rfl, rfl, rfl⟩
theorem z26_35 : za 26 35 (.isub) 36 := ⟨rfl, rfl, rfl⟩
theorem z26_36 : za 26 36 (.ireturn) 37 := ⟨rfl, rfl, rfl⟩
theorem z26_37 : za 26 37 (.iload_n 0) 38 := ⟨rfl, rfl, rfl⟩
theorem z26_38 : za 26 38 (.bipush (104)) 40 := ⟨rfl, rfl, rfl⟩
theorem z26_40 : zb (.if_icmp .ne) 26 40 48 43 := ⟨8, ⟨rfl, rfl, rfl⟩, rfl⟩
theorem z26_43 : za 26 43 (.bipush (12)) 45 := ⟨rfl, rfl, rfl⟩
theorem z26_45 : zb (.goto) 26 45 49 48 := ⟨4, ⟨rfl, rfl, rfl⟩, rfl⟩
theorem z26_48 : za 26 48 (.iconst (-1)) 49 := ⟨rfl, rfl, rfl⟩
theorem z26_49 : za 26 49 (.ireturn) 50 := ⟨rfl, rfl, rfl⟩
theorem z27_0 : za 27 0 (.aload_n 0) 1 := ⟨rfl, rfl, rfl⟩
theorem z27_1 : za_f 27 1 0 1 4 := ⟨21, 9, .null, ⟨rfl, rfl, rfl⟩, rfl, Or.inr (Or.inr rfl)⟩
theorem z27_4 : za 27 4 (.iload_n 1) 5 := ⟨rfl, rfl, rfl⟩
theorem z27_5 : za 27 5 (.iload_n 3) 6 := ⟨rfl, rfl, rfl⟩
theorem z27_6 : za 27 6 (.iconst 1) 7 := ⟨rfl, rfl, rfl⟩
theorem z27_7 : za 27 7 (.isub) 8 := ⟨rfl, rfl, rfl⟩
theorem z27_8 : za_v 27 8 47 2 2 11 := ⟨184, ⟨rfl, rfl, rfl⟩, rfl⟩
theorem z27_11 : za 27 11 (.istore 4) 13 := ⟨rfl, rfl, rfl⟩
theorem z27_13 : za 27 13 (.aload_n 0) 14 := ⟨rfl, rfl, rfl⟩
theorem z27_14 : za_f 27 14 0 1 17 := ⟨21, 9, .null, ⟨rfl, rfl, rfl⟩, rfl, Or.inr (Or.inr rfl)⟩
theorem z27_17 : za 27 17 (.iload 4) 19 := ⟨rfl, rfl, rfl⟩
theorem z27_19 : za 27 19 (.iload_n 1) 20 := ⟨rfl, rfl, rfl⟩
theorem z27_20 : za 27 20 (.iload_n 2) 21 := ⟨rfl, rfl, rfl⟩
theorem z27_21 : za_v 27 21 62 3 2 24 := ⟨171, ⟨rfl, rfl, rfl⟩, rfl⟩
theorem z27_24 : za 27 24 (.aload_n 0) 25 := ⟨rfl, rfl, rfl⟩
theorem z27_25 : za_f 27 25 0 2 28 := ⟨28, 9, .null, ⟨rfl, rfl, rfl⟩, rfl, Or.inr (Or.inr rfl)⟩
theorem z27_28 : za 27 28 (.iload 4) 30 := ⟨rfl, rfl, rfl⟩
theorem z27_30 : za 27 30 (.iload_n 1) 31 := ⟨rfl, rfl, rfl⟩
theorem z27_31 : za 27 31 (.iload_n 2) 32 := ⟨rfl, rfl, rfl⟩
theorem z27_32 : za 27 32 (.iload_n 3) 33 := ⟨rfl, rfl, rfl⟩
theorem z27_33 : za_v 27 33 65 4 3 36 := ⟨199, ⟨rfl, rfl, rfl⟩, rfl⟩
theorem z27_36 : za 27 36 (.aload_n 0) 37 := ⟨rfl, rfl, rfl⟩
theorem z27_37 : za 27 37 (.iconst (-1)) 38 := ⟨rfl, rfl, rfl⟩
theorem z27_38 : za_p 27 38 0 5 41 := ⟨43, 0, .null, ⟨rfl, rfl, rfl⟩, rfl, Or.inl rfl⟩
theorem z27_41 : za 27 41 (.return_) 42 := ⟨rfl, rfl, rfl⟩
theorem z28_0 : za 28 0 (.aload_n 0) 1 := ⟨rfl, rfl, rfl⟩
theorem z28_1 : za_o 28 1 4 := ⟨3, 0, .null, ⟨rfl, rfl, rfl⟩, rfl⟩
theorem z28_4 : za 28 4 (.aload_n 0) 5 := ⟨rfl, rfl, rfl⟩
theorem z28_5 : za 28 5 (.bipush (8)) 7 := ⟨rfl, rfl, rfl⟩
theorem z28_7 : za_p 28 7 1 0 10 := ⟨9, 0, .null, ⟨rfl, rfl, rfl⟩, rfl, Or.inl rfl⟩
theorem z28_10 : za 28 10 (.aload_n 0) 11 := ⟨rfl, rfl, rfl⟩
theorem z28_11 : za 28 11 (.iconst 4) 12 := ⟨rfl, rfl, rfl⟩
theorem z28_12 : za_p 28 12 1 1 15 := ⟨15, 0, .null, ⟨rfl, rfl, rfl⟩, rfl, Or.inl rfl⟩
theorem z28_15 : za 28 15 (.aload_n 0) 16 := ⟨rfl, rfl, rfl⟩
theorem z28_16 : za 28 16 (.iconst 0) 17 := ⟨rfl, rfl, rfl⟩
theorem z28_17 : za_p 28 17 1 2 20 := ⟨18, 0, .null, ⟨rfl, rfl, rfl⟩, rfl, Or.inl rfl⟩
theorem z28_20 : za 28 20 (.aload_n 0) 21 := ⟨rfl, rfl, rfl⟩
theorem z28_21 : za 28 21 (.iconst 0) 22 := ⟨rfl, rfl, rfl⟩
theorem z28_22 : za_p 28 22 1 3 25 := ⟨21, 0, .null, ⟨rfl, rfl, rfl⟩, rfl, Or.inl rfl⟩
theorem z28_25 : za 28 25 (.aload_n 0) 26 := ⟨rfl, rfl, rfl⟩
theorem z28_26 : za 28 26 (.iconst 4) 27 := ⟨rfl, rfl, rfl⟩
theorem z28_27 : za_p 28 27 1 4 30 := ⟨24, 0, .null, ⟨rfl, rfl, rfl⟩, rfl, Or.inl rfl⟩
theorem z28_30 : za 28 30 (.aload_n 0) 31 := ⟨rfl, rfl, rfl⟩
theorem z28_31 : za 28 31 (.bipush (13)) 33 := ⟨rfl, rfl, rfl⟩
theorem z28_33 : za_p 28 33 1 5 36 := ⟨27, 0, .null, ⟨rfl, rfl, rfl⟩, rfl, Or.inl rfl⟩
theorem z28_36 : za 28 36 (.return_) 37 := ⟨rfl, rfl, rfl⟩
theorem z29_0 : za 29 0 (.iload_n 1) 1 := ⟨rfl, rfl, rfl⟩
theorem z29_1 : zb (.ifCond .lt) 29 1 16 4 := ⟨15, ⟨rfl, rfl, rfl⟩, rfl⟩
theorem z29_4 : za 29 4 (.iload_n 1) 5 := ⟨rfl, rfl, rfl⟩
theorem z29_5 : za 29 5 (.aload_n 0) 6 := ⟨rfl, rfl, rfl⟩
theorem z29_6 : za_f 29 6 1 0 9 := ⟨9, 0, .null, ⟨rfl, rfl, rfl⟩, rfl, Or.inl rfl⟩
theorem z29_9 : zb (.if_icmp .ge) 29 9 16 12 := ⟨7, ⟨rfl, rfl, rfl⟩, rfl⟩
theorem z29_12 : za 29 12 (.iconst 1) 13 := ⟨rfl, rfl, rfl⟩
theorem z29_13 : zb (.goto) 29 13 17 16 := ⟨4, ⟨rfl, rfl, rfl⟩, rfl⟩
theorem z29_16 : za 29 16 (.iconst 0) 17 := ⟨rfl, rfl, rfl⟩
theorem z29_17 : za 29 17 (.ireturn) 18 := ⟨rfl, rfl, rfl⟩
theorem z30_0 : za 30 0 (.iload_n 1) 1 := ⟨rfl, rfl, rfl⟩
theorem z30_1 : za 30 1 (.bipush (8)) 3 := ⟨rfl, rfl, rfl⟩
theorem z30_3 : zb (.if_icmp .lt) 30 3 21 6 := ⟨18, ⟨rfl, rfl, rfl⟩, rfl⟩
theorem z30_6 : za 30 6 (.iload_n 1) 7 := ⟨rfl, rfl, rfl⟩
theorem z30_7 : za 30 7 (.bipush (8)) 9 := ⟨rfl, rfl, rfl⟩
theorem z30_9 : za 30 9 (.aload_n 0) 10 := ⟨rfl, rfl, rfl⟩
theorem z30_10 : za_f 30 10 1 1 13 := ⟨15, 0, .null, ⟨rfl, rfl, rfl⟩, rfl, Or.inl rfl⟩
theorem z30_13 : za 30 13 (.iadd) 14 := ⟨rfl, rfl, rfl⟩
theorem z30_14 : zb (.if_icmp .ge) 30 14 21 17 := ⟨7, ⟨rfl, rfl, rfl⟩, rfl⟩
theorem z30_17 : za 30 17 (.iconst 1) 18 := ⟨rfl, rfl, rfl⟩
theorem z30_18 : zb (.goto) 30 18 22 21 := ⟨4, ⟨rfl, rfl, rfl⟩, rfl⟩
theorem z30_21 : za 30 21 (.iconst 0) 22 := ⟨rfl, rfl, rfl⟩
theorem z30_22 : za 30 22 (.ireturn) 23 := ⟨rfl, rfl, rfl⟩
theorem z31_0 : za 31 0 (.aload_n 0) 1 := ⟨rfl, rfl, rfl⟩
theorem z31_1 : za 31 1 (.iload_n 1) 2 := ⟨rfl, rfl, rfl⟩
theorem z31_2 : za_v 31 2 29 1 1 5 := ⟨30, ⟨rfl, rfl, rfl⟩, rfl⟩
theorem z31_5 : zb (.ifCond .ne) 31 5 22 8 := ⟨17, ⟨rfl, rfl, rfl⟩, rfl⟩
theorem z31_8 : za 31 8 (.aload_n 0) 9 := ⟨rfl, rfl, rfl⟩
theorem z31_9 : za 31 9 (.iload_n 1) 10 := ⟨rfl, rfl, rfl⟩
theorem z31_10 : za_v 31 10 30 1 1 13 := ⟨34, ⟨rfl, rfl, rfl⟩, rfl⟩
theorem z31_13 : zb (.ifCond .ne) 31 13 22 16 := ⟨9, ⟨rfl, rfl, rfl⟩, rfl⟩
theorem z31_16 : za 31 16 (.iload_n 1) 17 := ⟨rfl, rfl, rfl⟩
theorem z31_17 : za 31 17 (.bipush (12)) 19 := ⟨rfl, rfl, rfl⟩
theorem z31_19 : zb (.if_icmp .ne) 31 19 26 22 := ⟨7, ⟨rfl, rfl, rfl⟩, rfl⟩
theorem z31_22 : za 31 22 (.iconst 1) 23 := ⟨rfl, rfl, rfl⟩
theorem z31_23 : zb (.goto) 31 23 27 26 := ⟨4, ⟨rfl, rfl, rfl⟩, rfl⟩
theorem z31_26 : za 31 26 (.iconst 0) 27 := ⟨rfl, rfl, rfl⟩
theorem z31_27 : za 31 27 (.ireturn) 28 := ⟨rfl, rfl, rfl⟩
theorem z32_0 : za 32 0 (.aload_n 0) 1 := ⟨rfl, rfl, rfl⟩
theorem z32_1 : za_f 32 1 1 4 4 := ⟨24, 0, .null, ⟨rfl, rfl, rfl⟩, rfl, Or.inl rfl⟩
theorem z32_4 : za 32 4 (.aload_n 0) 5 := ⟨rfl, rfl, rfl⟩
theorem z32_5 : za_f 32 5 1 5 8 := ⟨27, 0, .null, ⟨rfl, rfl, rfl⟩, rfl, Or.inl rfl⟩
theorem z32_8 : za 32 8 (.imul) 9 := ⟨rfl, rfl, rfl⟩
theorem z32_9 : za 32 9 (.ireturn) 10 := ⟨rfl, rfl, rfl⟩
theorem z33_0 : za 33 0 (.iload_n 1) 1 := ⟨rfl, rfl, rfl⟩
theorem z33_1 : zb (.ifCond .lt) 33 1 16 4 := ⟨15, ⟨rfl, rfl, rfl⟩, rfl⟩
theorem z33_4 : za 33 4 (.iload_n 1) 5 := ⟨rfl, rfl, rfl⟩
theorem z33_5 : za 33 5 (.aload_n 0) 6 := ⟨rfl, rfl, rfl⟩
theorem z33_6 : za_v 33 6 32 0 1 9 := ⟨37, ⟨rfl, rfl, rfl⟩, rfl⟩
theorem z33_9 : zb (.if_icmp .ge) 33 9 16 12 := ⟨7, ⟨rfl, rfl, rfl⟩, rfl⟩
theorem z33_12 : za 33 12 (.iconst 1) 13 := ⟨rfl, rfl, rfl⟩
theorem z33_13 : zb (.goto) 33 13 17 16 := ⟨4, ⟨rfl, rfl, rfl⟩, rfl⟩
theorem z33_16 : za 33 16 (.iconst 0) 17 := ⟨rfl, rfl, rfl⟩
theorem z33_17 : za 33 17 (.ireturn) 18 := ⟨rfl, rfl, rfl⟩
theorem z34_0 : za 34 0 (.iload_n 1) 1 := ⟨rfl, rfl, rfl⟩
theorem z34_1 : za 34 1 (.aload_n 0) 2 := ⟨rfl, rfl, rfl⟩
theorem z34_2 : za_f 34 2 1 4 5 := ⟨24, 0, .null, ⟨rfl, rfl, rfl⟩, rfl, Or.inl rfl⟩
theorem z34_5 : za 34 5 (.idiv) 6 := ⟨rfl, rfl, rfl⟩
theorem z34_6 : za 34 6 (.iconst 1) 7 := ⟨rfl, rfl, rfl⟩
theorem z34_7 : za 34 7 (.iadd) 8 := ⟨rfl, rfl, rfl⟩
theorem z34_8 : za 34 8 (.ireturn) 9 := ⟨rfl, rfl, rfl⟩
theorem z35_0 : za 35 0 (.iload_n 1) 1 := ⟨rfl, rfl, rfl⟩
theorem z35_1 : za 35 1 (.aload_n 0) 2 := ⟨rfl, rfl, rfl⟩
theorem z35_2 : za_f 35 2 1 4 5 := ⟨24, 0, .null, ⟨rfl, rfl, rfl⟩, rfl, Or.inl rfl⟩
theorem z35_5 : za 35 5 (.irem) 6 := ⟨rfl, rfl, rfl⟩
theorem z35_6 : za 35 6 (.ireturn) 7 := ⟨rfl, rfl, rfl⟩
theorem z36_0 : za 36 0 (.iload_n 1) 1 := ⟨rfl, rfl, rfl⟩
theorem z36_1 : za 36 1 (.iconst 1) 2 := ⟨rfl, rfl, rfl⟩
theorem z36_2 : zb (.if_icmp .eq) 36 2 10 5 := ⟨8, ⟨rfl, rfl, rfl⟩, rfl⟩
theorem z36_5 : za 36 5 (.iload_n 1) 6 := ⟨rfl, rfl, rfl⟩
theorem z36_6 : za 36 6 (.iconst 2) 7 := ⟨rfl, rfl, rfl⟩
theorem z36_7 : zb (.if_icmp .ne) 36 7 14 10 := ⟨7, ⟨rfl, rfl, rfl⟩, rfl⟩
theorem z36_10 : za 36 10 (.iconst 1) 11 := ⟨rfl, rfl, rfl⟩
theorem z36_11 : zb (.goto) 36 11 15 14 := ⟨4, ⟨rfl, rfl, rfl⟩, rfl⟩
theorem z36_14 : za 36 14 (.iconst 0) 15 := ⟨rfl, rfl, rfl⟩
theorem z36_15 : za 36 15 (.ireturn) 16 := ⟨rfl, rfl, rfl⟩
theorem z37_0 : za 37 0 (.aload_n 0) 1 := ⟨rfl, rfl, rfl⟩
theorem z37_1 : za 37 1 (.iload_n 1) 2 := ⟨rfl, rfl, rfl⟩
theorem z37_2 : za_v 37 2 34 1 1 5 := ⟨41, ⟨rfl, rfl, rfl⟩, rfl⟩
theorem z37_5 : za 37 5 (.iconst 1) 6 := ⟨rfl, rfl, rfl⟩
theorem z37_6 : za 37 6 (.iadd) 7 := ⟨rfl, rfl, rfl⟩
theorem z37_7 : za 37 7 (.aload_n 0) 8 := ⟨rfl, rfl, rfl⟩
theorem z37_8 : za 37 8 (.iload_n 2) 9 := ⟨rfl, rfl, rfl⟩
theorem z37_9 : za_v 37 9 34 1 1 12 := ⟨41, ⟨rfl, rfl, rfl⟩, rfl⟩
theorem z37_12 : zb (.if_icmp .eq) 37 12 17 15 := ⟨5, ⟨rfl, rfl, rfl⟩, rfl⟩
theorem z37_15 : za 37 15 (.iconst 0) 16 := ⟨rfl, rfl, rfl⟩
theorem z37_16 : za 37 16 (.ireturn) 17 := ⟨rfl, rfl, rfl⟩
theorem z37_17 : za 37 17 (.aload_n 0) 18 := ⟨rfl, rfl, rfl⟩
theorem z37_18 : za_f 37 18 1 2 21 := ⟨18, 0, .null, ⟨rfl, rfl, rfl⟩, rfl, Or.inl rfl⟩
theorem z37_21 : zb (.ifCond .ne) 37 21 51 24 := ⟨30, ⟨rfl, rfl, rfl⟩, rfl⟩
theorem z37_24 : za 37 24 (.aload_n 0) 25 := ⟨rfl, rfl, rfl⟩
theorem z37_25 : za 37 25 (.aload_n 0) 26 := ⟨rfl, rfl, rfl⟩
theorem z37_26 : za 37 26 (.iload_n 1) 27 := ⟨rfl, rfl, rfl⟩
theorem z37_27 : za_v 37 27 35 1 1 30 := ⟨45, ⟨rfl, rfl, rfl⟩, rfl⟩
theorem z37_30 : za_v 37 30 36 1 1 33 := ⟨48, ⟨rfl, rfl, rfl⟩, rfl⟩
theorem z37_33 : za 37 33 (.aload_n 0) 34 := ⟨rfl, rfl, rfl⟩
theorem z37_34 : za 37 34 (.aload_n 0) 35 := ⟨rfl, rfl, rfl⟩
theorem z37_35 : za 37 35 (.iload_n 2) 36 := ⟨rfl, rfl, rfl⟩
theorem z37_36 : za_v 37 36 35 1 1 39 := ⟨45, ⟨rfl, rfl, rfl⟩, rfl⟩
theorem z37_39 : za_v 37 39 36 1 1 42 := ⟨48, ⟨rfl, rfl, rfl⟩, rfl⟩
theorem z37_42 : zb (.if_icmp .eq) 37 42 49 45 := ⟨7, ⟨rfl, rfl, rfl⟩, rfl⟩
theorem z37_45 : za 37 45 (.iconst 1) 46 := ⟨rfl, rfl, rfl⟩
theorem z37_46 : zb (.goto) 37 46 50 49 := ⟨4, ⟨rfl, rfl, rfl⟩, rfl⟩
theorem z37_49 : za 37 49 (.iconst 0) 50 := ⟨rfl, rfl, rfl⟩
theorem z37_50 : za 37 50 (.ireturn) 51 := ⟨rfl, rfl, rfl⟩
theorem z37_51 : za 37 51 (.aload_n 0) 52 := ⟨rfl, rfl, rfl⟩
theorem z37_52 : za_f 37 52 1 2 55 := ⟨18, 0, .null, ⟨rfl, rfl, rfl⟩, rfl, Or.inl rfl⟩
theorem z37_55 : za 37 55 (.iconst 1) 56 := ⟨rfl, rfl, rfl⟩
theorem z37_56 : zb (.if_icmp .ne) 37 56 72 59 := ⟨16, ⟨rfl, rfl, rfl⟩, rfl⟩
theorem z37_59 : za 37 59 (.aload_n 0) 60 := ⟨rfl, rfl, rfl⟩
theorem z37_60 : za 37 60 (.iload_n 1) 61 := ⟨rfl, rfl, rfl⟩
theorem z37_61 : za_v 37 61 35 1 1 64 := ⟨45, ⟨rfl, rfl, rfl⟩, rfl⟩
theorem z37_64 : za 37 64 (.aload_n 0) 65 := ⟨rfl, rfl, rfl⟩
theorem z37_65 : za 37 65 (.iload_n 2) 66 := ⟨rfl, rfl, rfl⟩
theorem z37_66 : za_v 37 66 35 1 1 69 := ⟨45, ⟨rfl, rfl, rfl⟩, rfl⟩
theorem z37_69 : zb (.if_icmp .ne) 37 69 76 72 := ⟨7, ⟨rfl, rfl, rfl⟩, rfl⟩
theorem z37_72 : za 37 72 (.iconst 1) 73 := ⟨rfl, rfl, rfl⟩
theorem z37_73 : zb (.goto) 37 73 77 76 := ⟨4, ⟨rfl, rfl, rfl⟩, rfl⟩
theorem z37_76 : za 37 76 (.iconst 0) 77 := ⟨rfl, rfl, rfl⟩
theorem z37_77 : za 37 77 (.ireturn) 78 := ⟨rfl, rfl, rfl⟩
theorem z38_0 : za 38 0 (.aload_n 0) 1 := ⟨rfl, rfl, rfl⟩
theorem z38_1 : za_f 38 1 1 3 4 := ⟨21, 0, .null, ⟨rfl, rfl, rfl⟩, rfl, Or.inl rfl⟩
theorem z38_4 : zb (.ifCond .eq) 38 4 27 7 := ⟨23, ⟨rfl, rfl, rfl⟩, rfl⟩
theorem z38_7 : za 38 7 (.aload_n 0) 8 := ⟨rfl, rfl, rfl⟩
theorem z38_8 : za_f 38 8 1 3 11 := ⟨21, 0, .null, ⟨rfl, rfl, rfl⟩, rfl, Or.inl rfl⟩
theorem z38_11 : za 38 11 (.iconst 1) 12 := ⟨rfl, rfl, rfl⟩
theorem z38_12 : zb (.if_icmp .ne) 38 12 31 15 := ⟨19, ⟨rfl, rfl, rfl⟩, rfl⟩
theorem z38_15 : za 38 15 (.aload_n 0) 16 := ⟨rfl, rfl, rfl⟩
theorem z38_16 : za 38 16 (.iload_n 1) 17 := ⟨rfl, rfl, rfl⟩
theorem z38_17 : za_v 38 17 34 1 1 20 := ⟨41, ⟨rfl, rfl, rfl⟩, rfl⟩
theorem z38_20 : za 38 20 (.aload_n 0) 21 := ⟨rfl, rfl, rfl⟩
theorem z38_21 : za_f 38 21 1 5 24 := ⟨27, 0, .null, ⟨rfl, rfl, rfl⟩, rfl, Or.inl rfl⟩
theorem z38_24 : zb (.if_icmp .ne) 38 24 31 27 := ⟨7, ⟨rfl, rfl, rfl⟩, rfl⟩
theorem z38_27 : za 38 27 (.iconst 1) 28 := ⟨rfl, rfl, rfl⟩
theorem z38_28 : zb (.goto) 38 28 32 31 := ⟨4, ⟨rfl, rfl, rfl⟩, rfl⟩
theorem z38_31 : za 38 31 (.iconst 0) 32 := ⟨rfl, rfl, rfl⟩
theorem z38_32 : za 38 32 (.ireturn) 33 := ⟨rfl, rfl, rfl⟩
theorem z39_0 : za 39 0 (.aload_n 0) 1 := ⟨rfl, rfl, rfl⟩
theorem z39_1 : za_o 39 1 4 := ⟨3, 0, .null, ⟨rfl, rfl, rfl⟩, rfl⟩
theorem z39_4 : za 39 4 (.aload_n 0) 5 := ⟨rfl, rfl, rfl⟩
theorem z39_5 : za 39 5 (.bipush (52)) 7 := ⟨rfl, rfl, rfl⟩
theorem z39_7 : za 39 7 (.newarray .int) 9 := ⟨rfl, rfl, rfl⟩
theorem z39_9 : za_p 39 9 2 1 12 := ⟨9, 8, .null, ⟨rfl, rfl, rfl⟩, rfl, Or.inr rfl⟩
theorem z39_12 : za 39 12 (.aload_n 0) 13 := ⟨rfl, rfl, rfl⟩
theorem z39_13 : za 39 13 (.bipush (12)) 15 := ⟨rfl, rfl, rfl⟩
theorem z39_15 : za 39 15 (.newarray .int) 17 := ⟨rfl, rfl, rfl⟩
theorem z39_17 : za_p 39 17 2 2 20 := ⟨15, 8, .null, ⟨rfl, rfl, rfl⟩, rfl, Or.inr rfl⟩
theorem z39_20 : za 39 20 (.aload_n 0) 21 := ⟨rfl, rfl, rfl⟩
theorem z39_21 : za 39 21 (.iconst 4) 22 := ⟨rfl, rfl, rfl⟩
theorem z39_22 : za 39 22 (.newarray .int) 24 := ⟨rfl, rfl, rfl⟩
theorem z39_24 : za_p 39 24 2 3 27 := ⟨18, 8, .null, ⟨rfl, rfl, rfl⟩, rfl, Or.inr rfl⟩
theorem z39_27 : za 39 27 (.aload_n 0) 28 := ⟨rfl, rfl, rfl⟩
theorem z39_28 : za 39 28 (.aload_n 1) 29 := ⟨rfl, rfl, rfl⟩
theorem z39_29 : za_p 39 29 2 0 32 := ⟨21, 8, .null, ⟨rfl, rfl, rfl⟩, rfl, Or.inr rfl⟩
theorem z39_32 : za 39 32 (.aload_n 0) 33 := ⟨rfl, rfl, rfl⟩
theorem z39_33 : za_v 39 33 40 0 2 36 := ⟨25, ⟨rfl, rfl, rfl⟩, rfl⟩
theorem z39_36 : za 39 36 (.return_) 37 := ⟨rfl, rfl, rfl⟩
theorem z40_0 : za 40 0 (.aload_n 0) 1 := ⟨rfl, rfl, rfl⟩
theorem z40_1 : za_f 40 1 2 1 4 := ⟨9, 9, .null, ⟨rfl, rfl, rfl⟩, rfl, Or.inr (Or.inr rfl)⟩
theorem z40_4 : za 40 4 (.bipush (-4)) 6 := ⟨rfl, rfl, rfl⟩
theorem z40_6 : za_s 40 6 134 2 9 := ⟨28, .null, ⟨rfl, rfl, rfl⟩, rfl⟩
theorem z40_9 : za 40 9 (.aload_n 0) 10 := ⟨rfl, rfl, rfl⟩
theorem z40_10 : za_f 40 10 2 2 13 := ⟨15, 9, .null, ⟨rfl, rfl, rfl⟩, rfl, Or.inr (Or.inr rfl)⟩
theorem z40_13 : za 40 13 (.iconst (-1)) 14 := ⟨rfl, rfl, rfl⟩
theorem z40_14 : za_s 40 14 134 2 17 := ⟨28, .null, ⟨rfl, rfl, rfl⟩, rfl⟩
theorem z40_17 : za 40 17 (.aload_n 0) 18 := ⟨rfl, rfl, rfl⟩
theorem z40_18 : za_f 40 18 2 3 21 := ⟨18, 9, .null, ⟨rfl, rfl, rfl⟩, rfl, Or.inr (Or.inr rfl)⟩
theorem z40_21 : za 40 21 (.iconst 0) 22 := ⟨rfl, rfl, rfl⟩
theorem z40_22 : za_s 40 22 134 2 25 := ⟨28, .null, ⟨rfl, rfl, rfl⟩, rfl⟩
theorem z40_25 : za 40 25 (.aload_n 0) 26 := ⟨rfl, rfl, rfl⟩
theorem z40_26 : za 40 26 (.iconst 0) 27 := ⟨rfl, rfl, rfl⟩
theorem z40_27 : za_p 40 27 2 4 30 := ⟨34, 0, .null, ⟨rfl, rfl, rfl⟩, rfl, Or.inl rfl⟩
theorem z40_30 : za 40 30 (.aload_n 0) 31 := ⟨rfl, rfl, rfl⟩
theorem z40_31 : za 40 31 (.iconst 0) 32 := ⟨rfl, rfl, rfl⟩
theorem z40_32 : za_p 40 32 2 5 35 := ⟨38, 0, .null, ⟨rfl, rfl, rfl⟩, rfl, Or.inl rfl⟩
theorem z40_35 : za 40 35 (.return_) 36 := ⟨rfl, rfl, rfl⟩
theorem z41_0 : za 41 0 (.aload_n 1) 1 := ⟨rfl, rfl, rfl⟩
theorem z41_1 : za_f 41 1 2 1 4 := ⟨9, 9, .null, ⟨rfl, rfl, rfl⟩, rfl, Or.inr (Or.inr rfl)⟩
theorem z41_4 : za 41 4 (.iconst 0) 5 := ⟨rfl, rfl, rfl⟩
theorem z41_5 : za 41 5 (.aload_n 0) 6 := ⟨rfl, rfl, rfl⟩
theorem z41_6 : za_f 41 6 2 1 9 := ⟨9, 9, .null, ⟨rfl, rfl, rfl⟩, rfl, Or.inr (Or.inr rfl)⟩
theorem z41_9 : za 41 9 (.iconst 0) 10 := ⟨rfl, rfl, rfl⟩
theorem z41_10 : za 41 10 (.bipush (52)) 12 := ⟨rfl, rfl, rfl⟩
theorem z41_12 : za_y 41 12 15 := ⟨41, 0, .null, ⟨rfl, rfl, rfl⟩, rfl⟩
theorem z41_15 : za 41 15 (.aload_n 1) 16 := ⟨rfl, rfl, rfl⟩
theorem z41_16 : za_f 41 16 2 2 19 := ⟨15, 9, .null, ⟨rfl, rfl, rfl⟩, rfl, Or.inr (Or.inr rfl)⟩
theorem z41_19 : za 41 19 (.iconst 0) 20 := ⟨rfl, rfl, rfl⟩
theorem z41_20 : za 41 20 (.aload_n 0) 21 := ⟨rfl, rfl, rfl⟩
theorem z41_21 : za_f 41 21 2 2 24 := ⟨15, 9, .null, ⟨rfl, rfl, rfl⟩, rfl, Or.inr (Or.inr rfl)⟩
theorem z41_24 : za 41 24 (.iconst 0) 25 := ⟨rfl, rfl, rfl⟩
theorem z41_25 : za 41 25 (.bipush (12)) 27 := ⟨rfl, rfl, rfl⟩
theorem z41_27 : za_y 41 27 30 := ⟨41, 0, .null, ⟨rfl, rfl, rfl⟩, rfl⟩
theorem z41_30 : za 41 30 (.aload_n 1) 31 := ⟨rfl, rfl, rfl⟩
theorem z41_31 : za_f 41 31 2 3 34 := ⟨18, 9, .null, ⟨rfl, rfl, rfl⟩, rfl, Or.inr (Or.inr rfl)⟩
theorem z41_34 : za 41 34 (.iconst 0) 35 := ⟨rfl, rfl, rfl⟩
theorem z41_35 : za 41 35 (.aload_n 0) 36 := ⟨rfl, rfl, rfl⟩
theorem z41_36 : za_f 41 36 2 3 39 := ⟨18, 9, .null, ⟨rfl, rfl, rfl⟩, rfl, Or.inr (Or.inr rfl)⟩
theorem z41_39 : za 41 39 (.iconst 0) 40 := ⟨rfl, rfl, rfl⟩
theorem z41_40 : za 41 40 (.iconst 4) 41 := ⟨rfl, rfl, rfl⟩
theorem z41_41 : za_y 41 41 44 := ⟨41, 0, .null, ⟨rfl, rfl, rfl⟩, rfl⟩
theorem z41_44 : za 41 44 (.aload_n 0) 45 := ⟨rfl, rfl, rfl⟩
theorem z41_45 : za 41 45 (.aload_n 1) 46 := ⟨rfl, rfl, rfl⟩
theorem z41_46 : za_f 41 46 2 4 49 := ⟨34, 0, .null, ⟨rfl, rfl, rfl⟩, rfl, Or.inl rfl⟩
theorem z41_49 : za_p 41 49 2 4 52 := ⟨34, 0, .null, ⟨rfl, rfl, rfl⟩, rfl, Or.inl rfl⟩
theorem z41_52 : za 41 52 (.aload_n 0) 53 := ⟨rfl, rfl, rfl⟩
theorem z41_53 : za 41 53 (.aload_n 1) 54 := ⟨rfl, rfl, rfl⟩
theorem z41_54 : za_f 41 54 2 5 57 := ⟨38, 0, .null, ⟨rfl, rfl, rfl⟩, rfl, Or.inl rfl⟩
theorem z41_57 : za_p 41 57 2 5 60 := ⟨38, 0, .null, ⟨rfl, rfl, rfl⟩, rfl, Or.inl rfl⟩
theorem z41_60 : za 41 60 (.return_) 61 := ⟨rfl, rfl, rfl⟩
theorem z42_0 : za 42 0 (.aload_n 0) 1 := ⟨rfl, rfl, rfl⟩
theorem z42_1 : za_f 42 1 2 1 4 := ⟨9, 9, .null, ⟨rfl, rfl, rfl⟩, rfl, Or.inr (Or.inr rfl)⟩
theorem z42_4 : za 42 4 (.iload_n 1) 5 := ⟨rfl, rfl, rfl⟩
theorem z42_5 : za 42 5 (.iaload) 6 := ⟨rfl, rfl, rfl⟩
theorem z42_6 : za 42 6 (.bipush (-4)) 8 := ⟨rfl, rfl, rfl⟩
theorem z42_8 : zb (.if_icmp .eq) 42 8 15 11 := ⟨7, ⟨rfl, rfl, rfl⟩, rfl⟩
theorem z42_11 : za 42 11 (.iconst 1) 12 := ⟨rfl, rfl, rfl⟩
theorem z42_12 : zb (.goto) 42 12 16 15 := ⟨4, ⟨rfl, rfl, rfl⟩, rfl⟩
theorem z42_15 : za 42 15 (.iconst 0) 16 := ⟨rfl, rfl, rfl⟩
theorem z42_16 : za 42 16 (.ireturn) 17 := ⟨rfl, rfl, rfl⟩
theorem z43_0 : za 43 0 (.aload_n 0) 1 := ⟨rfl, rfl, rfl⟩
theorem z43_1 : za_f 43 1 2 4 4 := ⟨34, 0, .null, ⟨rfl, rfl, rfl⟩, rfl, Or.inl rfl⟩
theorem z43_4 : za 43 4 (.aload_n 0) 5 := ⟨rfl, rfl, rfl⟩
theorem z43_5 : za_f 43 5 2 0 8 := ⟨21, 9, .null, ⟨rfl, rfl, rfl⟩, rfl, Or.inr (Or.inr rfl)⟩
theorem z43_8 : za_v 43 8 32 0 1 11 := ⟨47, ⟨rfl, rfl, rfl⟩, rfl⟩
theorem z43_11 : zb (.if_icmp .ne) 43 11 18 14 := ⟨7, ⟨rfl, rfl, rfl⟩, rfl⟩
theorem z43_14 : za 43 14 (.iconst 1) 15 := ⟨rfl, rfl, rfl⟩
theorem z43_15 : zb (.goto) 43 15 19 18 := ⟨4, ⟨rfl, rfl, rfl⟩, rfl⟩
theorem z43_18 : za 43 18 (.iconst 0) 19 := ⟨rfl, rfl, rfl⟩
theorem z43_19 : za 43 19 (.ireturn) 20 := ⟨rfl, rfl, rfl⟩
theorem z44_0 : za 44 0 (.aload_n 0) 1 := ⟨rfl, rfl, rfl⟩
theorem z44_1 : za_f 44 1 2 5 4 := ⟨38, 0, .null, ⟨rfl, rfl, rfl⟩, rfl, Or.inl rfl⟩
theorem z44_4 : za 44 4 (.aload_n 0) 5 := ⟨rfl, rfl, rfl⟩
theorem z44_5 : za_f 44 5 2 0 8 := ⟨21, 9, .null, ⟨rfl, rfl, rfl⟩, rfl, Or.inr (Or.inr rfl)⟩
theorem z44_8 : za_v 44 8 32 0 1 11 := ⟨47, ⟨rfl, rfl, rfl⟩, rfl⟩
theorem z44_11 : zb (.if_icmp .ne) 44 11 18 14 := ⟨7, ⟨rfl, rfl, rfl⟩, rfl⟩
theorem z44_14 : za 44 14 (.iconst 1) 15 := ⟨rfl, rfl, rfl⟩
theorem z44_15 : zb (.goto) 44 15 19 18 := ⟨4, ⟨rfl, rfl, rfl⟩, rfl⟩
theorem z44_18 : za 44 18 (.iconst 0) 19 := ⟨rfl, rfl, rfl⟩
theorem z44_19 : za 44 19 (.ireturn) 20 := ⟨rfl, rfl, rfl⟩
theorem z45_0 : za 45 0 (.aload_n 0) 1 := ⟨rfl, rfl, rfl⟩
theorem z45_1 : za_f 45 1 2 1 4 := ⟨9, 9, .null, ⟨rfl, rfl, rfl⟩, rfl, Or.inr (Or.inr rfl)⟩
theorem z45_4 : za 45 4 (.iload_n 2) 5 := ⟨rfl, rfl, rfl⟩
theorem z45_5 : za 45 5 (.aload_n 0) 6 := ⟨rfl, rfl, rfl⟩
theorem z45_6 : za_f 45 6 2 2 9 := ⟨15, 9, .null, ⟨rfl, rfl, rfl⟩, rfl, Or.inr (Or.inr rfl)⟩
theorem z45_9 : za 45 9 (.iload_n 1) 10 := ⟨rfl, rfl, rfl⟩
theorem z45_10 : za 45 10 (.iaload) 11 := ⟨rfl, rfl, rfl⟩
theorem z45_11 : za 45 11 (.iastore) 12 := ⟨rfl, rfl, rfl⟩
theorem z45_12 : za 45 12 (.aload_n 0) 13 := ⟨rfl, rfl, rfl⟩
theorem z45_13 : za_f 45 13 2 2 16 := ⟨15, 9, .null, ⟨rfl, rfl, rfl⟩, rfl, Or.inr (Or.inr rfl)⟩
theorem z45_16 : za 45 16 (.iload_n 1) 17 := ⟨rfl, rfl, rfl⟩
theorem z45_17 : za 45 17 (.iload_n 2) 18 := ⟨rfl, rfl, rfl⟩
theorem z45_18 : za 45 18 (.iastore) 19 := ⟨rfl, rfl, rfl⟩
theorem z45_19 : za 45 19 (.aload_n 0) 20 := ⟨rfl, rfl, rfl⟩
theorem z45_20 : za 45 20 (.dup) 21 := ⟨rfl, rfl, rfl⟩
theorem z45_21 : za_f 45 21 2 4 24 := ⟨34, 0, .null, ⟨rfl, rfl, rfl⟩, rfl, Or.inl rfl⟩
theorem z45_24 : za 45 24 (.iconst 1) 25 := ⟨rfl, rfl, rfl⟩
theorem z45_25 : za 45 25 (.iadd) 26 := ⟨rfl, rfl, rfl⟩
theorem z45_26 : za_p 45 26 2 4 29 := ⟨34, 0, .null, ⟨rfl, rfl, rfl⟩, rfl, Or.inl rfl⟩
theorem z45_29 : za 45 29 (.return_) 30 := ⟨rfl, rfl, rfl⟩
theorem z46_0 : za 46 0 (.iload_n 1) 1 := ⟨rfl, rfl, rfl⟩
theorem z46_1 : za 46 1 (.bipush (12)) 3 := ⟨rfl, rfl, rfl⟩
theorem z46_3 : zb (.if_icmp .ne) 46 3 11 6 := ⟨8, ⟨rfl, rfl, rfl⟩, rfl⟩
theorem z46_6 : za 46 6 (.aload_n 0) 7 := ⟨rfl, rfl, rfl⟩
theorem z46_7 : za_f 46 7 2 5 10 := ⟨38, 0, .null, ⟨rfl, rfl, rfl⟩, rfl, Or.inl rfl⟩
theorem z46_10 : za 46 10 (.ireturn) 11 := ⟨rfl, rfl, rfl⟩
theorem z46_11 : za 46 11 (.iconst 0) 12 := ⟨rfl, rfl, rfl⟩
theorem z46_12 : za 46 12 (.istore_n 2) 13 := ⟨rfl, rfl, rfl⟩
theorem z46_13 : za 46 13 (.aload_n 0) 14 := ⟨rfl, rfl, rfl⟩
theorem z46_14 : za_f 46 14 2 2 17 := ⟨15, 9, .null, ⟨rfl, rfl, rfl⟩, rfl, Or.inr (Or.inr rfl)⟩
theorem z46_17 : za 46 17 (.iload_n 1) 18 := ⟨rfl, rfl, rfl⟩
theorem z46_18 : za 46 18 (.iaload) 19 := ⟨rfl, rfl, rfl⟩
theorem z46_19 : za 46 19 (.istore_n 3) 20 := ⟨rfl, rfl, rfl⟩
theorem z46_20 : za 46 20 (.iload_n 3) 21 := ⟨rfl, rfl, rfl⟩
theorem z46_21 : zb (.ifCond .lt) 46 21 43 24 := ⟨22, ⟨rfl, rfl, rfl⟩, rfl⟩
theorem z46_24 : za 46 24 (.iload_n 2) 25 := ⟨rfl, rfl, rfl⟩
theorem z46_25 : za 46 25 (.bipush (52)) 27 := ⟨rfl, rfl, rfl⟩
theorem z46_27 : zb (.if_icmp .ge) 46 27 43 30 := ⟨16, ⟨rfl, rfl, rfl⟩, rfl⟩
theorem z46_30 : za 46 30 (.iinc 2 (1)) 33 := ⟨rfl, rfl, rfl⟩
theorem z46_33 : za 46 33 (.aload_n 0) 34 := ⟨rfl, rfl, rfl⟩
theorem z46_34 : za_f 46 34 2 1 37 := ⟨9, 9, .null, ⟨rfl, rfl, rfl⟩, rfl, Or.inr (Or.inr rfl)⟩
theorem z46_37 : za 46 37 (.iload_n 3) 38 := ⟨rfl, rfl, rfl⟩
theorem z46_38 : za 46 38 (.iaload) 39 := ⟨rfl, rfl, rfl⟩
theorem z46_39 : za 46 39 (.istore_n 3) 40 := ⟨rfl, rfl, rfl⟩
theorem z46_40 : zb (.goto) 46 40 20 43 := ⟨(-20), ⟨rfl, rfl, rfl⟩, rfl⟩
theorem z46_43 : za 46 43 (.iload_n 2) 44 := ⟨rfl, rfl, rfl⟩
theorem z46_44 : za 46 44 (.ireturn) 45 := ⟨rfl, rfl, rfl⟩
theorem z47_0 : za 47 0 (.iload_n 2) 1 := ⟨rfl, rfl, rfl⟩
theorem z47_1 : zb (.ifCond .ge) 47 1 6 4 := ⟨5, ⟨rfl, rfl, rfl⟩, rfl⟩
theorem z47_4 : za 47 4 (.iconst (-1)) 5 := ⟨rfl, rfl, rfl⟩
theorem z47_5 : za 47 5 (.ireturn) 6 := ⟨rfl, rfl, rfl⟩
theorem z47_6 : za 47 6 (.aload_n 0) 7 := ⟨rfl, rfl, rfl⟩
theorem z47_7 : za_f 47 7 2 2 10 := ⟨15, 9, .null, ⟨rfl, rfl, rfl⟩, rfl, Or.inr (Or.inr rfl)⟩
theorem z47_10 : za 47 10 (.iload_n 1) 11 := ⟨rfl, rfl, rfl⟩
theorem z47_11 : za 47 11 (.iaload) 12 := ⟨rfl, rfl, rfl⟩
theorem z47_12 : za 47 12 (.istore_n 3) 13 := ⟨rfl, rfl, rfl⟩
theorem z47_13 : za 47 13 (.iconst 0) 14 := ⟨rfl, rfl, rfl⟩
theorem z47_14 : za 47 14 (.istore 4) 16 := ⟨rfl, rfl, rfl⟩
theorem z47_16 : za 47 16 (.iload 4) 18 := ⟨rfl, rfl, rfl⟩
theorem z47_18 : za 47 18 (.iload_n 2) 19 := ⟨rfl, rfl, rfl⟩
theorem z47_19 : zb (.if_icmp .ge) 47 19 39 22 := ⟨20, ⟨rfl, rfl, rfl⟩, rfl⟩
theorem z47_22 : za 47 22 (.iload_n 3) 23 := ⟨rfl, rfl, rfl⟩
theorem z47_23 : zb (.ifCond .lt) 47 23 39 26 := ⟨16, ⟨rfl, rfl, rfl⟩, rfl⟩
theorem z47_26 : za 47 26 (.aload_n 0) 27 := ⟨rfl, rfl, rfl⟩
theorem z47_27 : za_f 47 27 2 1 30 := ⟨9, 9, .null, ⟨rfl, rfl, rfl⟩, rfl, Or.inr (Or.inr rfl)⟩
theorem z47_30 : za 47 30 (.iload_n 3) 31 := ⟨rfl, rfl, rfl⟩
theorem z47_31 : za 47 31 (.iaload) 32 := ⟨rfl, rfl, rfl⟩
theorem z47_32 : za 47 32 (.istore_n 3) 33 := ⟨rfl, rfl, rfl⟩
theorem z47_33 : za 47 33 (.iinc 4 (1)) 36 := ⟨rfl, rfl, rfl⟩
theorem z47_36 : zb (.goto) 47 36 16 39 := ⟨(-20), ⟨rfl, rfl, rfl⟩, rfl⟩
theorem z47_39 : za 47 39 (.iload_n 3) 40 := ⟨rfl, rfl, rfl⟩
theorem z47_40 : zb (.ifCond .lt) 47 40 47 43 := ⟨7, ⟨rfl, rfl, rfl⟩, rfl⟩
theorem z47_43 : za 47 43 (.iload_n 3) 44 := ⟨rfl, rfl, rfl⟩
theorem z47_44 : zb (.goto) 47 44 48 47 := ⟨4, ⟨rfl, rfl, rfl⟩, rfl⟩
theorem z47_47 : za 47 47 (.iconst (-1)) 48 := ⟨rfl, rfl, rfl⟩
theorem z47_48 : za 47 48 (.ireturn) 49 := ⟨rfl, rfl, rfl⟩
theorem z48_0 : za 48 0 (.iload_n 1) 1 := ⟨rfl, rfl, rfl⟩
theorem z48_1 : za 48 1 (.aload_n 0) 2 := ⟨rfl, rfl, rfl⟩
theorem z48_2 : za_f 48 2 2 0 5 := ⟨21, 9, .null, ⟨rfl, rfl, rfl⟩, rfl, Or.inr (Or.inr rfl)⟩
theorem z48_5 : za_f 48 5 1 4 8 := ⟨53, 0, .null, ⟨rfl, rfl, rfl⟩, rfl, Or.inl rfl⟩
theorem z48_8 : zb (.if_icmp .ge) 48 8 20 11 := ⟨12, ⟨rfl, rfl, rfl⟩, rfl⟩
theorem z48_11 : za 48 11 (.aload_n 0) 12 := ⟨rfl, rfl, rfl⟩
theorem z48_12 : za_f 48 12 2 3 15 := ⟨18, 9, .null, ⟨rfl, rfl, rfl⟩, rfl, Or.inr (Or.inr rfl)⟩
theorem z48_15 : za 48 15 (.iload_n 1) 16 := ⟨rfl, rfl, rfl⟩
theorem z48_16 : za 48 16 (.iaload) 17 := ⟨rfl, rfl, rfl⟩
theorem z48_17 : zb (.ifCond .ne) 48 17 22 20 := ⟨5, ⟨rfl, rfl, rfl⟩, rfl⟩
theorem z48_20 : za 48 20 (.iconst (-1)) 21 := ⟨rfl, rfl, rfl⟩
theorem z48_21 : za 48 21 (.ireturn) 22 := ⟨rfl, rfl, rfl⟩
theorem z48_22 : za 48 22 (.aload_n 0) 23 := ⟨rfl, rfl, rfl⟩
theorem z48_23 : za_f 48 23 2 0 26 := ⟨21, 9, .null, ⟨rfl, rfl, rfl⟩, rfl, Or.inr (Or.inr rfl)⟩
theorem z48_26 : za_f 48 26 1 4 29 := ⟨53, 0, .null, ⟨rfl, rfl, rfl⟩, rfl, Or.inl rfl⟩
theorem z48_29 : za 48 29 (.aload_n 0) 30 := ⟨rfl, rfl, rfl⟩
theorem z48_30 : za_f 48 30 2 3 33 := ⟨18, 9, .null, ⟨rfl, rfl, rfl⟩, rfl, Or.inr (Or.inr rfl)⟩
theorem z48_33 : za 48 33 (.iload_n 1) 34 := ⟨rfl, rfl, rfl⟩
theorem z48_34 : za 48 34 (.iaload) 35 := ⟨rfl, rfl, rfl⟩
theorem z48_35 : za 48 35 (.iconst 1) 36 := ⟨rfl, rfl, rfl⟩
theorem z48_36 : za 48 36 (.isub) 37 := ⟨rfl, rfl, rfl⟩
theorem z48_37 : za 48 37 (.imul) 38 := ⟨rfl, rfl, rfl⟩
theorem z48_38 : za 48 38 (.iload_n 1) 39 := ⟨rfl, rfl, rfl⟩
theorem z48_39 : za 48 39 (.iadd) 40 := ⟨rfl, rfl, rfl⟩
theorem z48_40 : za 48 40 (.ireturn) 41 := ⟨rfl, rfl, rfl⟩
theorem z49_0 : za 49 0 (.iload_n 3) 1 := ⟨rfl, rfl, rfl⟩
theorem z49_1 : za 49 1 (.iconst 1) 2 := ⟨rfl, rfl, rfl⟩
theorem z49_2 : zb (.if_icmp .ne) 49 2 14 5 := ⟨12, ⟨rfl, rfl, rfl⟩, rfl⟩
theorem z49_5 : za 49 5 (.aload_n 0) 6 := ⟨rfl, rfl, rfl⟩
theorem z49_6 : za 49 6 (.iload_n 1) 7 := ⟨rfl, rfl, rfl⟩
theorem z49_7 : za 49 7 (.iload_n 2) 8 := ⟨rfl, rfl, rfl⟩
theorem z49_8 : za_v 49 8 50 2 2 11 := ⟨56, ⟨rfl, rfl, rfl⟩, rfl⟩
theorem z49_11 : zb (.goto) 49 11 34 14 := ⟨23, ⟨rfl, rfl, rfl⟩, rfl⟩
theorem z49_14 : za 49 14 (.iload_n 3) 15 := ⟨rfl, rfl, rfl⟩
theorem z49_15 : za 49 15 (.iconst 1) 16 := ⟨rfl, rfl, rfl⟩
theorem z49_16 : zb (.if_icmp .le) 49 16 33 19 := ⟨17, ⟨rfl, rfl, rfl⟩, rfl⟩
theorem z49_19 : za 49 19 (.aload_n 0) 20 := ⟨rfl, rfl, rfl⟩
theorem z49_20 : za 49 20 (.iload_n 1) 21 := ⟨rfl, rfl, rfl⟩
theorem z49_21 : za 49 21 (.iload_n 2) 22 := ⟨rfl, rfl, rfl⟩
theorem z49_22 : za 49 22 (.iload_n 3) 23 := ⟨rfl, rfl, rfl⟩
theorem z49_23 : za_v 49 23 51 3 2 26 := ⟨60, ⟨rfl, rfl, rfl⟩, rfl⟩
theorem z49_26 : zb (.ifCond .eq) 49 26 33 29 := ⟨7, ⟨rfl, rfl, rfl⟩, rfl⟩
theorem z49_29 : za 49 29 (.iconst 1) 30 := ⟨rfl, rfl, rfl⟩
theorem z49_30 : zb (.goto) 49 30 34 33 := ⟨4, ⟨rfl, rfl, rfl⟩, rfl⟩
theorem z49_33 : za 49 33 (.iconst 0) 34 := ⟨rfl, rfl, rfl⟩
theorem z49_34 : za 49 34 (.ireturn) 35 := ⟨rfl, rfl, rfl⟩
theorem z50_0 : za 50 0 (.aload_n 0) 1 := ⟨rfl, rfl, rfl⟩
theorem z50_1 : za_f 50 1 2 2 4 := ⟨15, 9, .null, ⟨rfl, rfl, rfl⟩, rfl, Or.inr (Or.inr rfl)⟩
theorem z50_4 : za 50 4 (.iload_n 1) 5 := ⟨rfl, rfl, rfl⟩
theorem z50_5 : za 50 5 (.iaload) 6 := ⟨rfl, rfl, rfl⟩
theorem z50_6 : za 50 6 (.istore_n 3) 7 := ⟨rfl, rfl, rfl⟩
theorem z50_7 : za 50 7 (.iload_n 3) 8 := ⟨rfl, rfl, rfl⟩
theorem z50_8 : za 50 8 (.iconst (-1)) 9 := ⟨rfl, rfl, rfl⟩
theorem z50_9 : zb (.if_icmp .eq) 50 9 17 12 := ⟨8, ⟨rfl, rfl, rfl⟩, rfl⟩
theorem z50_12 : za 50 12 (.iload_n 1) 13 := ⟨rfl, rfl, rfl⟩
theorem z50_13 : za 50 13 (.iload_n 2) 14 := ⟨rfl, rfl, rfl⟩
theorem z50_14 : zb (.if_icmp .ne) 50 14 19 17 := ⟨5, ⟨rfl, rfl, rfl⟩, rfl⟩
theorem z50_17 : za 50 17 (.iconst 0) 18 := ⟨rfl, rfl, rfl⟩
theorem z50_18 : za 50 18 (.ireturn) 19 := ⟨rfl, rfl, rfl⟩
theorem z50_19 : za 50 19 (.aload_n 0) 20 := ⟨rfl, rfl, rfl⟩
theorem z50_20 : za_f 50 20 2 0 23 := ⟨21, 9, .null, ⟨rfl, rfl, rfl⟩, rfl, Or.inr (Or.inr rfl)⟩
theorem z50_23 : za 50 23 (.iload_n 2) 24 := ⟨rfl, rfl, rfl⟩
theorem z50_24 : za_v 50 24 29 1 1 27 := ⟨64, ⟨rfl, rfl, rfl⟩, rfl⟩
theorem z50_27 : zb (.ifCond .eq) 50 27 37 30 := ⟨10, ⟨rfl, rfl, rfl⟩, rfl⟩
theorem z50_30 : za 50 30 (.aload_n 0) 31 := ⟨rfl, rfl, rfl⟩
theorem z50_31 : za 50 31 (.iload_n 2) 32 := ⟨rfl, rfl, rfl⟩
theorem z50_32 : za 50 32 (.iload_n 3) 33 := ⟨rfl, rfl, rfl⟩
theorem z50_33 : za_v 50 33 52 2 2 36 := ⟨68, ⟨rfl, rfl, rfl⟩, rfl⟩
theorem z50_36 : za 50 36 (.ireturn) 37 := ⟨rfl, rfl, rfl⟩
theorem z50_37 : za 50 37 (.aload_n 0) 38 := ⟨rfl, rfl, rfl⟩
theorem z50_38 : za_f 50 38 2 0 41 := ⟨21, 9, .null, ⟨rfl, rfl, rfl⟩, rfl, Or.inr (Or.inr rfl)⟩
theorem z50_41 : za 50 41 (.iload_n 2) 42 := ⟨rfl, rfl, rfl⟩
theorem z50_42 : za_v 50 42 30 1 1 45 := ⟨71, ⟨rfl, rfl, rfl⟩, rfl⟩
theorem z50_45 : zb (.ifCond .eq) 50 45 75 48 := ⟨30, ⟨rfl, rfl, rfl⟩, rfl⟩
theorem z50_48 : za 50 48 (.aload_n 0) 49 := ⟨rfl, rfl, rfl⟩
theorem z50_49 : za_f 50 49 2 0 52 := ⟨21, 9, .null, ⟨rfl, rfl, rfl⟩, rfl, Or.inr (Or.inr rfl)⟩
theorem z50_52 : za 50 52 (.iload_n 1) 53 := ⟨rfl, rfl, rfl⟩
theorem z50_53 : za_v 50 53 29 1 1 56 := ⟨64, ⟨rfl, rfl, rfl⟩, rfl⟩
theorem z50_56 : zb (.ifCond .eq) 50 56 73 59 := ⟨17, ⟨rfl, rfl, rfl⟩, rfl⟩
theorem z50_59 : za 50 59 (.aload_n 0) 60 := ⟨rfl, rfl, rfl⟩
theorem z50_60 : za_f 50 60 2 2 63 := ⟨15, 9, .null, ⟨rfl, rfl, rfl⟩, rfl, Or.inr (Or.inr rfl)⟩
theorem z50_63 : za 50 63 (.iload_n 2) 64 := ⟨rfl, rfl, rfl⟩
theorem z50_64 : za 50 64 (.iaload) 65 := ⟨rfl, rfl, rfl⟩
theorem z50_65 : za 50 65 (.iconst (-1)) 66 := ⟨rfl, rfl, rfl⟩
theorem z50_66 : zb (.if_icmp .ne) 50 66 73 69 := ⟨7, ⟨rfl, rfl, rfl⟩, rfl⟩
theorem z50_69 : za 50 69 (.iconst 1) 70 := ⟨rfl, rfl, rfl⟩
theorem z50_70 : zb (.goto) 50 70 74 73 := ⟨4, ⟨rfl, rfl, rfl⟩, rfl⟩
theorem z50_73 : za 50 73 (.iconst 0) 74 := ⟨rfl, rfl, rfl⟩
theorem z50_74 : za 50 74 (.ireturn) 75 := ⟨rfl, rfl, rfl⟩
theorem z50_75 : za 50 75 (.iload_n 2) 76 := ⟨rfl, rfl, rfl⟩
theorem z50_76 : za 50 76 (.bipush (12)) 78 := ⟨rfl, rfl, rfl⟩
theorem z50_78 : zb (.if_icmp .ne) 50 78 93 81 := ⟨15, ⟨rfl, rfl, rfl⟩, rfl⟩
theorem z50_81 : za 50 81 (.aload_n 0) 82 := ⟨rfl, rfl, rfl⟩
theorem z50_82 : za 50 82 (.iload_n 3) 83 := ⟨rfl, rfl, rfl⟩
theorem z50_83 : za_v 50 83 57 1 2 86 := ⟨74, ⟨rfl, rfl, rfl⟩, rfl⟩
theorem z50_86 : zb (.ifCond .eq) 50 86 93 89 := ⟨7, ⟨rfl, rfl, rfl⟩, rfl⟩
theorem z50_89 : za 50 89 (.iconst 1) 90 := ⟨rfl, rfl, rfl⟩
theorem z50_90 : zb (.goto) 50 90 94 93 := ⟨4, ⟨rfl, rfl, rfl⟩, rfl⟩
theorem z50_93 : za 50 93 (.iconst 0) 94 := ⟨rfl, rfl, rfl⟩
theorem z50_94 : za 50 94 (.ireturn) 95 := ⟨rfl, rfl, rfl⟩
theorem z51_0 : za 51 0 (.aload_n 0) 1 := ⟨rfl, rfl, rfl⟩
theorem z51_1 : za_f 51 1 2 0 4 := ⟨21, 9, .null, ⟨rfl, rfl, rfl⟩, rfl, Or.inr (Or.inr rfl)⟩
theorem z51_4 : za 51 4 (.iload_n 1) 5 := ⟨rfl, rfl, rfl⟩
theorem z51_5 : za_v 51 5 29 1 1 8 := ⟨64, ⟨rfl, rfl, rfl⟩, rfl⟩
theorem z51_8 : zb (.ifCond .eq) 51 8 65 11 := ⟨57, ⟨rfl, rfl, rfl⟩, rfl⟩
theorem z51_11 : za 51 11 (.aload_n 0) 12 := ⟨rfl, rfl, rfl⟩
theorem z51_12 : za_f 51 12 2 0 15 := ⟨21, 9, .null, ⟨rfl, rfl, rfl⟩, rfl, Or.inr (Or.inr rfl)⟩
theorem z51_15 : za 51 15 (.iload_n 2) 16 := ⟨rfl, rfl, rfl⟩
theorem z51_16 : za_v 51 16 29 1 1 19 := ⟨64, ⟨rfl, rfl, rfl⟩, rfl⟩
theorem z51_19 : zb (.ifCond .eq) 51 19 65 22 := ⟨46, ⟨rfl, rfl, rfl⟩, rfl⟩
theorem z51_22 : za 51 22 (.iload_n 1) 23 := ⟨rfl, rfl, rfl⟩
theorem z51_23 : za 51 23 (.iload_n 2) 24 := ⟨rfl, rfl, rfl⟩
theorem z51_24 : zb (.if_icmp .eq) 51 24 65 27 := ⟨41, ⟨rfl, rfl, rfl⟩, rfl⟩
theorem z51_27 : za 51 27 (.iload_n 3) 28 := ⟨rfl, rfl, rfl⟩
theorem z51_28 : za 51 28 (.aload_n 0) 29 := ⟨rfl, rfl, rfl⟩
theorem z51_29 : za 51 29 (.iload_n 1) 30 := ⟨rfl, rfl, rfl⟩
theorem z51_30 : za_v 51 30 53 1 2 33 := ⟨77, ⟨rfl, rfl, rfl⟩, rfl⟩
theorem z51_33 : zb (.if_icmp .gt) 51 33 65 36 := ⟨32, ⟨rfl, rfl, rfl⟩, rfl⟩
theorem z51_36 : za 51 36 (.iload_n 3) 37 := ⟨rfl, rfl, rfl⟩
theorem z51_37 : za 51 37 (.aload_n 0) 38 := ⟨rfl, rfl, rfl⟩
theorem z51_38 : za 51 38 (.iload_n 2) 39 := ⟨rfl, rfl, rfl⟩
theorem z51_39 : za_v 51 39 54 1 2 42 := ⟨81, ⟨rfl, rfl, rfl⟩, rfl⟩
theorem z51_42 : zb (.if_icmp .gt) 51 42 65 45 := ⟨23, ⟨rfl, rfl, rfl⟩, rfl⟩
theorem z51_45 : za 51 45 (.aload_n 0) 46 := ⟨rfl, rfl, rfl⟩
theorem z51_46 : za 51 46 (.iload_n 2) 47 := ⟨rfl, rfl, rfl⟩
theorem z51_47 : za 51 47 (.aload_n 0) 48 := ⟨rfl, rfl, rfl⟩
theorem z51_48 : za 51 48 (.iload_n 1) 49 := ⟨rfl, rfl, rfl⟩
theorem z51_49 : za 51 49 (.iload_n 3) 50 := ⟨rfl, rfl, rfl⟩
theorem z51_50 : za 51 50 (.iconst 1) 51 := ⟨rfl, rfl, rfl⟩
theorem z51_51 : za 51 51 (.isub) 52 := ⟨rfl, rfl, rfl⟩
theorem z51_52 : za_v 51 52 47 2 2 55 := ⟨84, ⟨rfl, rfl, rfl⟩, rfl⟩
theorem z51_55 : za_v 51 55 52 2 2 58 := ⟨68, ⟨rfl, rfl, rfl⟩, rfl⟩
theorem z51_58 : zb (.ifCond .eq) 51 58 65 61 := ⟨7, ⟨rfl, rfl, rfl⟩, rfl⟩
theorem z51_61 : za 51 61 (.iconst 1) 62 := ⟨rfl, rfl, rfl⟩
theorem z51_62 : zb (.goto) 51 62 66 65 := ⟨4, ⟨rfl, rfl, rfl⟩, rfl⟩
theorem z51_65 : za 51 65 (.iconst 0) 66 := ⟨rfl, rfl, rfl⟩
theorem z51_66 : za 51 66 (.ireturn) 67 := ⟨rfl, rfl, rfl⟩
theorem z52_0 : za 52 0 (.aload_n 0) 1 := ⟨rfl, rfl, rfl⟩
theorem z52_1 : za_f 52 1 2 2 4 := ⟨15, 9, .null, ⟨rfl, rfl, rfl⟩, rfl, Or.inr (Or.inr rfl)⟩
theorem z52_4 : za 52 4 (.iload_n 1) 5 := ⟨rfl, rfl, rfl⟩
theorem z52_5 : za 52 5 (.iaload) 6 := ⟨rfl, rfl, rfl⟩
theorem z52_6 : za 52 6 (.iconst (-1)) 7 := ⟨rfl, rfl, rfl⟩
theorem z52_7 : zb (.if_icmp .ne) 52 7 21 10 := ⟨14, ⟨rfl, rfl, rfl⟩, rfl⟩
theorem z52_10 : za 52 10 (.aload_n 0) 11 := ⟨rfl, rfl, rfl⟩
theorem z52_11 : za_f 52 11 2 0 14 := ⟨21, 9, .null, ⟨rfl, rfl, rfl⟩, rfl, Or.inr (Or.inr rfl)⟩
theorem z52_14 : za 52 14 (.iload_n 2) 15 := ⟨rfl, rfl, rfl⟩
theorem z52_15 : za_v 52 15 38 1 1 18 := ⟨88, ⟨rfl, rfl, rfl⟩, rfl⟩
theorem z52_18 : zb (.goto) 52 18 35 21 := ⟨17, ⟨rfl, rfl, rfl⟩, rfl⟩
theorem z52_21 : za 52 21 (.aload_n 0) 22 := ⟨rfl, rfl, rfl⟩
theorem z52_22 : za_f 52 22 2 0 25 := ⟨21, 9, .null, ⟨rfl, rfl, rfl⟩, rfl, Or.inr (Or.inr rfl)⟩
theorem z52_25 : za 52 25 (.iload_n 2) 26 := ⟨rfl, rfl, rfl⟩
theorem z52_26 : za 52 26 (.aload_n 0) 27 := ⟨rfl, rfl, rfl⟩
theorem z52_27 : za_f 52 27 2 2 30 := ⟨15, 9, .null, ⟨rfl, rfl, rfl⟩, rfl, Or.inr (Or.inr rfl)⟩
theorem z52_30 : za 52 30 (.iload_n 1) 31 := ⟨rfl, rfl, rfl⟩
theorem z52_31 : za 52 31 (.iaload) 32 := ⟨rfl, rfl, rfl⟩
theorem z52_32 : za_v 52 32 37 2 1 35 := ⟨91, ⟨rfl, rfl, rfl⟩, rfl⟩
theorem z52_35 : za 52 35 (.ireturn) 36 := ⟨rfl, rfl, rfl⟩
theorem z53_0 : za 53 0 (.aload_n 0) 1 := ⟨rfl, rfl, rfl⟩
theorem z53_1 : za_f 53 1 2 2 4 := ⟨15, 9, .null, ⟨rfl, rfl, rfl⟩, rfl, Or.inr (Or.inr rfl)⟩
theorem z53_4 : za 53 4 (.iload_n 1) 5 := ⟨rfl, rfl, rfl⟩
theorem z53_5 : za 53 5 (.iaload) 6 := ⟨rfl, rfl, rfl⟩
theorem z53_6 : za 53 6 (.istore_n 2) 7 := ⟨rfl, rfl, rfl⟩
theorem z53_7 : za 53 7 (.iload_n 2) 8 := ⟨rfl, rfl, rfl⟩
theorem z53_8 : za 53 8 (.iconst (-1)) 9 := ⟨rfl, rfl, rfl⟩
theorem z53_9 : zb (.if_icmp .ne) 53 9 14 12 := ⟨5, ⟨rfl, rfl, rfl⟩, rfl⟩
theorem z53_12 : za 53 12 (.iconst 0) 13 := ⟨rfl, rfl, rfl⟩
theorem z53_13 : za 53 13 (.ireturn) 14 := ⟨rfl, rfl, rfl⟩
theorem z53_14 : za 53 14 (.iconst 1) 15 := ⟨rfl, rfl, rfl⟩
theorem z53_15 : za 53 15 (.istore_n 3) 16 := ⟨rfl, rfl, rfl⟩
theorem z53_16 : za 53 16 (.iload_n 3) 17 := ⟨rfl, rfl, rfl⟩
theorem z53_17 : za 53 17 (.bipush (13)) 19 := ⟨rfl, rfl, rfl⟩
theorem z53_19 : zb (.if_icmp .ge) 53 19 61 22 := ⟨42, ⟨rfl, rfl, rfl⟩, rfl⟩
theorem z53_22 : za 53 22 (.aload_n 0) 23 := ⟨rfl, rfl, rfl⟩
theorem z53_23 : za_f 53 23 2 1 26 := ⟨9, 9, .null, ⟨rfl, rfl, rfl⟩, rfl, Or.inr (Or.inr rfl)⟩
theorem z53_26 : za 53 26 (.iload_n 2) 27 := ⟨rfl, rfl, rfl⟩
theorem z53_27 : za 53 27 (.iaload) 28 := ⟨rfl, rfl, rfl⟩
theorem z53_28 : zb (.ifCond .lt) 53 28 61 31 := ⟨33, ⟨rfl, rfl, rfl⟩, rfl⟩
theorem z53_31 : za 53 31 (.aload_n 0) 32 := ⟨rfl, rfl, rfl⟩
theorem z53_32 : za_f 53 32 2 0 35 := ⟨21, 9, .null, ⟨rfl, rfl, rfl⟩, rfl, Or.inr (Or.inr rfl)⟩
theorem z53_35 : za 53 35 (.iload_n 2) 36 := ⟨rfl, rfl, rfl⟩
theorem z53_36 : za 53 36 (.aload_n 0) 37 := ⟨rfl, rfl, rfl⟩
theorem z53_37 : za_f 53 37 2 1 40 := ⟨9, 9, .null, ⟨rfl, rfl, rfl⟩, rfl, Or.inr (Or.inr rfl)⟩
theorem z53_40 : za 53 40 (.iload_n 2) 41 := ⟨rfl, rfl, rfl⟩
theorem z53_41 : za 53 41 (.iaload) 42 := ⟨rfl, rfl, rfl⟩
theorem z53_42 : za_v 53 42 37 2 1 45 := ⟨91, ⟨rfl, rfl, rfl⟩, rfl⟩
theorem z53_45 : zb (.ifCond .eq) 53 45 61 48 := ⟨16, ⟨rfl, rfl, rfl⟩, rfl⟩
theorem z53_48 : za 53 48 (.aload_n 0) 49 := ⟨rfl, rfl, rfl⟩
theorem z53_49 : za_f 53 49 2 1 52 := ⟨9, 9, .null, ⟨rfl, rfl, rfl⟩, rfl, Or.inr (Or.inr rfl)⟩
theorem z53_52 : za 53 52 (.iload_n 2) 53 := ⟨rfl, rfl, rfl⟩
theorem z53_53 : za 53 53 (.iaload) 54 := ⟨rfl, rfl, rfl⟩
theorem z53_54 : za 53 54 (.istore_n 2) 55 := ⟨rfl, rfl, rfl⟩
theorem z53_55 : za 53 55 (.iinc 3 (1)) 58 := ⟨rfl, rfl, rfl⟩
theorem z53_58 : zb (.goto) 53 58 16 61 := ⟨(-42), ⟨rfl, rfl, rfl⟩, rfl⟩
theorem z53_61 : za 53 61 (.iload_n 3) 62 := ⟨rfl, rfl, rfl⟩
theorem z53_62 : za 53 62 (.ireturn) 63 := ⟨rfl, rfl, rfl⟩
theorem z54_0 : za 54 0 (.aload_n 0) 1 := ⟨rfl, rfl, rfl⟩
theorem z54_1 : za 54 1 (.bipush (8)) 3 := ⟨rfl, rfl, rfl⟩
theorem z54_3 : za 54 3 (.aload_n 0) 4 := ⟨rfl, rfl, rfl⟩
theorem z54_4 : za_f 54 4 2 0 7 := ⟨21, 9, .null, ⟨rfl, rfl, rfl⟩, rfl, Or.inr (Or.inr rfl)⟩
theorem z54_7 : za_f 54 7 1 1 10 := ⟨94, 0, .null, ⟨rfl, rfl, rfl⟩, rfl, Or.inl rfl⟩
theorem z54_10 : za_v 54 10 55 2 2 13 := ⟨97, ⟨rfl, rfl, rfl⟩, rfl⟩
theorem z54_13 : za 54 13 (.istore_n 2) 14 := ⟨rfl, rfl, rfl⟩
theorem z54_14 : za 54 14 (.aload_n 0) 15 := ⟨rfl, rfl, rfl⟩
theorem z54_15 : za_f 54 15 2 0 18 := ⟨21, 9, .null, ⟨rfl, rfl, rfl⟩, rfl, Or.inr (Or.inr rfl)⟩
theorem z54_18 : za_f 54 18 1 3 21 := ⟨100, 0, .null, ⟨rfl, rfl, rfl⟩, rfl, Or.inl rfl⟩
theorem z54_21 : zb (.ifCond .eq) 54 21 28 24 := ⟨7, ⟨rfl, rfl, rfl⟩, rfl⟩
theorem z54_24 : za 54 24 (.iload_n 2) 25 := ⟨rfl, rfl, rfl⟩
theorem z54_25 : za 54 25 (.iconst 1) 26 := ⟨rfl, rfl, rfl⟩
theorem z54_26 : za 54 26 (.iadd) 27 := ⟨rfl, rfl, rfl⟩
theorem z54_27 : za 54 27 (.ireturn) 28 := ⟨rfl, rfl, rfl⟩
theorem z54_28 : za 54 28 (.aload_n 0) 29 := ⟨rfl, rfl, rfl⟩
theorem z54_29 : za 54 29 (.iconst 0) 30 := ⟨rfl, rfl, rfl⟩
theorem z54_30 : za 54 30 (.aload_n 0) 31 := ⟨rfl, rfl, rfl⟩
theorem z54_31 : za_f 54 31 2 0 34 := ⟨21, 9, .null, ⟨rfl, rfl, rfl⟩, rfl, Or.inr (Or.inr rfl)⟩
theorem z54_34 : za_f 54 34 1 0 37 := ⟨102, 0, .null, ⟨rfl, rfl, rfl⟩, rfl, Or.inl rfl⟩
theorem z54_37 : za_v 54 37 55 2 2 40 := ⟨97, ⟨rfl, rfl, rfl⟩, rfl⟩
theorem z54_40 : za 54 40 (.istore_n 3) 41 := ⟨rfl, rfl, rfl⟩
theorem z54_41 : za 54 41 (.aload_n 0) 42 := ⟨rfl, rfl, rfl⟩
theorem z54_42 : za_f 54 42 2 2 45 := ⟨15, 9, .null, ⟨rfl, rfl, rfl⟩, rfl, Or.inr (Or.inr rfl)⟩
theorem z54_45 : za 54 45 (.iload_n 1) 46 := ⟨rfl, rfl, rfl⟩
theorem z54_46 : za 54 46 (.iaload) 47 := ⟨rfl, rfl, rfl⟩
theorem z54_47 : za 54 47 (.iconst (-1)) 48 := ⟨rfl, rfl, rfl⟩
theorem z54_48 : zb (.if_icmp .ne) 54 48 57 51 := ⟨9, ⟨rfl, rfl, rfl⟩, rfl⟩
theorem z54_51 : za 54 51 (.iload_n 3) 52 := ⟨rfl, rfl, rfl⟩
theorem z54_52 : za 54 52 (.iconst 1) 53 := ⟨rfl, rfl, rfl⟩
theorem z54_53 : za 54 53 (.isub) 54 := ⟨rfl, rfl, rfl⟩
theorem z54_54 : zb (.goto) 54 54 58 57 := ⟨4, ⟨rfl, rfl, rfl⟩, rfl⟩
theorem z54_57 : za 54 57 (.iload_n 3) 58 := ⟨rfl, rfl, rfl⟩
theorem z54_58 : za 54 58 (.istore 4) 60 := ⟨rfl, rfl, rfl⟩
theorem z54_60 : za 54 60 (.iload_n 2) 61 := ⟨rfl, rfl, rfl⟩
theorem z54_61 : za 54 61 (.iconst 1) 62 := ⟨rfl, rfl, rfl⟩
theorem z54_62 : za 54 62 (.iadd) 63 := ⟨rfl, rfl, rfl⟩
theorem z54_63 : za 54 63 (.iload 4) 65 := ⟨rfl, rfl, rfl⟩
theorem z54_65 : za 54 65 (.ishl) 66 := ⟨rfl, rfl, rfl⟩
theorem z54_66 : za 54 66 (.ireturn) 67 := ⟨rfl, rfl, rfl⟩
theorem z55_0 : za 55 0 (.iconst 0) 1 := ⟨rfl, rfl, rfl⟩
theorem z55_1 : za 55 1 (.istore_n 3) 2 := ⟨rfl, rfl, rfl⟩
theorem z55_2 : za 55 2 (.iload_n 1) 3 := ⟨rfl, rfl, rfl⟩
theorem z55_3 : za 55 3 (.istore 4) 5 := ⟨rfl, rfl, rfl⟩
theorem z55_5 : za 55 5 (.iload 4) 7 := ⟨rfl, rfl, rfl⟩
theorem z55_7 : za 55 7 (.iload_n 1) 8 := ⟨rfl, rfl, rfl⟩
theorem z55_8 : za 55 8 (.iload_n 2) 9 := ⟨rfl, rfl, rfl⟩
theorem z55_9 : za 55 9 (.iadd) 10 := ⟨rfl, rfl, rfl⟩
theorem z55_10 : zb (.if_icmp .ge) 55 10 33 13 := ⟨23, ⟨rfl, rfl, rfl⟩, rfl⟩
theorem z55_13 : za 55 13 (.aload_n 0) 14 := ⟨rfl, rfl, rfl⟩
theorem z55_14 : za_f 55 14 2 2 17 := ⟨15, 9, .null, ⟨rfl, rfl, rfl⟩, rfl, Or.inr (Or.inr rfl)⟩
theorem z55_17 : za 55 17 (.iload 4) 19 := ⟨rfl, rfl, rfl⟩
theorem z55_19 : za 55 19 (.iaload) 20 := ⟨rfl, rfl, rfl⟩
theorem z55_20 : za 55 20 (.iconst (-1)) 21 := ⟨rfl, rfl, rfl⟩
theorem z55_21 : zb (.if_icmp .ne) 55 21 27 24 := ⟨6, ⟨rfl, rfl, rfl⟩, rfl⟩
theorem z55_24 : za 55 24 (.iinc 3 (1)) 27 := ⟨rfl, rfl, rfl⟩
theorem z55_27 : za 55 27 (.iinc 4 (1)) 30 := ⟨rfl, rfl, rfl⟩
theorem z55_30 : zb (.goto) 55 30 5 33 := ⟨(-25), ⟨rfl, rfl, rfl⟩, rfl⟩
theorem z55_33 : za 55 33 (.iload_n 3) 34 := ⟨rfl, rfl, rfl⟩
theorem z55_34 : za 55 34 (.ireturn) 35 := ⟨rfl, rfl, rfl⟩
theorem z56_0 : za 56 0 (.aload_n 0) 1 := ⟨rfl, rfl, rfl⟩
theorem z56_1 : za 56 1 (.iload_n 1) 2 := ⟨rfl, rfl, rfl⟩
theorem z56_2 : za_v 56 2 53 1 2 5 := ⟨77, ⟨rfl, rfl, rfl⟩, rfl⟩
theorem z56_5 : za 56 5 (.istore_n 3) 6 := ⟨rfl, rfl, rfl⟩
theorem z56_6 : za 56 6 (.iload_n 3) 7 := ⟨rfl, rfl, rfl⟩
theorem z56_7 : zb (.ifCond .le) 56 7 28 10 := ⟨21, ⟨rfl, rfl, rfl⟩, rfl⟩
theorem z56_10 : za 56 10 (.aload_n 0) 11 := ⟨rfl, rfl, rfl⟩
theorem z56_11 : za 56 11 (.iload_n 1) 12 := ⟨rfl, rfl, rfl⟩
theorem z56_12 : za 56 12 (.iload_n 2) 13 := ⟨rfl, rfl, rfl⟩
theorem z56_13 : za 56 13 (.iload_n 3) 14 := ⟨rfl, rfl, rfl⟩
theorem z56_14 : za_v 56 14 49 3 2 17 := ⟨105, ⟨rfl, rfl, rfl⟩, rfl⟩
theorem z56_17 : zb (.ifCond .eq) 56 17 22 20 := ⟨5, ⟨rfl, rfl, rfl⟩, rfl⟩
theorem z56_20 : za 56 20 (.iload_n 3) 21 := ⟨rfl, rfl, rfl⟩
theorem z56_21 : za 56 21 (.ireturn) 22 := ⟨rfl, rfl, rfl⟩
theorem z56_22 : za 56 22 (.iinc 3 (-1)) 25 := ⟨rfl, rfl, rfl⟩
theorem z56_25 : zb (.goto) 56 25 6 28 := ⟨(-19), ⟨rfl, rfl, rfl⟩, rfl⟩
theorem z56_28 : za 56 28 (.iconst 0) 29 := ⟨rfl, rfl, rfl⟩
theorem z56_29 : za 56 29 (.ireturn) 30 := ⟨rfl, rfl, rfl⟩
theorem z57_0 : za 57 0 (.aload_n 0) 1 := ⟨rfl, rfl, rfl⟩
theorem z57_1 : za_f 57 1 2 0 4 := ⟨21, 9, .null, ⟨rfl, rfl, rfl⟩, rfl, Or.inr (Or.inr rfl)⟩
theorem z57_4 : za 57 4 (.iload_n 1) 5 := ⟨rfl, rfl, rfl⟩
theorem z57_5 : za_v 57 5 34 1 1 8 := ⟨108, ⟨rfl, rfl, rfl⟩, rfl⟩
theorem z57_8 : za 57 8 (.aload_n 0) 9 := ⟨rfl, rfl, rfl⟩
theorem z57_9 : za_f 57 9 2 3 12 := ⟨18, 9, .null, ⟨rfl, rfl, rfl⟩, rfl, Or.inr (Or.inr rfl)⟩
theorem z57_12 : za 57 12 (.aload_n 0) 13 := ⟨rfl, rfl, rfl⟩
theorem z57_13 : za_f 57 13 2 0 16 := ⟨21, 9, .null, ⟨rfl, rfl, rfl⟩, rfl, Or.inr (Or.inr rfl)⟩
theorem z57_16 : za 57 16 (.iload_n 1) 17 := ⟨rfl, rfl, rfl⟩
theorem z57_17 : za_v 57 17 35 1 1 20 := ⟨111, ⟨rfl, rfl, rfl⟩, rfl⟩
theorem z57_20 : za 57 20 (.iaload) 21 := ⟨rfl, rfl, rfl⟩
theorem z57_21 : za 57 21 (.iconst 1) 22 := ⟨rfl, rfl, rfl⟩
theorem z57_22 : za 57 22 (.iadd) 23 := ⟨rfl, rfl, rfl⟩
theorem z57_23 : zb (.if_icmp .ne) 57 23 30 26 := ⟨7, ⟨rfl, rfl, rfl⟩, rfl⟩
theorem z57_26 : za 57 26 (.iconst 1) 27 := ⟨rfl, rfl, rfl⟩
theorem z57_27 : zb (.goto) 57 27 31 30 := ⟨4, ⟨rfl, rfl, rfl⟩, rfl⟩
theorem z57_30 : za 57 30 (.iconst 0) 31 := ⟨rfl, rfl, rfl⟩
theorem z57_31 : za 57 31 (.ireturn) 32 := ⟨rfl, rfl, rfl⟩
theorem z58_0 : za 58 0 (.bipush (8)) 2 := ⟨rfl, rfl, rfl⟩
theorem z58_2 : za 58 2 (.istore_n 1) 3 := ⟨rfl, rfl, rfl⟩
theorem z58_3 : za 58 3 (.iload_n 1) 4 := ⟨rfl, rfl, rfl⟩
theorem z58_4 : za 58 4 (.bipush (12)) 6 := ⟨rfl, rfl, rfl⟩
theorem z58_6 : zb (.if_icmp .ge) 58 6 25 9 := ⟨19, ⟨rfl, rfl, rfl⟩, rfl⟩
theorem z58_9 : za 58 9 (.aload_n 0) 10 := ⟨rfl, rfl, rfl⟩
theorem z58_10 : za 58 10 (.iload_n 1) 11 := ⟨rfl, rfl, rfl⟩
theorem z58_11 : za_v 58 11 59 1 2 14 := ⟨114, ⟨rfl, rfl, rfl⟩, rfl⟩
theorem z58_14 : zb (.ifCond .eq) 58 14 19 17 := ⟨5, ⟨rfl, rfl, rfl⟩, rfl⟩
theorem z58_17 : za 58 17 (.iload_n 1) 18 := ⟨rfl, rfl, rfl⟩
theorem z58_18 : za 58 18 (.ireturn) 19 := ⟨rfl, rfl, rfl⟩
theorem z58_19 : za 58 19 (.iinc 1 (1)) 22 := ⟨rfl, rfl, rfl⟩
theorem z58_22 : zb (.goto) 58 22 3 25 := ⟨(-19), ⟨rfl, rfl, rfl⟩, rfl⟩
theorem z58_25 : za 58 25 (.iconst 0) 26 := ⟨rfl, rfl, rfl⟩
theorem z58_26 : za 58 26 (.istore_n 1) 27 := ⟨rfl, rfl, rfl⟩
theorem z58_27 : za 58 27 (.iload_n 1) 28 := ⟨rfl, rfl, rfl⟩
theorem z58_28 : za 58 28 (.bipush (8)) 30 := ⟨rfl, rfl, rfl⟩
theorem z58_30 : zb (.if_icmp .ge) 58 30 49 33 := ⟨19, ⟨rfl, rfl, rfl⟩, rfl⟩
theorem z58_33 : za 58 33 (.aload_n 0) 34 := ⟨rfl, rfl, rfl⟩
theorem z58_34 : za 58 34 (.iload_n 1) 35 := ⟨rfl, rfl, rfl⟩
theorem z58_35 : za_v 58 35 59 1 2 38 := ⟨114, ⟨rfl, rfl, rfl⟩, rfl⟩
theorem z58_38 : zb (.ifCond .eq) 58 38 43 41 := ⟨5, ⟨rfl, rfl, rfl⟩, rfl⟩
theorem z58_41 : za 58 41 (.iload_n 1) 42 := ⟨rfl, rfl, rfl⟩
theorem z58_42 : za 58 42 (.ireturn) 43 := ⟨rfl, rfl, rfl⟩
theorem z58_43 : za 58 43 (.iinc 1 (1)) 46 := ⟨rfl, rfl, rfl⟩
theorem z58_46 : zb (.goto) 58 46 27 49 := ⟨(-19), ⟨rfl, rfl, rfl⟩, rfl⟩
theorem z58_49 : za 58 49 (.iconst (-1)) 50 := ⟨rfl, rfl, rfl⟩
theorem z58_50 : za 58 50 (.ireturn) 51 := ⟨rfl, rfl, rfl⟩
theorem z59_0 : za 59 0 (.aload_n 0) 1 := ⟨rfl, rfl, rfl⟩
theorem z59_1 : za_f 59 1 2 2 4 := ⟨15, 9, .null, ⟨rfl, rfl, rfl⟩, rfl, Or.inr (Or.inr rfl)⟩
theorem z59_4 : za 59 4 (.iload_n 1) 5 := ⟨rfl, rfl, rfl⟩
theorem z59_5 : za 59 5 (.iaload) 6 := ⟨rfl, rfl, rfl⟩
theorem z59_6 : za 59 6 (.istore_n 2) 7 := ⟨rfl, rfl, rfl⟩
theorem z59_7 : za 59 7 (.iload_n 2) 8 := ⟨rfl, rfl, rfl⟩
theorem z59_8 : za 59 8 (.iconst (-1)) 9 := ⟨rfl, rfl, rfl⟩
theorem z59_9 : zb (.if_icmp .eq) 59 9 32 12 := ⟨23, ⟨rfl, rfl, rfl⟩, rfl⟩
theorem z59_12 : za 59 12 (.aload_n 0) 13 := ⟨rfl, rfl, rfl⟩
theorem z59_13 : za 59 13 (.iload_n 2) 14 := ⟨rfl, rfl, rfl⟩
theorem z59_14 : za_v 59 14 57 1 2 17 := ⟨74, ⟨rfl, rfl, rfl⟩, rfl⟩
theorem z59_17 : zb (.ifCond .eq) 59 17 32 20 := ⟨15, ⟨rfl, rfl, rfl⟩, rfl⟩
theorem z59_20 : za 59 20 (.aload_n 0) 21 := ⟨rfl, rfl, rfl⟩
theorem z59_21 : za 59 21 (.iload_n 2) 22 := ⟨rfl, rfl, rfl⟩
theorem z59_22 : za_v 59 22 60 1 2 25 := ⟨117, ⟨rfl, rfl, rfl⟩, rfl⟩
theorem z59_25 : zb (.ifCond .eq) 59 25 32 28 := ⟨7, ⟨rfl, rfl, rfl⟩, rfl⟩
theorem z59_28 : za 59 28 (.iconst 1) 29 := ⟨rfl, rfl, rfl⟩
theorem z59_29 : zb (.goto) 59 29 33 32 := ⟨4, ⟨rfl, rfl, rfl⟩, rfl⟩
theorem z59_32 : za 59 32 (.iconst 0) 33 := ⟨rfl, rfl, rfl⟩
theorem z59_33 : za 59 33 (.ireturn) 34 := ⟨rfl, rfl, rfl⟩
theorem z60_0 : za 60 0 (.aload_n 0) 1 := ⟨rfl, rfl, rfl⟩
theorem z60_1 : za_f 60 1 2 0 4 := ⟨21, 9, .null, ⟨rfl, rfl, rfl⟩, rfl, Or.inr (Or.inr rfl)⟩
theorem z60_4 : za 60 4 (.iload_n 1) 5 := ⟨rfl, rfl, rfl⟩
theorem z60_5 : za_v 60 5 34 1 1 8 := ⟨108, ⟨rfl, rfl, rfl⟩, rfl⟩
theorem z60_8 : za 60 8 (.istore_n 2) 9 := ⟨rfl, rfl, rfl⟩
theorem z60_9 : za 60 9 (.aload_n 0) 10 := ⟨rfl, rfl, rfl⟩
theorem z60_10 : za_f 60 10 2 0 13 := ⟨21, 9, .null, ⟨rfl, rfl, rfl⟩, rfl, Or.inr (Or.inr rfl)⟩
theorem z60_13 : za_f 60 13 1 2 16 := ⟨120, 0, .null, ⟨rfl, rfl, rfl⟩, rfl, Or.inl rfl⟩
theorem z60_16 : za 60 16 (.iconst 1) 17 := ⟨rfl, rfl, rfl⟩
theorem z60_17 : zb (.if_icmp .eq) 60 17 25 20 := ⟨8, ⟨rfl, rfl, rfl⟩, rfl⟩
theorem z60_20 : za 60 20 (.iload_n 2) 21 := ⟨rfl, rfl, rfl⟩
theorem z60_21 : za 60 21 (.iconst 2) 22 := ⟨rfl, rfl, rfl⟩
theorem z60_22 : zb (.if_icmp .gt) 60 22 27 25 := ⟨5, ⟨rfl, rfl, rfl⟩, rfl⟩
theorem z60_25 : za 60 25 (.iconst 1) 26 := ⟨rfl, rfl, rfl⟩
theorem z60_26 : za 60 26 (.ireturn) 27 := ⟨rfl, rfl, rfl⟩
theorem z60_27 : za 60 27 (.aload_n 0) 28 := ⟨rfl, rfl, rfl⟩
theorem z60_28 : za_f 60 28 2 0 31 := ⟨21, 9, .null, ⟨rfl, rfl, rfl⟩, rfl, Or.inr (Or.inr rfl)⟩
theorem z60_31 : za 60 31 (.aload_n 0) 32 := ⟨rfl, rfl, rfl⟩
theorem z60_32 : za_f 60 32 2 0 35 := ⟨21, 9, .null, ⟨rfl, rfl, rfl⟩, rfl, Or.inr (Or.inr rfl)⟩
theorem z60_35 : za 60 35 (.iload_n 1) 36 := ⟨rfl, rfl, rfl⟩
theorem z60_36 : za_v 60 36 35 1 1 39 := ⟨111, ⟨rfl, rfl, rfl⟩, rfl⟩
theorem z60_39 : za_v 60 39 36 1 1 42 := ⟨123, ⟨rfl, rfl, rfl⟩, rfl⟩
theorem z60_42 : za 60 42 (.istore_n 3) 43 := ⟨rfl, rfl, rfl⟩
theorem z60_43 : za 60 43 (.iconst 0) 44 := ⟨rfl, rfl, rfl⟩
theorem z60_44 : za 60 44 (.istore 4) 46 := ⟨rfl, rfl, rfl⟩
theorem z60_46 : za 60 46 (.iload 4) 48 := ⟨rfl, rfl, rfl⟩
theorem z60_48 : za 60 48 (.aload_n 0) 49 := ⟨rfl, rfl, rfl⟩
theorem z60_49 : za_f 60 49 2 0 52 := ⟨21, 9, .null, ⟨rfl, rfl, rfl⟩, rfl, Or.inr (Or.inr rfl)⟩
theorem z60_52 : za_f 60 52 1 4 55 := ⟨53, 0, .null, ⟨rfl, rfl, rfl⟩, rfl, Or.inl rfl⟩
theorem z60_55 : zb (.if_icmp .ge) 60 55 114 58 := ⟨59, ⟨rfl, rfl, rfl⟩, rfl⟩
theorem z60_58 : za 60 58 (.aload_n 0) 59 := ⟨rfl, rfl, rfl⟩
theorem z60_59 : za_f 60 59 2 0 62 := ⟨21, 9, .null, ⟨rfl, rfl, rfl⟩, rfl, Or.inr (Or.inr rfl)⟩
theorem z60_62 : za_f 60 62 1 2 65 := ⟨120, 0, .null, ⟨rfl, rfl, rfl⟩, rfl, Or.inl rfl⟩
theorem z60_65 : zb (.ifCond .ne) 60 65 81 68 := ⟨16, ⟨rfl, rfl, rfl⟩, rfl⟩
theorem z60_68 : za 60 68 (.aload_n 0) 69 := ⟨rfl, rfl, rfl⟩
theorem z60_69 : za_f 60 69 2 0 72 := ⟨21, 9, .null, ⟨rfl, rfl, rfl⟩, rfl, Or.inr (Or.inr rfl)⟩
theorem z60_72 : za 60 72 (.iload 4) 74 := ⟨rfl, rfl, rfl⟩
theorem z60_74 : za_v 60 74 36 1 1 77 := ⟨123, ⟨rfl, rfl, rfl⟩, rfl⟩
theorem z60_77 : za 60 77 (.iload_n 3) 78 := ⟨rfl, rfl, rfl⟩
theorem z60_78 : zb (.if_icmp .eq) 60 78 85 81 := ⟨7, ⟨rfl, rfl, rfl⟩, rfl⟩
theorem z60_81 : za 60 81 (.iconst 1) 82 := ⟨rfl, rfl, rfl⟩
theorem z60_82 : zb (.goto) 60 82 86 85 := ⟨4, ⟨rfl, rfl, rfl⟩, rfl⟩
theorem z60_85 : za 60 85 (.iconst 0) 86 := ⟨rfl, rfl, rfl⟩
theorem z60_86 : za 60 86 (.istore 5) 88 := ⟨rfl, rfl, rfl⟩
theorem z60_88 : za 60 88 (.iload 5) 90 := ⟨rfl, rfl, rfl⟩
theorem z60_90 : zb (.ifCond .eq) 60 90 108 93 := ⟨18, ⟨rfl, rfl, rfl⟩, rfl⟩
theorem z60_93 : za 60 93 (.aload_n 0) 94 := ⟨rfl, rfl, rfl⟩
theorem z60_94 : za_f 60 94 2 3 97 := ⟨18, 9, .null, ⟨rfl, rfl, rfl⟩, rfl, Or.inr (Or.inr rfl)⟩
theorem z60_97 : za 60 97 (.iload 4) 99 := ⟨rfl, rfl, rfl⟩
theorem z60_99 : za 60 99 (.iaload) 100 := ⟨rfl, rfl, rfl⟩
theorem z60_100 : za 60 100 (.iload_n 2) 101 := ⟨rfl, rfl, rfl⟩
theorem z60_101 : za 60 101 (.iconst 1) 102 := ⟨rfl, rfl, rfl⟩
theorem z60_102 : za 60 102 (.isub) 103 := ⟨rfl, rfl, rfl⟩
theorem z60_103 : zb (.if_icmp .ge) 60 103 108 106 := ⟨5, ⟨rfl, rfl, rfl⟩, rfl⟩
theorem z60_106 : za 60 106 (.iconst 0) 107 := ⟨rfl, rfl, rfl⟩
theorem z60_107 : za 60 107 (.ireturn) 108 := ⟨rfl, rfl, rfl⟩
theorem z60_108 : za 60 108 (.iinc 4 (1)) 111 := ⟨rfl, rfl, rfl⟩
theorem z60_111 : zb (.goto) 60 111 46 114 := ⟨(-65), ⟨rfl, rfl, rfl⟩, rfl⟩
theorem z60_114 : za 60 114 (.iconst 1) 115 := ⟨rfl, rfl, rfl⟩
theorem z60_115 : za 60 115 (.ireturn) 116 := ⟨rfl, rfl, rfl⟩
theorem z61_0 : za 61 0 (.iload_n 1) 1 := ⟨rfl, rfl, rfl⟩
theorem z61_1 : za 61 1 (.bipush (12)) 3 := ⟨rfl, rfl, rfl⟩
theorem z61_3 : zb (.if_icmp .ne) 61 3 9 6 := ⟨6, ⟨rfl, rfl, rfl⟩, rfl⟩
theorem z61_6 : za 61 6 (.bipush (-3)) 8 := ⟨rfl, rfl, rfl⟩
theorem z61_8 : za 61 8 (.ireturn) 9 := ⟨rfl, rfl, rfl⟩
theorem z61_9 : za 61 9 (.iload_n 1) 10 := ⟨rfl, rfl, rfl⟩
theorem z61_10 : za 61 10 (.bipush (8)) 12 := ⟨rfl, rfl, rfl⟩
theorem z61_12 : zb (.if_icmp .lt) 61 12 20 15 := ⟨8, ⟨rfl, rfl, rfl⟩, rfl⟩
theorem z61_15 : za 61 15 (.bipush (-2)) 17 := ⟨rfl, rfl, rfl⟩
theorem z61_17 : zb (.goto) 61 17 26 20 := ⟨9, ⟨rfl, rfl, rfl⟩, rfl⟩
theorem z61_20 : za 61 20 (.aload_n 0) 21 := ⟨rfl, rfl, rfl⟩
theorem z61_21 : za_f 61 21 2 2 24 := ⟨15, 9, .null, ⟨rfl, rfl, rfl⟩, rfl, Or.inr (Or.inr rfl)⟩
theorem z61_24 : za 61 24 (.iload_n 1) 25 := ⟨rfl, rfl, rfl⟩
theorem z61_25 : za 61 25 (.iaload) 26 := ⟨rfl, rfl, rfl⟩
theorem z61_26 : za 61 26 (.ireturn) 27 := ⟨rfl, rfl, rfl⟩
theorem z62_0 : za 62 0 (.iload_n 2) 1 := ⟨rfl, rfl, rfl⟩
theorem z62_1 : za 62 1 (.bipush (12)) 3 := ⟨rfl, rfl, rfl⟩
theorem z62_3 : zb (.if_icmp .ne) 62 3 10 6 := ⟨7, ⟨rfl, rfl, rfl⟩, rfl⟩
theorem z62_6 : za 62 6 (.iload_n 1) 7 := ⟨rfl, rfl, rfl⟩
theorem z62_7 : zb (.goto) 62 7 16 10 := ⟨9, ⟨rfl, rfl, rfl⟩, rfl⟩
theorem z62_10 : za 62 10 (.aload_n 0) 11 := ⟨rfl, rfl, rfl⟩
theorem z62_11 : za_f 62 11 2 2 14 := ⟨15, 9, .null, ⟨rfl, rfl, rfl⟩, rfl, Or.inr (Or.inr rfl)⟩
theorem z62_14 : za 62 14 (.iload_n 2) 15 := ⟨rfl, rfl, rfl⟩
theorem z62_15 : za 62 15 (.iaload) 16 := ⟨rfl, rfl, rfl⟩
theorem z62_16 : za 62 16 (.istore 4) 18 := ⟨rfl, rfl, rfl⟩
theorem z62_18 : za 62 18 (.aload_n 0) 19 := ⟨rfl, rfl, rfl⟩
theorem z62_19 : za_f 62 19 2 1 22 := ⟨9, 9, .null, ⟨rfl, rfl, rfl⟩, rfl, Or.inr (Or.inr rfl)⟩
theorem z62_22 : za 62 22 (.iload_n 1) 23 := ⟨rfl, rfl, rfl⟩
theorem z62_23 : za 62 23 (.iaload) 24 := ⟨rfl, rfl, rfl⟩
theorem z62_24 : za 62 24 (.istore 5) 26 := ⟨rfl, rfl, rfl⟩
theorem z62_26 : za 62 26 (.aload_n 0) 27 := ⟨rfl, rfl, rfl⟩
theorem z62_27 : za_f 62 27 2 1 30 := ⟨9, 9, .null, ⟨rfl, rfl, rfl⟩, rfl, Or.inr (Or.inr rfl)⟩
theorem z62_30 : za 62 30 (.iload_n 1) 31 := ⟨rfl, rfl, rfl⟩
theorem z62_31 : za 62 31 (.aload_n 0) 32 := ⟨rfl, rfl, rfl⟩
theorem z62_32 : za 62 32 (.iload_n 3) 33 := ⟨rfl, rfl, rfl⟩
theorem z62_33 : za_v 62 33 61 1 2 36 := ⟨126, ⟨rfl, rfl, rfl⟩, rfl⟩
theorem z62_36 : za 62 36 (.iastore) 37 := ⟨rfl, rfl, rfl⟩
theorem z62_37 : za 62 37 (.iload_n 2) 38 := ⟨rfl, rfl, rfl⟩
theorem z62_38 : za 62 38 (.bipush (12)) 40 := ⟨rfl, rfl, rfl⟩
theorem z62_40 : zb (.if_icmp .ne) 62 40 73 43 := ⟨33, ⟨rfl, rfl, rfl⟩, rfl⟩
theorem z62_43 : za 62 43 (.aload_n 0) 44 := ⟨rfl, rfl, rfl⟩
theorem z62_44 : za_f 62 44 2 3 47 := ⟨18, 9, .null, ⟨rfl, rfl, rfl⟩, rfl, Or.inr (Or.inr rfl)⟩
theorem z62_47 : za 62 47 (.aload_n 0) 48 := ⟨rfl, rfl, rfl⟩
theorem z62_48 : za_f 62 48 2 0 51 := ⟨21, 9, .null, ⟨rfl, rfl, rfl⟩, rfl, Or.inr (Or.inr rfl)⟩
theorem z62_51 : za 62 51 (.iload_n 1) 52 := ⟨rfl, rfl, rfl⟩
theorem z62_52 : za_v 62 52 35 1 1 55 := ⟨111, ⟨rfl, rfl, rfl⟩, rfl⟩
theorem z62_55 : za 62 55 (.dup2) 56 := ⟨rfl, rfl, rfl⟩
theorem z62_56 : za 62 56 (.iaload) 57 := ⟨rfl, rfl, rfl⟩
theorem z62_57 : za 62 57 (.iconst 1) 58 := ⟨rfl, rfl, rfl⟩
theorem z62_58 : za 62 58 (.isub) 59 := ⟨rfl, rfl, rfl⟩
theorem z62_59 : za 62 59 (.iastore) 60 := ⟨rfl, rfl, rfl⟩
theorem z62_60 : za 62 60 (.aload_n 0) 61 := ⟨rfl, rfl, rfl⟩
theorem z62_61 : za 62 61 (.dup) 62 := ⟨rfl, rfl, rfl⟩
theorem z62_62 : za_f 62 62 2 5 65 := ⟨38, 0, .null, ⟨rfl, rfl, rfl⟩, rfl, Or.inl rfl⟩
theorem z62_65 : za 62 65 (.iconst 1) 66 := ⟨rfl, rfl, rfl⟩
theorem z62_66 : za 62 66 (.isub) 67 := ⟨rfl, rfl, rfl⟩
theorem z62_67 : za_p 62 67 2 5 70 := ⟨38, 0, .null, ⟨rfl, rfl, rfl⟩, rfl, Or.inl rfl⟩
theorem z62_70 : zb (.goto) 62 70 91 73 := ⟨21, ⟨rfl, rfl, rfl⟩, rfl⟩
theorem z62_73 : za 62 73 (.aload_n 0) 74 := ⟨rfl, rfl, rfl⟩
theorem z62_74 : za_f 62 74 2 2 77 := ⟨15, 9, .null, ⟨rfl, rfl, rfl⟩, rfl, Or.inr (Or.inr rfl)⟩
theorem z62_77 : za 62 77 (.iload_n 2) 78 := ⟨rfl, rfl, rfl⟩
theorem z62_78 : za 62 78 (.iload_n 2) 79 := ⟨rfl, rfl, rfl⟩
theorem z62_79 : za 62 79 (.bipush (8)) 81 := ⟨rfl, rfl, rfl⟩
theorem z62_81 : zb (.if_icmp .lt) 62 81 88 84 := ⟨7, ⟨rfl, rfl, rfl⟩, rfl⟩
theorem z62_84 : za 62 84 (.iconst (-1)) 85 := ⟨rfl, rfl, rfl⟩
theorem z62_85 : zb (.goto) 62 85 90 88 := ⟨5, ⟨rfl, rfl, rfl⟩, rfl⟩
theorem z62_88 : za 62 88 (.iload 5) 90 := ⟨rfl, rfl, rfl⟩
theorem z62_90 : za 62 90 (.iastore) 91 := ⟨rfl, rfl, rfl⟩
theorem z62_91 : za 62 91 (.iload_n 3) 92 := ⟨rfl, rfl, rfl⟩
theorem z62_92 : za 62 92 (.bipush (12)) 94 := ⟨rfl, rfl, rfl⟩
theorem z62_94 : zb (.if_icmp .ne) 62 94 127 97 := ⟨33, ⟨rfl, rfl, rfl⟩, rfl⟩
theorem z62_97 : za 62 97 (.aload_n 0) 98 := ⟨rfl, rfl, rfl⟩
theorem z62_98 : za_f 62 98 2 3 101 := ⟨18, 9, .null, ⟨rfl, rfl, rfl⟩, rfl, Or.inr (Or.inr rfl)⟩
theorem z62_101 : za 62 101 (.aload_n 0) 102 := ⟨rfl, rfl, rfl⟩
theorem z62_102 : za_f 62 102 2 0 105 := ⟨21, 9, .null, ⟨rfl, rfl, rfl⟩, rfl, Or.inr (Or.inr rfl)⟩
theorem z62_105 : za 62 105 (.iload_n 1) 106 := ⟨rfl, rfl, rfl⟩
theorem z62_106 : za_v 62 106 35 1 1 109 := ⟨111, ⟨rfl, rfl, rfl⟩, rfl⟩
theorem z62_109 : za 62 109 (.dup2) 110 := ⟨rfl, rfl, rfl⟩
theorem z62_110 : za 62 110 (.iaload) 111 := ⟨rfl, rfl, rfl⟩
theorem z62_111 : za 62 111 (.iconst 1) 112 := ⟨rfl, rfl, rfl⟩
theorem z62_112 : za 62 112 (.iadd) 113 := ⟨rfl, rfl, rfl⟩
theorem z62_113 : za 62 113 (.iastore) 114 := ⟨rfl, rfl, rfl⟩
theorem z62_114 : za 62 114 (.aload_n 0) 115 := ⟨rfl, rfl, rfl⟩
theorem z62_115 : za 62 115 (.dup) 116 := ⟨rfl, rfl, rfl⟩
theorem z62_116 : za_f 62 116 2 5 119 := ⟨38, 0, .null, ⟨rfl, rfl, rfl⟩, rfl, Or.inl rfl⟩
theorem z62_119 : za 62 119 (.iconst 1) 120 := ⟨rfl, rfl, rfl⟩
theorem z62_120 : za 62 120 (.iadd) 121 := ⟨rfl, rfl, rfl⟩
theorem z62_121 : za_p 62 121 2 5 124 := ⟨38, 0, .null, ⟨rfl, rfl, rfl⟩, rfl, Or.inl rfl⟩
theorem z62_124 : zb (.goto) 62 124 135 127 := ⟨11, ⟨rfl, rfl, rfl⟩, rfl⟩
theorem z62_127 : za 62 127 (.aload_n 0) 128 := ⟨rfl, rfl, rfl⟩
theorem z62_128 : za_f 62 128 2 2 131 := ⟨15, 9, .null, ⟨rfl, rfl, rfl⟩, rfl, Or.inr (Or.inr rfl)⟩
theorem z62_131 : za 62 131 (.iload_n 3) 132 := ⟨rfl, rfl, rfl⟩
theorem z62_132 : za 62 132 (.iload 4) 134 := ⟨rfl, rfl, rfl⟩
theorem z62_134 : za 62 134 (.iastore) 135 := ⟨rfl, rfl, rfl⟩
theorem z62_135 : za 62 135 (.return_) 136 := ⟨rfl, rfl, rfl⟩
theorem z63_0 : za 63 0 (.aload_n 0) 1 := ⟨rfl, rfl, rfl⟩
theorem z63_1 : za_o 63 1 4 := ⟨3, 0, .null, ⟨rfl, rfl, rfl⟩, rfl⟩
theorem z63_4 : za 63 4 (.aload_n 0) 5 := ⟨rfl, rfl, rfl⟩
theorem z63_5 : za 63 5 (.bipush (60)) 7 := ⟨rfl, rfl, rfl⟩
theorem z63_7 : za 63 7 (.newarray .int) 9 := ⟨rfl, rfl, rfl⟩
theorem z63_9 : za_p 63 9 3 0 12 := ⟨9, 8, .null, ⟨rfl, rfl, rfl⟩, rfl, Or.inr rfl⟩
theorem z63_12 : za 63 12 (.aload_n 0) 13 := ⟨rfl, rfl, rfl⟩
theorem z63_13 : za 63 13 (.bipush (60)) 15 := ⟨rfl, rfl, rfl⟩
theorem z63_15 : za 63 15 (.newarray .int) 17 := ⟨rfl, rfl, rfl⟩
theorem z63_17 : za_p 63 17 3 1 20 := ⟨15, 8, .null, ⟨rfl, rfl, rfl⟩, rfl, Or.inr rfl⟩
theorem z63_20 : za 63 20 (.aload_n 0) 21 := ⟨rfl, rfl, rfl⟩
theorem z63_21 : za 63 21 (.bipush (60)) 23 := ⟨rfl, rfl, rfl⟩
theorem z63_23 : za 63 23 (.newarray .int) 25 := ⟨rfl, rfl, rfl⟩
theorem z63_25 : za_p 63 25 3 2 28 := ⟨18, 8, .null, ⟨rfl, rfl, rfl⟩, rfl, Or.inr rfl⟩
theorem z63_28 : za 63 28 (.aload_n 0) 29 := ⟨rfl, rfl, rfl⟩
theorem z63_29 : za 63 29 (.bipush (60)) 31 := ⟨rfl, rfl, rfl⟩
theorem z63_31 : za 63 31 (.newarray .int) 33 := ⟨rfl, rfl, rfl⟩
theorem z63_33 : za_p 63 33 3 3 36 := ⟨21, 8, .null, ⟨rfl, rfl, rfl⟩, rfl, Or.inr rfl⟩
theorem z63_36 : za 63 36 (.aload_n 0) 37 := ⟨rfl, rfl, rfl⟩
theorem z63_37 : za 63 37 (.iconst 0) 38 := ⟨rfl, rfl, rfl⟩
theorem z63_38 : za_p 63 38 3 4 41 := ⟨24, 0, .null, ⟨rfl, rfl, rfl⟩, rfl, Or.inl rfl⟩
theorem z63_41 : za 63 41 (.aload_n 0) 42 := ⟨rfl, rfl, rfl⟩
theorem z63_42 : za 63 42 (.iconst 0) 43 := ⟨rfl, rfl, rfl⟩
theorem z63_43 : za_p 63 43 3 5 46 := ⟨28, 0, .null, ⟨rfl, rfl, rfl⟩, rfl, Or.inl rfl⟩
theorem z63_46 : za 63 46 (.return_) 47 := ⟨rfl, rfl, rfl⟩
theorem z64_0 : za 64 0 (.aload_n 0) 1 := ⟨rfl, rfl, rfl⟩
theorem z64_1 : za 64 1 (.iconst 0) 2 := ⟨rfl, rfl, rfl⟩
theorem z64_2 : za_p 64 2 3 4 5 := ⟨24, 0, .null, ⟨rfl, rfl, rfl⟩, rfl, Or.inl rfl⟩
theorem z64_5 : za 64 5 (.aload_n 0) 6 := ⟨rfl, rfl, rfl⟩
theorem z64_6 : za 64 6 (.iconst 0) 7 := ⟨rfl, rfl, rfl⟩
theorem z64_7 : za_p 64 7 3 5 10 := ⟨28, 0, .null, ⟨rfl, rfl, rfl⟩, rfl, Or.inl rfl⟩
theorem z64_10 : za 64 10 (.return_) 11 := ⟨rfl, rfl, rfl⟩
theorem z65_0 : za 65 0 (.aload_n 0) 1 := ⟨rfl, rfl, rfl⟩
theorem z65_1 : za_f 65 1 3 0 4 := ⟨9, 9, .null, ⟨rfl, rfl, rfl⟩, rfl, Or.inr (Or.inr rfl)⟩
theorem z65_4 : za 65 4 (.aload_n 0) 5 := ⟨rfl, rfl, rfl⟩
theorem z65_5 : za_f 65 5 3 4 8 := ⟨24, 0, .null, ⟨rfl, rfl, rfl⟩, rfl, Or.inl rfl⟩
theorem z65_8 : za 65 8 (.iload_n 1) 9 := ⟨rfl, rfl, rfl⟩
theorem z65_9 : za 65 9 (.iastore) 10 := ⟨rfl, rfl, rfl⟩
theorem z65_10 : za 65 10 (.aload_n 0) 11 := ⟨rfl, rfl, rfl⟩
theorem z65_11 : za_f 65 11 3 1 14 := ⟨15, 9, .null, ⟨rfl, rfl, rfl⟩, rfl, Or.inr (Or.inr rfl)⟩
theorem z65_14 : za 65 14 (.aload_n 0) 15 := ⟨rfl, rfl, rfl⟩
theorem z65_15 : za_f 65 15 3 4 18 := ⟨24, 0, .null, ⟨rfl, rfl, rfl⟩, rfl, Or.inl rfl⟩
theorem z65_18 : za 65 18 (.iload_n 2) 19 := ⟨rfl, rfl, rfl⟩
theorem z65_19 : za 65 19 (.iastore) 20 := ⟨rfl, rfl, rfl⟩
theorem z65_20 : za 65 20 (.aload_n 0) 21 := ⟨rfl, rfl, rfl⟩
theorem z65_21 : za_f 65 21 3 2 24 := ⟨18, 9, .null, ⟨rfl, rfl, rfl⟩, rfl, Or.inr (Or.inr rfl)⟩
theorem z65_24 : za 65 24 (.aload_n 0) 25 := ⟨rfl, rfl, rfl⟩
theorem z65_25 : za_f 65 25 3 4 28 := ⟨24, 0, .null, ⟨rfl, rfl, rfl⟩, rfl, Or.inl rfl⟩
theorem z65_28 : za 65 28 (.iload_n 3) 29 := ⟨rfl, rfl, rfl⟩
theorem z65_29 : za 65 29 (.iastore) 30 := ⟨rfl, rfl, rfl⟩
theorem z65_30 : za 65 30 (.aload_n 0) 31 := ⟨rfl, rfl, rfl⟩
theorem z65_31 : za_f 65 31 3 3 34 := ⟨21, 9, .null, ⟨rfl, rfl, rfl⟩, rfl, Or.inr (Or.inr rfl)⟩
theorem z65_34 : za 65 34 (.aload_n 0) 35 := ⟨rfl, rfl, rfl⟩
theorem z65_35 : za_f 65 35 3 4 38 := ⟨24, 0, .null, ⟨rfl, rfl, rfl⟩, rfl, Or.inl rfl⟩
theorem z65_38 : za 65 38 (.iload 4) 40 := ⟨rfl, rfl, rfl⟩
theorem z65_40 : za 65 40 (.iastore) 41 := ⟨rfl, rfl, rfl⟩
theorem z65_41 : za 65 41 (.aload_n 0) 42 := ⟨rfl, rfl, rfl⟩
theorem z65_42 : za 65 42 (.aload_n 0) 43 := ⟨rfl, rfl, rfl⟩
theorem z65_43 : za_f 65 43 3 4 46 := ⟨24, 0, .null, ⟨rfl, rfl, rfl⟩, rfl, Or.inl rfl⟩
theorem z65_46 : za 65 46 (.iconst 1) 47 := ⟨rfl, rfl, rfl⟩
theorem z65_47 : za 65 47 (.iadd) 48 := ⟨rfl, rfl, rfl⟩
theorem z65_48 : za 65 48 (.bipush (60)) 50 := ⟨rfl, rfl, rfl⟩
theorem z65_50 : zb (.if_icmp .ge) 65 50 62 53 := ⟨12, ⟨rfl, rfl, rfl⟩, rfl⟩
theorem z65_53 : za 65 53 (.aload_n 0) 54 := ⟨rfl, rfl, rfl⟩
theorem z65_54 : za_f 65 54 3 4 57 := ⟨24, 0, .null, ⟨rfl, rfl, rfl⟩, rfl, Or.inl rfl⟩
theorem z65_57 : za 65 57 (.iconst 1) 58 := ⟨rfl, rfl, rfl⟩
theorem z65_58 : za 65 58 (.iadd) 59 := ⟨rfl, rfl, rfl⟩
theorem z65_59 : zb (.goto) 65 59 63 62 := ⟨4, ⟨rfl, rfl, rfl⟩, rfl⟩
theorem z65_62 : za 65 62 (.iconst 0) 63 := ⟨rfl, rfl, rfl⟩
theorem z65_63 : za_p 65 63 3 4 66 := ⟨24, 0, .null, ⟨rfl, rfl, rfl⟩, rfl, Or.inl rfl⟩
theorem z65_66 : za 65 66 (.aload_n 0) 67 := ⟨rfl, rfl, rfl⟩
theorem z65_67 : za 65 67 (.aload_n 0) 68 := ⟨rfl, rfl, rfl⟩
theorem z65_68 : za_f 65 68 3 5 71 := ⟨28, 0, .null, ⟨rfl, rfl, rfl⟩, rfl, Or.inl rfl⟩
theorem z65_71 : za 65 71 (.iconst 1) 72 := ⟨rfl, rfl, rfl⟩
theorem z65_72 : za 65 72 (.iadd) 73 := ⟨rfl, rfl, rfl⟩
theorem z65_73 : za 65 73 (.bipush (60)) 75 := ⟨rfl, rfl, rfl⟩
theorem z65_75 : za_m 65 75 78 := ⟨31, 0, .null, ⟨rfl, rfl, rfl⟩, rfl⟩
theorem z65_78 : za_p 65 78 3 5 81 := ⟨28, 0, .null, ⟨rfl, rfl, rfl⟩, rfl, Or.inl rfl⟩
theorem z65_81 : za 65 81 (.return_) 82 := ⟨rfl, rfl, rfl⟩
theorem z66_0 : za 66 0 (.aload_n 0) 1 := ⟨rfl, rfl, rfl⟩
theorem z66_1 : za 66 1 (.aload_n 0) 2 := ⟨rfl, rfl, rfl⟩
theorem z66_2 : za_f 66 2 3 4 5 := ⟨24, 0, .null, ⟨rfl, rfl, rfl⟩, rfl, Or.inl rfl⟩
theorem z66_5 : zb (.ifCond .le) 66 5 17 8 := ⟨12, ⟨rfl, rfl, rfl⟩, rfl⟩
theorem z66_8 : za 66 8 (.aload_n 0) 9 := ⟨rfl, rfl, rfl⟩
theorem z66_9 : za_f 66 9 3 4 12 := ⟨24, 0, .null, ⟨rfl, rfl, rfl⟩, rfl, Or.inl rfl⟩
theorem z66_12 : za 66 12 (.iconst 1) 13 := ⟨rfl, rfl, rfl⟩
theorem z66_13 : za 66 13 (.isub) 14 := ⟨rfl, rfl, rfl⟩
theorem z66_14 : zb (.goto) 66 14 19 17 := ⟨5, ⟨rfl, rfl, rfl⟩, rfl⟩
theorem z66_17 : za 66 17 (.bipush (59)) 19 := ⟨rfl, rfl, rfl⟩
theorem z66_19 : za_p 66 19 3 4 22 := ⟨24, 0, .null, ⟨rfl, rfl, rfl⟩, rfl, Or.inl rfl⟩
theorem z66_22 : za 66 22 (.aload_n 0) 23 := ⟨rfl, rfl, rfl⟩
theorem z66_23 : za 66 23 (.dup) 24 := ⟨rfl, rfl, rfl⟩
theorem z66_24 : za_f 66 24 3 5 27 := ⟨28, 0, .null, ⟨rfl, rfl, rfl⟩, rfl, Or.inl rfl⟩
theorem z66_27 : za 66 27 (.iconst 1) 28 := ⟨rfl, rfl, rfl⟩
theorem z66_28 : za 66 28 (.isub) 29 := ⟨rfl, rfl, rfl⟩
theorem z66_29 : za_p 66 29 3 5 32 := ⟨28, 0, .null, ⟨rfl, rfl, rfl⟩, rfl, Or.inl rfl⟩
theorem z66_32 : za 66 32 (.aload_n 0) 33 := ⟨rfl, rfl, rfl⟩
theorem z66_33 : za_f 66 33 3 4 36 := ⟨24, 0, .null, ⟨rfl, rfl, rfl⟩, rfl, Or.inl rfl⟩
theorem z66_36 : za 66 36 (.ireturn) 37 := ⟨rfl, rfl, rfl⟩
theorem z67_0 : za 67 0 (.aload_n 0) 1 := ⟨rfl, rfl, rfl⟩
theorem z67_1 : za_o 67 1 4 := ⟨3, 0, .null, ⟨rfl, rfl, rfl⟩, rfl⟩
theorem z67_4 : za 67 4 (.aload_n 0) 5 := ⟨rfl, rfl, rfl⟩
theorem z67_5 : za 67 5 (.sipush (200)) 8 := ⟨rfl, rfl, rfl⟩
theorem z67_8 : za_a 67 8 11 := ⟨9, 6, .null, ⟨rfl, rfl, rfl⟩, rfl⟩
theorem z67_11 : za_p 67 11 4 1 14 := ⟨11, 8, .null, ⟨rfl, rfl, rfl⟩, rfl, Or.inr rfl⟩
theorem z67_14 : za 67 14 (.aload_n 0) 15 := ⟨rfl, rfl, rfl⟩
theorem z67_15 : za 67 15 (.sipush (200)) 18 := ⟨rfl, rfl, rfl⟩
theorem z67_18 : za 67 18 (.newarray .int) 20 := ⟨rfl, rfl, rfl⟩
theorem z67_20 : za_p 67 20 4 2 23 := ⟨17, 8, .null, ⟨rfl, rfl, rfl⟩, rfl, Or.inr rfl⟩
theorem z67_23 : za 67 23 (.aload_n 0) 24 := ⟨rfl, rfl, rfl⟩
theorem z67_24 : za 67 24 (.sipush (200)) 27 := ⟨rfl, rfl, rfl⟩
theorem z67_27 : za 67 27 (.newarray .int) 29 := ⟨rfl, rfl, rfl⟩
theorem z67_29 : za_p 67 29 4 3 32 := ⟨21, 8, .null, ⟨rfl, rfl, rfl⟩, rfl, Or.inr rfl⟩
theorem z67_32 : za 67 32 (.aload_n 0) 33 := ⟨rfl, rfl, rfl⟩
theorem z67_33 : za 67 33 (.sipush (512)) 36 := ⟨rfl, rfl, rfl⟩
theorem z67_36 : za 67 36 (.newarray .int) 38 := ⟨rfl, rfl, rfl⟩
theorem z67_38 : za_p 67 38 4 4 41 := ⟨24, 8, .null, ⟨rfl, rfl, rfl⟩, rfl, Or.inr rfl⟩
theorem z67_41 : za 67 41 (.aload_n 0) 42 := ⟨rfl, rfl, rfl⟩
theorem z67_42 : za 67 42 (.iconst 0) 43 := ⟨rfl, rfl, rfl⟩
theorem z67_43 : za_p 67 43 4 5 46 := ⟨27, 0, .null, ⟨rfl, rfl, rfl⟩, rfl, Or.inl rfl⟩
theorem z67_46 : za 67 46 (.aload_n 0) 47 := ⟨rfl, rfl, rfl⟩
theorem z67_47 : za 67 47 (.iconst 0) 48 := ⟨rfl, rfl, rfl⟩
theorem z67_48 : za_p 67 48 4 6 51 := ⟨31, 0, .null, ⟨rfl, rfl, rfl⟩, rfl, Or.inl rfl⟩
theorem z67_51 : za 67 51 (.aload_n 0) 52 := ⟨rfl, rfl, rfl⟩
theorem z67_52 : za 67 52 (.iconst 0) 53 := ⟨rfl, rfl, rfl⟩
theorem z67_53 : za_p 67 53 4 7 56 := ⟨34, 0, .null, ⟨rfl, rfl, rfl⟩, rfl, Or.inl rfl⟩
theorem z67_56 : za 67 56 (.aload_n 0) 57 := ⟨rfl, rfl, rfl⟩
theorem z67_57 : za 67 57 (.iconst (-1)) 58 := ⟨rfl, rfl, rfl⟩
theorem z67_58 : za_p 67 58 4 8 61 := ⟨38, 0, .null, ⟨rfl, rfl, rfl⟩, rfl, Or.inl rfl⟩
theorem z67_61 : za 67 61 (.aload_n 0) 62 := ⟨rfl, rfl, rfl⟩
theorem z67_62 : za 67 62 (.iconst 0) 63 := ⟨rfl, rfl, rfl⟩
theorem z67_63 : za_p 67 63 4 9 66 := ⟨41, 0, .null, ⟨rfl, rfl, rfl⟩, rfl, Or.inl rfl⟩
theorem z67_66 : za 67 66 (.aload_n 0) 67 := ⟨rfl, rfl, rfl⟩
theorem z67_67 : za 67 67 (.aload_n 1) 68 := ⟨rfl, rfl, rfl⟩
theorem z67_68 : za_p 67 68 4 0 71 := ⟨44, 8, .null, ⟨rfl, rfl, rfl⟩, rfl, Or.inr rfl⟩
theorem z67_71 : za 67 71 (.iconst 0) 72 := ⟨rfl, rfl, rfl⟩
theorem z67_72 : za 67 72 (.istore_n 2) 73 := ⟨rfl, rfl, rfl⟩
theorem z67_73 : za 67 73 (.iload_n 2) 74 := ⟨rfl, rfl, rfl⟩
theorem z67_74 : za 67 74 (.sipush (200)) 77 := ⟨rfl, rfl, rfl⟩
theorem z67_77 : zb (.if_icmp .ge) 67 77 100 80 := ⟨23, ⟨rfl, rfl, rfl⟩, rfl⟩
theorem z67_80 : za 67 80 (.aload_n 0) 81 := ⟨rfl, rfl, rfl⟩
theorem z67_81 : za_f 67 81 4 1 84 := ⟨11, 8, .null, ⟨rfl, rfl, rfl⟩, rfl, Or.inr (Or.inl rfl)⟩
theorem z67_84 : za 67 84 (.iload_n 2) 85 := ⟨rfl, rfl, rfl⟩
theorem z67_85 : za_n 67 85 2 6 88 := ⟨9, .null, ⟨rfl, rfl, rfl⟩, rfl⟩
theorem z67_88 : za 67 88 (.dup) 89 := ⟨rfl, rfl, rfl⟩
theorem z67_89 : za 67 89 (.aload_n 1) 90 := ⟨rfl, rfl, rfl⟩
theorem z67_90 : za_i 67 90 39 1 93 := ⟨48, .null, ⟨rfl, rfl, rfl⟩, rfl⟩
theorem z67_93 : za 67 93 (.aastore) 94 := ⟨rfl, rfl, rfl⟩
theorem z67_94 : za 67 94 (.iinc 2 (1)) 97 := ⟨rfl, rfl, rfl⟩
theorem z67_97 : zb (.goto) 67 97 73 100 := ⟨(-24), ⟨rfl, rfl, rfl⟩, rfl⟩
theorem z67_100 : za 67 100 (.return_) 101 := ⟨rfl, rfl, rfl⟩
theorem z68_0 : za 68 0 (.aload_n 0) 1 := ⟨rfl, rfl, rfl⟩
theorem z68_1 : za 68 1 (.aload_n 1) 2 := ⟨rfl, rfl, rfl⟩
theorem z68_2 : za 68 2 (.iload_n 2) 3 := ⟨rfl, rfl, rfl⟩
theorem z68_3 : za_v 68 3 69 2 4 6 := ⟨51, ⟨rfl, rfl, rfl⟩, rfl⟩
theorem z68_6 : za 68 6 (.aload_n 1) 7 := ⟨rfl, rfl, rfl⟩
theorem z68_7 : za_v 68 7 44 0 2 10 := ⟨55, ⟨rfl, rfl, rfl⟩, rfl⟩
theorem z68_10 : zb (.ifCond .eq) 68 10 15 13 := ⟨5, ⟨rfl, rfl, rfl⟩, rfl⟩
theorem z68_13 : za 68 13 (.iconst 0) 14 := ⟨rfl, rfl, rfl⟩
theorem z68_14 : za 68 14 (.ireturn) 15 := ⟨rfl, rfl, rfl⟩
theorem z68_15 : za 68 15 (.iconst 0) 16 := ⟨rfl, rfl, rfl⟩
theorem z68_16 : za 68 16 (.istore_n 3) 17 := ⟨rfl, rfl, rfl⟩
theorem z68_17 : za 68 17 (.iconst 1) 18 := ⟨rfl, rfl, rfl⟩
theorem z68_18 : za 68 18 (.istore 4) 20 := ⟨rfl, rfl, rfl⟩
theorem z68_20 : za 68 20 (.iload 4) 22 := ⟨rfl, rfl, rfl⟩
theorem z68_22 : za 68 22 (.sipush (200)) 25 := ⟨rfl, rfl, rfl⟩
theorem z68_25 : zb (.if_icmp .gt) 68 25 114 28 := ⟨89, ⟨rfl, rfl, rfl⟩, rfl⟩
theorem z68_28 : za 68 28 (.aload_n 0) 29 := ⟨rfl, rfl, rfl⟩
theorem z68_29 : za 68 29 (.aload_n 0) 30 := ⟨rfl, rfl, rfl⟩
theorem z68_30 : za_f 68 30 4 6 33 := ⟨31, 0, .null, ⟨rfl, rfl, rfl⟩, rfl, Or.inl rfl⟩
theorem z68_33 : za_p 68 33 4 9 36 := ⟨41, 0, .null, ⟨rfl, rfl, rfl⟩, rfl, Or.inl rfl⟩
theorem z68_36 : za 68 36 (.iload_n 3) 37 := ⟨rfl, rfl, rfl⟩
theorem z68_37 : za 68 37 (.istore 5) 39 := ⟨rfl, rfl, rfl⟩
theorem z68_39 : za 68 39 (.iload 5) 41 := ⟨rfl, rfl, rfl⟩
theorem z68_41 : za 68 41 (.aload_n 0) 42 := ⟨rfl, rfl, rfl⟩
theorem z68_42 : za_f 68 42 4 9 45 := ⟨41, 0, .null, ⟨rfl, rfl, rfl⟩, rfl, Or.inl rfl⟩
theorem z68_45 : zb (.if_icmp .ge) 68 45 68 48 := ⟨23, ⟨rfl, rfl, rfl⟩, rfl⟩
theorem z68_48 : za 68 48 (.aload_n 0) 49 := ⟨rfl, rfl, rfl⟩
theorem z68_49 : za_f 68 49 4 8 52 := ⟨38, 0, .null, ⟨rfl, rfl, rfl⟩, rfl, Or.inl rfl⟩
theorem z68_52 : za 68 52 (.iconst (-1)) 53 := ⟨rfl, rfl, rfl⟩
theorem z68_53 : zb (.if_icmp .ne) 68 53 68 56 := ⟨15, ⟨rfl, rfl, rfl⟩, rfl⟩
theorem z68_56 : za 68 56 (.aload_n 0) 57 := ⟨rfl, rfl, rfl⟩
theorem z68_57 : za 68 57 (.iload 5) 59 := ⟨rfl, rfl, rfl⟩
theorem z68_59 : za_v 68 59 70 1 4 62 := ⟨59, ⟨rfl, rfl, rfl⟩, rfl⟩
theorem z68_62 : za 68 62 (.iinc 5 (1)) 65 := ⟨rfl, rfl, rfl⟩
theorem z68_65 : zb (.goto) 68 65 39 68 := ⟨(-26), ⟨rfl, rfl, rfl⟩, rfl⟩
theorem z68_68 : za 68 68 (.aload_n 0) 69 := ⟨rfl, rfl, rfl⟩
theorem z68_69 : za_f 68 69 4 8 72 := ⟨38, 0, .null, ⟨rfl, rfl, rfl⟩, rfl, Or.inl rfl⟩
theorem z68_72 : za 68 72 (.iconst (-1)) 73 := ⟨rfl, rfl, rfl⟩
theorem z68_73 : zb (.if_icmp .eq) 68 73 79 76 := ⟨6, ⟨rfl, rfl, rfl⟩, rfl⟩
theorem z68_76 : za 68 76 (.iload 4) 78 := ⟨rfl, rfl, rfl⟩
theorem z68_78 : za 68 78 (.ireturn) 79 := ⟨rfl, rfl, rfl⟩
theorem z68_79 : za 68 79 (.aload_n 0) 80 := ⟨rfl, rfl, rfl⟩
theorem z68_80 : za_f 68 80 4 7 83 := ⟨34, 0, .null, ⟨rfl, rfl, rfl⟩, rfl, Or.inl rfl⟩
theorem z68_83 : zb (.ifCond .eq) 68 83 89 86 := ⟨6, ⟨rfl, rfl, rfl⟩, rfl⟩
theorem z68_86 : za 68 86 (.bipush (-2)) 88 := ⟨rfl, rfl, rfl⟩
theorem z68_88 : za 68 88 (.ireturn) 89 := ⟨rfl, rfl, rfl⟩
theorem z68_89 : za 68 89 (.aload_n 0) 90 := ⟨rfl, rfl, rfl⟩
theorem z68_90 : za_f 68 90 4 6 93 := ⟨31, 0, .null, ⟨rfl, rfl, rfl⟩, rfl, Or.inl rfl⟩
theorem z68_93 : za 68 93 (.aload_n 0) 94 := ⟨rfl, rfl, rfl⟩
theorem z68_94 : za_f 68 94 4 9 97 := ⟨41, 0, .null, ⟨rfl, rfl, rfl⟩, rfl, Or.inl rfl⟩
theorem z68_97 : zb (.if_icmp .ne) 68 97 103 100 := ⟨6, ⟨rfl, rfl, rfl⟩, rfl⟩
theorem z68_100 : za 68 100 (.bipush (-3)) 102 := ⟨rfl, rfl, rfl⟩
theorem z68_102 : za 68 102 (.ireturn) 103 := ⟨rfl, rfl, rfl⟩
theorem z68_103 : za 68 103 (.aload_n 0) 104 := ⟨rfl, rfl, rfl⟩
theorem z68_104 : za_f 68 104 4 9 107 := ⟨41, 0, .null, ⟨rfl, rfl, rfl⟩, rfl, Or.inl rfl⟩
theorem z68_107 : za 68 107 (.istore_n 3) 108 := ⟨rfl, rfl, rfl⟩
theorem z68_108 : za 68 108 (.iinc 4 (1)) 111 := ⟨rfl, rfl, rfl⟩
theorem z68_111 : zb (.goto) 68 111 20 114 := ⟨(-91), ⟨rfl, rfl, rfl⟩, rfl⟩
theorem z68_114 : za 68 114 (.bipush (-2)) 116 := ⟨rfl, rfl, rfl⟩
theorem z68_116 : za 68 116 (.ireturn) 117 := ⟨rfl, rfl, rfl⟩
theorem z69_0 : za 69 0 (.aload_n 0) 1 := ⟨rfl, rfl, rfl⟩
theorem z69_1 : za 69 1 (.iload_n 2) 2 := ⟨rfl, rfl, rfl⟩
theorem z69_2 : za_p 69 2 4 5 5 := ⟨27, 0, .null, ⟨rfl, rfl, rfl⟩, rfl, Or.inl rfl⟩
theorem z69_5 : za 69 5 (.aload_n 0) 6 := ⟨rfl, rfl, rfl⟩
theorem z69_6 : za 69 6 (.iconst 0) 7 := ⟨rfl, rfl, rfl⟩
theorem z69_7 : za_p 69 7 4 7 10 := ⟨34, 0, .null, ⟨rfl, rfl, rfl⟩, rfl, Or.inl rfl⟩
theorem z69_10 : za 69 10 (.aload_n 0) 11 := ⟨rfl, rfl, rfl⟩
theorem z69_11 : za 69 11 (.iconst (-1)) 12 := ⟨rfl, rfl, rfl⟩
theorem z69_12 : za_p 69 12 4 8 15 := ⟨38, 0, .null, ⟨rfl, rfl, rfl⟩, rfl, Or.inl rfl⟩
theorem z69_15 : za 69 15 (.aload_n 0) 16 := ⟨rfl, rfl, rfl⟩
theorem z69_16 : za 69 16 (.iconst 0) 17 := ⟨rfl, rfl, rfl⟩
theorem z69_17 : za_p 69 17 4 9 20 := ⟨41, 0, .null, ⟨rfl, rfl, rfl⟩, rfl, Or.inl rfl⟩
theorem z69_20 : za 69 20 (.aload_n 0) 21 := ⟨rfl, rfl, rfl⟩
theorem z69_21 : za_f 69 21 4 4 24 := ⟨24, 9, .null, ⟨rfl, rfl, rfl⟩, rfl, Or.inr (Or.inr rfl)⟩
theorem z69_24 : za 69 24 (.iconst 0) 25 := ⟨rfl, rfl, rfl⟩
theorem z69_25 : za_s 69 25 134 2 28 := ⟨63, .null, ⟨rfl, rfl, rfl⟩, rfl⟩
theorem z69_28 : za 69 28 (.aload_n 0) 29 := ⟨rfl, rfl, rfl⟩
theorem z69_29 : za_f 69 29 4 1 32 := ⟨11, 9, .null, ⟨rfl, rfl, rfl⟩, rfl, Or.inr (Or.inr rfl)⟩
theorem z69_32 : za 69 32 (.iconst 0) 33 := ⟨rfl, rfl, rfl⟩
theorem z69_33 : za 69 33 (.aaload) 34 := ⟨rfl, rfl, rfl⟩
theorem z69_34 : za 69 34 (.aload_n 1) 35 := ⟨rfl, rfl, rfl⟩
theorem z69_35 : za_v 69 35 41 1 2 38 := ⟨69, ⟨rfl, rfl, rfl⟩, rfl⟩
theorem z69_38 : za 69 38 (.aload_n 0) 39 := ⟨rfl, rfl, rfl⟩
theorem z69_39 : za_f 69 39 4 2 42 := ⟨17, 9, .null, ⟨rfl, rfl, rfl⟩, rfl, Or.inr (Or.inr rfl)⟩
theorem z69_42 : za 69 42 (.iconst 0) 43 := ⟨rfl, rfl, rfl⟩
theorem z69_43 : za 69 43 (.aload_n 0) 44 := ⟨rfl, rfl, rfl⟩
theorem z69_44 : za 69 44 (.aload_n 1) 45 := ⟨rfl, rfl, rfl⟩
theorem z69_45 : za_v 69 45 74 1 4 48 := ⟨73, ⟨rfl, rfl, rfl⟩, rfl⟩
theorem z69_48 : za 69 48 (.iastore) 49 := ⟨rfl, rfl, rfl⟩
theorem z69_49 : za 69 49 (.aload_n 0) 50 := ⟨rfl, rfl, rfl⟩
theorem z69_50 : za_f 69 50 4 4 53 := ⟨24, 9, .null, ⟨rfl, rfl, rfl⟩, rfl, Or.inr (Or.inr rfl)⟩
theorem z69_53 : za 69 53 (.aload_n 0) 54 := ⟨rfl, rfl, rfl⟩
theorem z69_54 : za_f 69 54 4 2 57 := ⟨17, 9, .null, ⟨rfl, rfl, rfl⟩, rfl, Or.inr (Or.inr rfl)⟩
theorem z69_57 : za 69 57 (.iconst 0) 58 := ⟨rfl, rfl, rfl⟩
theorem z69_58 : za 69 58 (.iaload) 59 := ⟨rfl, rfl, rfl⟩
theorem z69_59 : za 69 59 (.sipush (511)) 62 := ⟨rfl, rfl, rfl⟩
theorem z69_62 : za 69 62 (.iand) 63 := ⟨rfl, rfl, rfl⟩
theorem z69_63 : za 69 63 (.iconst 1) 64 := ⟨rfl, rfl, rfl⟩
theorem z69_64 : za 69 64 (.iastore) 65 := ⟨rfl, rfl, rfl⟩
theorem z69_65 : za 69 65 (.aload_n 0) 66 := ⟨rfl, rfl, rfl⟩
theorem z69_66 : za 69 66 (.iconst 1) 67 := ⟨rfl, rfl, rfl⟩
theorem z69_67 : za_p 69 67 4 6 70 := ⟨31, 0, .null, ⟨rfl, rfl, rfl⟩, rfl, Or.inl rfl⟩
theorem z69_70 : za 69 70 (.return_) 71 := ⟨rfl, rfl, rfl⟩
theorem z70_0 : za 70 0 (.aload_n 0) 1 := ⟨rfl, rfl, rfl⟩
theorem z70_1 : za_f 70 1 4 1 4 := ⟨11, 9, .null, ⟨rfl, rfl, rfl⟩, rfl, Or.inr (Or.inr rfl)⟩
theorem z70_4 : za 70 4 (.iload_n 1) 5 := ⟨rfl, rfl, rfl⟩
theorem z70_5 : za 70 5 (.aaload) 6 := ⟨rfl, rfl, rfl⟩
theorem z70_6 : za 70 6 (.astore_n 2) 7 := ⟨rfl, rfl, rfl⟩
theorem z70_7 : za 70 7 (.iconst 0) 8 := ⟨rfl, rfl, rfl⟩
theorem z70_8 : za 70 8 (.istore_n 3) 9 := ⟨rfl, rfl, rfl⟩
theorem z70_9 : za 70 9 (.iload_n 3) 10 := ⟨rfl, rfl, rfl⟩
theorem z70_10 : za 70 10 (.bipush (12)) 12 := ⟨rfl, rfl, rfl⟩
theorem z70_12 : zb (.if_icmp .ge) 70 12 55 15 := ⟨43, ⟨rfl, rfl, rfl⟩, rfl⟩
theorem z70_15 : za 70 15 (.iconst 0) 16 := ⟨rfl, rfl, rfl⟩
theorem z70_16 : za 70 16 (.istore 4) 18 := ⟨rfl, rfl, rfl⟩
theorem z70_18 : za 70 18 (.iload 4) 20 := ⟨rfl, rfl, rfl⟩
theorem z70_20 : za 70 20 (.bipush (12)) 22 := ⟨rfl, rfl, rfl⟩
theorem z70_22 : zb (.if_icmp .gt) 70 22 49 25 := ⟨27, ⟨rfl, rfl, rfl⟩, rfl⟩
theorem z70_25 : za 70 25 (.aload_n 2) 26 := ⟨rfl, rfl, rfl⟩
theorem z70_26 : za 70 26 (.iload_n 3) 27 := ⟨rfl, rfl, rfl⟩
theorem z70_27 : za 70 27 (.iload 4) 29 := ⟨rfl, rfl, rfl⟩
theorem z70_29 : za_v 70 29 50 2 2 32 := ⟨77, ⟨rfl, rfl, rfl⟩, rfl⟩
theorem z70_32 : zb (.ifCond .eq) 70 32 43 35 := ⟨11, ⟨rfl, rfl, rfl⟩, rfl⟩
theorem z70_35 : za 70 35 (.aload_n 0) 36 := ⟨rfl, rfl, rfl⟩
theorem z70_36 : za 70 36 (.iload_n 1) 37 := ⟨rfl, rfl, rfl⟩
theorem z70_37 : za 70 37 (.iload_n 3) 38 := ⟨rfl, rfl, rfl⟩
theorem z70_38 : za 70 38 (.iload 4) 40 := ⟨rfl, rfl, rfl⟩
theorem z70_40 : za_v 70 40 71 3 4 43 := ⟨81, ⟨rfl, rfl, rfl⟩, rfl⟩
theorem z70_43 : za 70 43 (.iinc 4 (1)) 46 := ⟨rfl, rfl, rfl⟩
theorem z70_46 : zb (.goto) 70 46 18 49 := ⟨(-28), ⟨rfl, rfl, rfl⟩, rfl⟩
theorem z70_49 : za 70 49 (.iinc 3 (1)) 52 := ⟨rfl, rfl, rfl⟩
theorem z70_52 : zb (.goto) 70 52 9 55 := ⟨(-43), ⟨rfl, rfl, rfl⟩, rfl⟩
theorem z70_55 : za 70 55 (.return_) 56 := ⟨rfl, rfl, rfl⟩
theorem z71_0 : za 71 0 (.aload_n 0) 1 := ⟨rfl, rfl, rfl⟩
theorem z71_1 : za_f 71 1 4 1 4 := ⟨11, 9, .null, ⟨rfl, rfl, rfl⟩, rfl, Or.inr (Or.inr rfl)⟩
theorem z71_4 : za 71 4 (.iload_n 1) 5 := ⟨rfl, rfl, rfl⟩
theorem z71_5 : za 71 5 (.aaload) 6 := ⟨rfl, rfl, rfl⟩
theorem z71_6 : za 71 6 (.astore 4) 8 := ⟨rfl, rfl, rfl⟩
theorem z71_8 : za 71 8 (.iload_n 1) 9 := ⟨rfl, rfl, rfl⟩
theorem z71_9 : zb (.ifCond .ne) 71 9 21 12 := ⟨12, ⟨rfl, rfl, rfl⟩, rfl⟩
theorem z71_12 : za 71 12 (.bipush (16)) 14 := ⟨rfl, rfl, rfl⟩
theorem z71_14 : za 71 14 (.iload_n 2) 15 := ⟨rfl, rfl, rfl⟩
theorem z71_15 : za 71 15 (.imul) 16 := ⟨rfl, rfl, rfl⟩
theorem z71_16 : za 71 16 (.iload_n 3) 17 := ⟨rfl, rfl, rfl⟩
theorem z71_17 : za 71 17 (.iadd) 18 := ⟨rfl, rfl, rfl⟩
theorem z71_18 : zb (.goto) 71 18 27 21 := ⟨9, ⟨rfl, rfl, rfl⟩, rfl⟩
theorem z71_21 : za 71 21 (.aload_n 0) 22 := ⟨rfl, rfl, rfl⟩
theorem z71_22 : za_f 71 22 4 3 25 := ⟨21, 9, .null, ⟨rfl, rfl, rfl⟩, rfl, Or.inr (Or.inr rfl)⟩
theorem z71_25 : za 71 25 (.iload_n 1) 26 := ⟨rfl, rfl, rfl⟩
theorem z71_26 : za 71 26 (.iaload) 27 := ⟨rfl, rfl, rfl⟩
theorem z71_27 : za 71 27 (.istore 5) 29 := ⟨rfl, rfl, rfl⟩
theorem z71_29 : za 71 29 (.iload_n 3) 30 := ⟨rfl, rfl, rfl⟩
theorem z71_30 : za 71 30 (.bipush (12)) 32 := ⟨rfl, rfl, rfl⟩
theorem z71_32 : zb (.if_icmp .ne) 71 32 59 35 := ⟨27, ⟨rfl, rfl, rfl⟩, rfl⟩
theorem z71_35 : za 71 35 (.aload 4) 37 := ⟨rfl, rfl, rfl⟩
theorem z71_37 : za_f 71 37 2 5 40 := ⟨85, 0, .null, ⟨rfl, rfl, rfl⟩, rfl, Or.inl rfl⟩
theorem z71_40 : za 71 40 (.iconst 1) 41 := ⟨rfl, rfl, rfl⟩
theorem z71_41 : za 71 41 (.iadd) 42 := ⟨rfl, rfl, rfl⟩
theorem z71_42 : za 71 42 (.aload_n 0) 43 := ⟨rfl, rfl, rfl⟩
theorem z71_43 : za_f 71 43 4 0 46 := ⟨44, 9, .null, ⟨rfl, rfl, rfl⟩, rfl, Or.inr (Or.inr rfl)⟩
theorem z71_46 : za_v 71 46 32 0 1 49 := ⟨88, ⟨rfl, rfl, rfl⟩, rfl⟩
theorem z71_49 : zb (.if_icmp .ne) 71 49 59 52 := ⟨10, ⟨rfl, rfl, rfl⟩, rfl⟩
theorem z71_52 : za 71 52 (.aload_n 0) 53 := ⟨rfl, rfl, rfl⟩
theorem z71_53 : za 71 53 (.iload 5) 55 := ⟨rfl, rfl, rfl⟩
theorem z71_55 : za_p 71 55 4 8 58 := ⟨38, 0, .null, ⟨rfl, rfl, rfl⟩, rfl, Or.inl rfl⟩
theorem z71_58 : za 71 58 (.return_) 59 := ⟨rfl, rfl, rfl⟩
theorem z71_59 : za 71 59 (.aload_n 0) 60 := ⟨rfl, rfl, rfl⟩
theorem z71_60 : za_f 71 60 4 7 63 := ⟨34, 0, .null, ⟨rfl, rfl, rfl⟩, rfl, Or.inl rfl⟩
theorem z71_63 : zb (.ifCond .eq) 71 63 67 66 := ⟨4, ⟨rfl, rfl, rfl⟩, rfl⟩
theorem z71_66 : za 71 66 (.return_) 67 := ⟨rfl, rfl, rfl⟩
theorem z71_67 : za 71 67 (.aload 4) 69 := ⟨rfl, rfl, rfl⟩
theorem z71_69 : za_f 71 69 2 2 72 := ⟨94, 9, .null, ⟨rfl, rfl, rfl⟩, rfl, Or.inr (Or.inr rfl)⟩
theorem z71_72 : za 71 72 (.iload_n 2) 73 := ⟨rfl, rfl, rfl⟩
theorem z71_73 : za 71 73 (.iaload) 74 := ⟨rfl, rfl, rfl⟩
theorem z71_74 : za 71 74 (.istore 6) 76 := ⟨rfl, rfl, rfl⟩
theorem z71_76 : za 71 76 (.aload 4) 78 := ⟨rfl, rfl, rfl⟩
theorem z71_78 : za 71 78 (.iload_n 3) 79 := ⟨rfl, rfl, rfl⟩
theorem z71_79 : za_v 71 79 61 1 2 82 := ⟨97, ⟨rfl, rfl, rfl⟩, rfl⟩
theorem z71_82 : za 71 82 (.istore 7) 84 := ⟨rfl, rfl, rfl⟩
theorem z71_84 : za 71 84 (.aload_n 0) 85 := ⟨rfl, rfl, rfl⟩
theorem z71_85 : za_f 71 85 4 2 88 := ⟨17, 9, .null, ⟨rfl, rfl, rfl⟩, rfl, Or.inr (Or.inr rfl)⟩
theorem z71_88 : za 71 88 (.iload_n 1) 89 := ⟨rfl, rfl, rfl⟩
theorem z71_89 : za 71 89 (.iaload) 90 := ⟨rfl, rfl, rfl⟩
theorem z71_90 : za 71 90 (.iload 6) 92 := ⟨rfl, rfl, rfl⟩
theorem z71_92 : za 71 92 (.aload 4) 94 := ⟨rfl, rfl, rfl⟩
theorem z71_94 : za_f 71 94 2 1 97 := ⟨101, 9, .null, ⟨rfl, rfl, rfl⟩, rfl, Or.inr (Or.inr rfl)⟩
theorem z71_97 : za 71 97 (.iload 6) 99 := ⟨rfl, rfl, rfl⟩
theorem z71_99 : za 71 99 (.iaload) 100 := ⟨rfl, rfl, rfl⟩
theorem z71_100 : za_s 71 100 75 2 103 := ⟨104, .null, ⟨rfl, rfl, rfl⟩, rfl⟩
theorem z71_103 : za 71 103 (.isub) 104 := ⟨rfl, rfl, rfl⟩
theorem z71_104 : za 71 104 (.iload 6) 106 := ⟨rfl, rfl, rfl⟩
theorem z71_106 : za 71 106 (.iload 7) 108 := ⟨rfl, rfl, rfl⟩
theorem z71_108 : za_s 71 108 75 2 111 := ⟨104, .null, ⟨rfl, rfl, rfl⟩, rfl⟩
theorem z71_111 : za 71 111 (.iadd) 112 := ⟨rfl, rfl, rfl⟩
theorem z71_112 : za 71 112 (.istore 8) 114 := ⟨rfl, rfl, rfl⟩
theorem z71_114 : za 71 114 (.aload_n 0) 115 := ⟨rfl, rfl, rfl⟩
theorem z71_115 : za 71 115 (.iload 8) 117 := ⟨rfl, rfl, rfl⟩
theorem z71_117 : za 71 117 (.aload 4) 119 := ⟨rfl, rfl, rfl⟩
theorem z71_119 : za 71 119 (.iload 6) 121 := ⟨rfl, rfl, rfl⟩
theorem z71_121 : za 71 121 (.iload 7) 123 := ⟨rfl, rfl, rfl⟩
theorem z71_123 : za_v 71 123 72 4 4 126 := ⟨108, ⟨rfl, rfl, rfl⟩, rfl⟩
theorem z71_126 : za 71 126 (.istore 9) 128 := ⟨rfl, rfl, rfl⟩
theorem z71_128 : za 71 128 (.aload_n 0) 129 := ⟨rfl, rfl, rfl⟩
theorem z71_129 : za_f 71 129 4 4 132 := ⟨24, 9, .null, ⟨rfl, rfl, rfl⟩, rfl, Or.inr (Or.inr rfl)⟩
theorem z71_132 : za 71 132 (.iload 9) 134 := ⟨rfl, rfl, rfl⟩
theorem z71_134 : za 71 134 (.iaload) 135 := ⟨rfl, rfl, rfl⟩
theorem z71_135 : zb (.ifCond .eq) 71 135 139 138 := ⟨4, ⟨rfl, rfl, rfl⟩, rfl⟩
theorem z71_138 : za 71 138 (.return_) 139 := ⟨rfl, rfl, rfl⟩
theorem z71_139 : za 71 139 (.aload_n 0) 140 := ⟨rfl, rfl, rfl⟩
theorem z71_140 : za_f 71 140 4 6 143 := ⟨31, 0, .null, ⟨rfl, rfl, rfl⟩, rfl, Or.inl rfl⟩
theorem z71_143 : za 71 143 (.aload_n 0) 144 := ⟨rfl, rfl, rfl⟩
theorem z71_144 : za_f 71 144 4 5 147 := ⟨27, 0, .null, ⟨rfl, rfl, rfl⟩, rfl, Or.inl rfl⟩
theorem z71_147 : zb (.if_icmp .lt) 71 147 156 150 := ⟨9, ⟨rfl, rfl, rfl⟩, rfl⟩
theorem z71_150 : za 71 150 (.aload_n 0) 151 := ⟨rfl, rfl, rfl⟩
theorem z71_151 : za 71 151 (.iconst 1) 152 := ⟨rfl, rfl, rfl⟩
theorem z71_152 : za_p 71 152 4 7 155 := ⟨34, 0, .null, ⟨rfl, rfl, rfl⟩, rfl, Or.inl rfl⟩
theorem z71_155 : za 71 155 (.return_) 156 := ⟨rfl, rfl, rfl⟩
theorem z71_156 : za 71 156 (.aload_n 0) 157 := ⟨rfl, rfl, rfl⟩
theorem z71_157 : za_f 71 157 4 1 160 := ⟨11, 9, .null, ⟨rfl, rfl, rfl⟩, rfl, Or.inr (Or.inr rfl)⟩
theorem z71_160 : za 71 160 (.aload_n 0) 161 := ⟨rfl, rfl, rfl⟩
theorem z71_161 : za_f 71 161 4 6 164 := ⟨31, 0, .null, ⟨rfl, rfl, rfl⟩, rfl, Or.inl rfl⟩
theorem z71_164 : za 71 164 (.aaload) 165 := ⟨rfl, rfl, rfl⟩
theorem z71_165 : za 71 165 (.aload 4) 167 := ⟨rfl, rfl, rfl⟩
theorem z71_167 : za_v 71 167 41 1 2 170 := ⟨69, ⟨rfl, rfl, rfl⟩, rfl⟩
theorem z71_170 : za 71 170 (.aload_n 0) 171 := ⟨rfl, rfl, rfl⟩
theorem z71_171 : za_f 71 171 4 1 174 := ⟨11, 9, .null, ⟨rfl, rfl, rfl⟩, rfl, Or.inr (Or.inr rfl)⟩
theorem z71_174 : za 71 174 (.aload_n 0) 175 := ⟨rfl, rfl, rfl⟩
theorem z71_175 : za_f 71 175 4 6 178 := ⟨31, 0, .null, ⟨rfl, rfl, rfl⟩, rfl, Or.inl rfl⟩
theorem z71_178 : za 71 178 (.aaload) 179 := ⟨rfl, rfl, rfl⟩
theorem z71_179 : za 71 179 (.iload 6) 181 := ⟨rfl, rfl, rfl⟩
theorem z71_181 : za 71 181 (.iload_n 2) 182 := ⟨rfl, rfl, rfl⟩
theorem z71_182 : za 71 182 (.iload_n 3) 183 := ⟨rfl, rfl, rfl⟩
theorem z71_183 : za_v 71 183 62 3 2 186 := ⟨112, ⟨rfl, rfl, rfl⟩, rfl⟩
theorem z71_186 : za 71 186 (.aload_n 0) 187 := ⟨rfl, rfl, rfl⟩
theorem z71_187 : za_f 71 187 4 2 190 := ⟨17, 9, .null, ⟨rfl, rfl, rfl⟩, rfl, Or.inr (Or.inr rfl)⟩
theorem z71_190 : za 71 190 (.aload_n 0) 191 := ⟨rfl, rfl, rfl⟩
theorem z71_191 : za_f 71 191 4 6 194 := ⟨31, 0, .null, ⟨rfl, rfl, rfl⟩, rfl, Or.inl rfl⟩
theorem z71_194 : za 71 194 (.iload 8) 196 := ⟨rfl, rfl, rfl⟩
theorem z71_196 : za 71 196 (.iastore) 197 := ⟨rfl, rfl, rfl⟩
theorem z71_197 : za 71 197 (.aload_n 0) 198 := ⟨rfl, rfl, rfl⟩
theorem z71_198 : za_f 71 198 4 3 201 := ⟨21, 9, .null, ⟨rfl, rfl, rfl⟩, rfl, Or.inr (Or.inr rfl)⟩
set_option maxRecDepth 20000 in
theorem z71_201 : za 71 201 (.aload_n 0) 202 := ⟨rfl, rfl, rfl⟩
set_option maxRecDepth 20000 in
theorem z71_202 : za_f 71 202 4 6 205 := ⟨31, 0, .null, ⟨rfl, rfl, rfl⟩, rfl, Or.inl rfl⟩
set_option maxRecDepth 20000 in
theorem z71_205 : za 71 205 (.iload 5) 207 := ⟨rfl, rfl, rfl⟩
set_option maxRecDepth 20000 in
theorem z71_207 : za 71 207 (.iastore) 208 := ⟨rfl, rfl, rfl⟩
set_option maxRecDepth 20000 in
theorem z71_208 : za 71 208 (.aload_n 0) 209 := ⟨rfl, rfl, rfl⟩
set_option maxRecDepth 20000 in
theorem z71_209 : za 71 209 (.dup) 210 := ⟨rfl, rfl, rfl⟩
set_option maxRecDepth 20000 in
theorem z71_210 : za_f 71 210 4 6 213 := ⟨31, 0, .null, ⟨rfl, rfl, rfl⟩, rfl, Or.inl rfl⟩
set_option maxRecDepth 20000 in
theorem z71_213 : za 71 213 (.iconst 1) 214 := ⟨rfl, rfl, rfl⟩
set_option maxRecDepth 20000 in
theorem z71_214 : za 71 214 (.iadd) 215 := ⟨rfl, rfl, rfl⟩
set_option maxRecDepth 20000 in
theorem z71_215 : za_p 71 215 4 6 218 := ⟨31, 0, .null, ⟨rfl, rfl, rfl⟩, rfl, Or.inl rfl⟩
set_option maxRecDepth 20000 in
theorem z71_218 : za 71 218 (.aload_n 0) 219 := ⟨rfl, rfl, rfl⟩
set_option maxRecDepth 20000 in
theorem z71_219 : za_f 71 219 4 4 222 := ⟨24, 9, .null, ⟨rfl, rfl, rfl⟩, rfl, Or.inr (Or.inr rfl)⟩
set_option maxRecDepth 20000 in
theorem z71_222 : za 71 222 (.iload 9) 224 := ⟨rfl, rfl, rfl⟩
set_option maxRecDepth 20000 in
theorem z71_224 : za 71 224 (.aload_n 0) 225 := ⟨rfl, rfl, rfl⟩
set_option maxRecDepth 20000 in
theorem z71_225 : za_f 71 225 4 6 228 := ⟨31, 0, .null, ⟨rfl, rfl, rfl⟩, rfl, Or.inl rfl⟩
set_option maxRecDepth 20000 in
theorem z71_228 : za 71 228 (.iastore) 229 := ⟨rfl, rfl, rfl⟩
set_option maxRecDepth 20000 in
theorem z71_229 : za 71 229 (.return_) 230 := ⟨rfl, rfl, rfl⟩
theorem z72_0 : za 72 0 (.iload_n 1) 1 := ⟨rfl, rfl, rfl⟩
theorem z72_1 : za 72 1 (.sipush (511)) 4 := ⟨rfl, rfl, rfl⟩
theorem z72_4 : za 72 4 (.iand) 5 := ⟨rfl, rfl, rfl⟩
theorem z72_5 : za 72 5 (.istore 5) 7 := ⟨rfl, rfl, rfl⟩
theorem z72_7 : za 72 7 (.iconst 0) 8 := ⟨rfl, rfl, rfl⟩
theorem z72_8 : za 72 8 (.istore 6) 10 := ⟨rfl, rfl, rfl⟩
theorem z72_10 : za 72 10 (.iload 6) 12 := ⟨rfl, rfl, rfl⟩
theorem z72_12 : za 72 12 (.sipush (512)) 15 := ⟨rfl, rfl, rfl⟩
theorem z72_15 : zb (.if_icmp .ge) 72 15 87 18 := ⟨72, ⟨rfl, rfl, rfl⟩, rfl⟩
theorem z72_18 : za 72 18 (.aload_n 0) 19 := ⟨rfl, rfl, rfl⟩
theorem z72_19 : za_f 72 19 4 4 22 := ⟨24, 9, .null, ⟨rfl, rfl, rfl⟩, rfl, Or.inr (Or.inr rfl)⟩
theorem z72_22 : za 72 22 (.iload 5) 24 := ⟨rfl, rfl, rfl⟩
theorem z72_24 : za 72 24 (.iaload) 25 := ⟨rfl, rfl, rfl⟩
theorem z72_25 : zb (.ifCond .eq) 72 25 87 28 := ⟨62, ⟨rfl, rfl, rfl⟩, rfl⟩
theorem z72_28 : za 72 28 (.aload_n 0) 29 := ⟨rfl, rfl, rfl⟩
theorem z72_29 : za_f 72 29 4 4 32 := ⟨24, 9, .null, ⟨rfl, rfl, rfl⟩, rfl, Or.inr (Or.inr rfl)⟩
theorem z72_32 : za 72 32 (.iload 5) 34 := ⟨rfl, rfl, rfl⟩
theorem z72_34 : za 72 34 (.iaload) 35 := ⟨rfl, rfl, rfl⟩
theorem z72_35 : za 72 35 (.iconst 1) 36 := ⟨rfl, rfl, rfl⟩
theorem z72_36 : za 72 36 (.isub) 37 := ⟨rfl, rfl, rfl⟩
theorem z72_37 : za 72 37 (.istore 7) 39 := ⟨rfl, rfl, rfl⟩
theorem z72_39 : za 72 39 (.aload_n 0) 40 := ⟨rfl, rfl, rfl⟩
theorem z72_40 : za_f 72 40 4 2 43 := ⟨17, 9, .null, ⟨rfl, rfl, rfl⟩, rfl, Or.inr (Or.inr rfl)⟩
theorem z72_43 : za 72 43 (.iload 7) 45 := ⟨rfl, rfl, rfl⟩
theorem z72_45 : za 72 45 (.iaload) 46 := ⟨rfl, rfl, rfl⟩
theorem z72_46 : za 72 46 (.iload_n 1) 47 := ⟨rfl, rfl, rfl⟩
theorem z72_47 : zb (.if_icmp .ne) 72 47 71 50 := ⟨24, ⟨rfl, rfl, rfl⟩, rfl⟩
theorem z72_50 : za 72 50 (.aload_n 0) 51 := ⟨rfl, rfl, rfl⟩
theorem z72_51 : za 72 51 (.aload_n 0) 52 := ⟨rfl, rfl, rfl⟩
theorem z72_52 : za_f 72 52 4 1 55 := ⟨11, 9, .null, ⟨rfl, rfl, rfl⟩, rfl, Or.inr (Or.inr rfl)⟩
theorem z72_55 : za 72 55 (.iload 7) 57 := ⟨rfl, rfl, rfl⟩
theorem z72_57 : za 72 57 (.aaload) 58 := ⟨rfl, rfl, rfl⟩
theorem z72_58 : za 72 58 (.aload_n 2) 59 := ⟨rfl, rfl, rfl⟩
theorem z72_59 : za 72 59 (.iload_n 3) 60 := ⟨rfl, rfl, rfl⟩
theorem z72_60 : za 72 60 (.iload 4) 62 := ⟨rfl, rfl, rfl⟩
theorem z72_62 : za_v 72 62 73 4 4 65 := ⟨115, ⟨rfl, rfl, rfl⟩, rfl⟩
theorem z72_65 : zb (.ifCond .eq) 72 65 71 68 := ⟨6, ⟨rfl, rfl, rfl⟩, rfl⟩
theorem z72_68 : za 72 68 (.iload 5) 70 := ⟨rfl, rfl, rfl⟩
theorem z72_70 : za 72 70 (.ireturn) 71 := ⟨rfl, rfl, rfl⟩
theorem z72_71 : za 72 71 (.iload 5) 73 := ⟨rfl, rfl, rfl⟩
theorem z72_73 : za 72 73 (.iconst 1) 74 := ⟨rfl, rfl, rfl⟩
theorem z72_74 : za 72 74 (.iadd) 75 := ⟨rfl, rfl, rfl⟩
theorem z72_75 : za 72 75 (.sipush (511)) 78 := ⟨rfl, rfl, rfl⟩
theorem z72_78 : za 72 78 (.iand) 79 := ⟨rfl, rfl, rfl⟩
theorem z72_79 : za 72 79 (.istore 5) 81 := ⟨rfl, rfl, rfl⟩
theorem z72_81 : za 72 81 (.iinc 6 (1)) 84 := ⟨rfl, rfl, rfl⟩
theorem z72_84 : zb (.goto) 72 84 10 87 := ⟨(-74), ⟨rfl, rfl, rfl⟩, rfl⟩
theorem z72_87 : za 72 87 (.iload 5) 89 := ⟨rfl, rfl, rfl⟩
theorem z72_89 : za 72 89 (.ireturn) 90 := ⟨rfl, rfl, rfl⟩
theorem z73_0 : za 73 0 (.aload_n 0) 1 := ⟨rfl, rfl, rfl⟩
theorem z73_1 : za_f 73 1 4 0 4 := ⟨44, 9, .null, ⟨rfl, rfl, rfl⟩, rfl, Or.inr (Or.inr rfl)⟩
theorem z73_4 : za_v 73 4 32 0 1 7 := ⟨88, ⟨rfl, rfl, rfl⟩, rfl⟩
theorem z73_7 : za 73 7 (.istore 5) 9 := ⟨rfl, rfl, rfl⟩
theorem z73_9 : za 73 9 (.iconst 0) 10 := ⟨rfl, rfl, rfl⟩
theorem z73_10 : za 73 10 (.istore 6) 12 := ⟨rfl, rfl, rfl⟩
theorem z73_12 : za 73 12 (.iload 6) 14 := ⟨rfl, rfl, rfl⟩
theorem z73_14 : za 73 14 (.iload 5) 16 := ⟨rfl, rfl, rfl⟩
theorem z73_16 : zb (.if_icmp .ge) 73 16 59 19 := ⟨43, ⟨rfl, rfl, rfl⟩, rfl⟩
theorem z73_19 : za 73 19 (.iload 6) 21 := ⟨rfl, rfl, rfl⟩
theorem z73_21 : za 73 21 (.iload_n 3) 22 := ⟨rfl, rfl, rfl⟩
theorem z73_22 : zb (.if_icmp .ne) 73 22 30 25 := ⟨8, ⟨rfl, rfl, rfl⟩, rfl⟩
theorem z73_25 : za 73 25 (.iload 4) 27 := ⟨rfl, rfl, rfl⟩
theorem z73_27 : zb (.goto) 73 27 37 30 := ⟨10, ⟨rfl, rfl, rfl⟩, rfl⟩
theorem z73_30 : za 73 30 (.aload_n 2) 31 := ⟨rfl, rfl, rfl⟩
theorem z73_31 : za_f 73 31 2 1 34 := ⟨101, 9, .null, ⟨rfl, rfl, rfl⟩, rfl, Or.inr (Or.inr rfl)⟩
theorem z73_34 : za 73 34 (.iload 6) 36 := ⟨rfl, rfl, rfl⟩
theorem z73_36 : za 73 36 (.iaload) 37 := ⟨rfl, rfl, rfl⟩
theorem z73_37 : za 73 37 (.istore 7) 39 := ⟨rfl, rfl, rfl⟩
theorem z73_39 : za 73 39 (.aload_n 1) 40 := ⟨rfl, rfl, rfl⟩
theorem z73_40 : za_f 73 40 2 1 43 := ⟨101, 9, .null, ⟨rfl, rfl, rfl⟩, rfl, Or.inr (Or.inr rfl)⟩
theorem z73_43 : za 73 43 (.iload 6) 45 := ⟨rfl, rfl, rfl⟩
theorem z73_45 : za 73 45 (.iaload) 46 := ⟨rfl, rfl, rfl⟩
theorem z73_46 : za 73 46 (.iload 7) 48 := ⟨rfl, rfl, rfl⟩
theorem z73_48 : zb (.if_icmp .eq) 73 48 53 51 := ⟨5, ⟨rfl, rfl, rfl⟩, rfl⟩
theorem z73_51 : za 73 51 (.iconst 0) 52 := ⟨rfl, rfl, rfl⟩
theorem z73_52 : za 73 52 (.ireturn) 53 := ⟨rfl, rfl, rfl⟩
theorem z73_53 : za 73 53 (.iinc 6 (1)) 56 := ⟨rfl, rfl, rfl⟩
theorem z73_56 : zb (.goto) 73 56 12 59 := ⟨(-44), ⟨rfl, rfl, rfl⟩, rfl⟩
theorem z73_59 : za 73 59 (.iconst 1) 60 := ⟨rfl, rfl, rfl⟩
theorem z73_60 : za 73 60 (.ireturn) 61 := ⟨rfl, rfl, rfl⟩
theorem z74_0 : za 74 0 (.iconst 0) 1 := ⟨rfl, rfl, rfl⟩
theorem z74_1 : za 74 1 (.istore_n 2) 2 := ⟨rfl, rfl, rfl⟩
theorem z74_2 : za 74 2 (.aload_n 0) 3 := ⟨rfl, rfl, rfl⟩
theorem z74_3 : za_f 74 3 4 0 6 := ⟨44, 9, .null, ⟨rfl, rfl, rfl⟩, rfl, Or.inr (Or.inr rfl)⟩
theorem z74_6 : za_v 74 6 32 0 1 9 := ⟨88, ⟨rfl, rfl, rfl⟩, rfl⟩
theorem z74_9 : za 74 9 (.istore_n 3) 10 := ⟨rfl, rfl, rfl⟩
theorem z74_10 : za 74 10 (.iconst 0) 11 := ⟨rfl, rfl, rfl⟩
theorem z74_11 : za 74 11 (.istore 4) 13 := ⟨rfl, rfl, rfl⟩
theorem z74_13 : za 74 13 (.iload 4) 15 := ⟨rfl, rfl, rfl⟩
theorem z74_15 : za 74 15 (.iload_n 3) 16 := ⟨rfl, rfl, rfl⟩
theorem z74_16 : zb (.if_icmp .ge) 74 16 40 19 := ⟨24, ⟨rfl, rfl, rfl⟩, rfl⟩
theorem z74_19 : za 74 19 (.iload_n 2) 20 := ⟨rfl, rfl, rfl⟩
theorem z74_20 : za 74 20 (.iload 4) 22 := ⟨rfl, rfl, rfl⟩
theorem z74_22 : za 74 22 (.aload_n 1) 23 := ⟨rfl, rfl, rfl⟩
theorem z74_23 : za_f 74 23 2 1 26 := ⟨101, 9, .null, ⟨rfl, rfl, rfl⟩, rfl, Or.inr (Or.inr rfl)⟩
theorem z74_26 : za 74 26 (.iload 4) 28 := ⟨rfl, rfl, rfl⟩
theorem z74_28 : za 74 28 (.iaload) 29 := ⟨rfl, rfl, rfl⟩
theorem z74_29 : za_s 74 29 75 2 32 := ⟨104, .null, ⟨rfl, rfl, rfl⟩, rfl⟩
theorem z74_32 : za 74 32 (.iadd) 33 := ⟨rfl, rfl, rfl⟩
theorem z74_33 : za 74 33 (.istore_n 2) 34 := ⟨rfl, rfl, rfl⟩
theorem z74_34 : za 74 34 (.iinc 4 (1)) 37 := ⟨rfl, rfl, rfl⟩
theorem z74_37 : zb (.goto) 74 37 13 40 := ⟨(-24), ⟨rfl, rfl, rfl⟩, rfl⟩
theorem z74_40 : za 74 40 (.iload_n 2) 41 := ⟨rfl, rfl, rfl⟩
theorem z74_41 : za 74 41 (.ireturn) 42 := ⟨rfl, rfl, rfl⟩
theorem z75_0 : za 75 0 (.bipush (64)) 2 := ⟨rfl, rfl, rfl⟩
theorem z75_2 : za 75 2 (.iload_n 0) 3 := ⟨rfl, rfl, rfl⟩
theorem z75_3 : za 75 3 (.imul) 4 := ⟨rfl, rfl, rfl⟩
theorem z75_4 : za 75 4 (.iload_n 1) 5 := ⟨rfl, rfl, rfl⟩
theorem z75_5 : za 75 5 (.iadd) 6 := ⟨rfl, rfl, rfl⟩
theorem z75_6 : za 75 6 (.bipush (-4)) 8 := ⟨rfl, rfl, rfl⟩
theorem z75_8 : za 75 8 (.isub) 9 := ⟨rfl, rfl, rfl⟩
theorem z75_9 : za_c 75 9 11 (-1640531535) := ⟨119, 0, 0, ⟨rfl, rfl, rfl⟩, rfl⟩
theorem z75_11 : za 75 11 (.imul) 12 := ⟨rfl, rfl, rfl⟩
theorem z75_12 : za 75 12 (.istore_n 2) 13 := ⟨rfl, rfl, rfl⟩
theorem z75_13 : za 75 13 (.iload_n 2) 14 := ⟨rfl, rfl, rfl⟩
theorem z75_14 : za 75 14 (.iload_n 2) 15 := ⟨rfl, rfl, rfl⟩
theorem z75_15 : za 75 15 (.bipush (15)) 17 := ⟨rfl, rfl, rfl⟩
theorem z75_17 : za 75 17 (.iushr) 18 := ⟨rfl, rfl, rfl⟩
theorem z75_18 : za 75 18 (.ixor) 19 := ⟨rfl, rfl, rfl⟩
theorem z75_19 : za_c 75 19 21 (-2048144777) := ⟨120, 0, 0, ⟨rfl, rfl, rfl⟩, rfl⟩
theorem z75_21 : za 75 21 (.imul) 22 := ⟨rfl, rfl, rfl⟩
theorem z75_22 : za 75 22 (.istore_n 2) 23 := ⟨rfl, rfl, rfl⟩
theorem z75_23 : za 75 23 (.iload_n 2) 24 := ⟨rfl, rfl, rfl⟩
theorem z75_24 : za 75 24 (.iload_n 2) 25 := ⟨rfl, rfl, rfl⟩
theorem z75_25 : za 75 25 (.bipush (13)) 27 := ⟨rfl, rfl, rfl⟩
theorem z75_27 : za 75 27 (.iushr) 28 := ⟨rfl, rfl, rfl⟩
theorem z75_28 : za 75 28 (.ixor) 29 := ⟨rfl, rfl, rfl⟩
theorem z75_29 : za 75 29 (.ireturn) 30 := ⟨rfl, rfl, rfl⟩
