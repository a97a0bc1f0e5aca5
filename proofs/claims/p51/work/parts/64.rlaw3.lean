/-! The rules of part 64.rlaw3: printed by program (wip/p51/rules2.py) -/
theorem dL_isSame_0 : decode cL_isSame 0 = .ok (.aload_n 1, 1) := by decide +kernel
theorem dL_isSame_1 : decode cL_isSame 1 = .ok (.iconst 1, 1) := by decide +kernel
theorem dL_isSame_2 : decode cL_isSame 2 = .ok (.invokevirtual 192, 3) := by decide +kernel
theorem dL_isSame_5 : decode cL_isSame 5 = .ok (.aload_n 0, 1) := by decide +kernel
theorem dL_isSame_6 : decode cL_isSame 6 = .ok (.getfield 30, 3) := by decide +kernel
theorem dL_isSame_9 : decode cL_isSame 9 = .ok (.invokeinterface 195 1, 5) := by decide +kernel
theorem dL_isSame_14 : decode cL_isSame 14 = .ok (.if_icmp .ne 27, 3) := by decide +kernel
theorem dL_isSame_17 : decode cL_isSame 17 = .ok (.aload_n 1, 1) := by decide +kernel
theorem dL_isSame_18 : decode cL_isSame 18 = .ok (.iconst 5, 1) := by decide +kernel
theorem dL_isSame_19 : decode cL_isSame 19 = .ok (.invokevirtual 192, 3) := by decide +kernel
theorem dL_isSame_22 : decode cL_isSame 22 = .ok (.aload_n 0, 1) := by decide +kernel
theorem dL_isSame_23 : decode cL_isSame 23 = .ok (.getfield 80, 3) := by decide +kernel
theorem dL_isSame_26 : decode cL_isSame 26 = .ok (.if_icmp .ne 15, 3) := by decide +kernel
theorem dL_isSame_29 : decode cL_isSame 29 = .ok (.aload_n 1, 1) := by decide +kernel
theorem dL_isSame_30 : decode cL_isSame 30 = .ok (.iconst 4, 1) := by decide +kernel
theorem dL_isSame_31 : decode cL_isSame 31 = .ok (.invokevirtual 192, 3) := by decide +kernel
theorem dL_isSame_34 : decode cL_isSame 34 = .ok (.aload_n 0, 1) := by decide +kernel
theorem dL_isSame_35 : decode cL_isSame 35 = .ok (.getfield 173, 3) := by decide +kernel
theorem dL_isSame_38 : decode cL_isSame 38 = .ok (.if_icmp .eq 5, 3) := by decide +kernel
theorem dL_isSame_41 : decode cL_isSame 41 = .ok (.iconst 0, 1) := by decide +kernel
theorem dL_isSame_42 : decode cL_isSame 42 = .ok (.ireturn, 1) := by decide +kernel
theorem dL_isSame_43 : decode cL_isSame 43 = .ok (.iconst 0, 1) := by decide +kernel
theorem dL_isSame_44 : decode cL_isSame 44 = .ok (.istore_n 2, 1) := by decide +kernel
theorem dL_isSame_45 : decode cL_isSame 45 = .ok (.iload_n 2, 1) := by decide +kernel
theorem dL_isSame_46 : decode cL_isSame 46 = .ok (.iconst 3, 1) := by decide +kernel
theorem dL_isSame_47 : decode cL_isSame 47 = .ok (.if_icmp .ge 58, 3) := by decide +kernel
theorem dL_isSame_50 : decode cL_isSame 50 = .ok (.aload_n 1, 1) := by decide +kernel
theorem dL_isSame_51 : decode cL_isSame 51 = .ok (.iload_n 2, 1) := by decide +kernel
theorem dL_isSame_52 : decode cL_isSame 52 = .ok (.iconst 0, 1) := by decide +kernel
theorem dL_isSame_53 : decode cL_isSame 53 = .ok (.invokevirtual 198, 3) := by decide +kernel
theorem dL_isSame_56 : decode cL_isSame 56 = .ok (.aload_n 0, 1) := by decide +kernel
theorem dL_isSame_57 : decode cL_isSame 57 = .ok (.getfield 36, 3) := by decide +kernel
theorem dL_isSame_60 : decode cL_isSame 60 = .ok (.iload_n 2, 1) := by decide +kernel
theorem dL_isSame_61 : decode cL_isSame 61 = .ok (.iaload, 1) := by decide +kernel
theorem dL_isSame_62 : decode cL_isSame 62 = .ok (.if_icmp .ne 35, 3) := by decide +kernel
theorem dL_isSame_65 : decode cL_isSame 65 = .ok (.aload_n 1, 1) := by decide +kernel
theorem dL_isSame_66 : decode cL_isSame 66 = .ok (.iload_n 2, 1) := by decide +kernel
theorem dL_isSame_67 : decode cL_isSame 67 = .ok (.bipush 6, 2) := by decide +kernel
theorem dL_isSame_69 : decode cL_isSame 69 = .ok (.invokevirtual 198, 3) := by decide +kernel
theorem dL_isSame_72 : decode cL_isSame 72 = .ok (.aload_n 0, 1) := by decide +kernel
theorem dL_isSame_73 : decode cL_isSame 73 = .ok (.getfield 43, 3) := by decide +kernel
theorem dL_isSame_76 : decode cL_isSame 76 = .ok (.iload_n 2, 1) := by decide +kernel
theorem dL_isSame_77 : decode cL_isSame 77 = .ok (.iaload, 1) := by decide +kernel
theorem dL_isSame_78 : decode cL_isSame 78 = .ok (.if_icmp .ne 19, 3) := by decide +kernel
theorem dL_isSame_81 : decode cL_isSame 81 = .ok (.aload_n 1, 1) := by decide +kernel
theorem dL_isSame_82 : decode cL_isSame 82 = .ok (.iload_n 2, 1) := by decide +kernel
theorem dL_isSame_83 : decode cL_isSame 83 = .ok (.bipush 7, 2) := by decide +kernel
theorem dL_isSame_85 : decode cL_isSame 85 = .ok (.invokevirtual 198, 3) := by decide +kernel
theorem dL_isSame_88 : decode cL_isSame 88 = .ok (.aload_n 0, 1) := by decide +kernel
theorem dL_isSame_89 : decode cL_isSame 89 = .ok (.getfield 40, 3) := by decide +kernel
theorem dL_isSame_92 : decode cL_isSame 92 = .ok (.iload_n 2, 1) := by decide +kernel
theorem dL_isSame_93 : decode cL_isSame 93 = .ok (.iaload, 1) := by decide +kernel
theorem dL_isSame_94 : decode cL_isSame 94 = .ok (.if_icmp .eq 5, 3) := by decide +kernel
theorem dL_isSame_97 : decode cL_isSame 97 = .ok (.iconst 0, 1) := by decide +kernel
theorem dL_isSame_98 : decode cL_isSame 98 = .ok (.ireturn, 1) := by decide +kernel
theorem dL_isSame_99 : decode cL_isSame 99 = .ok (.iinc 2 1, 3) := by decide +kernel
theorem dL_isSame_102 : decode cL_isSame 102 = .ok (.goto (-57), 3) := by decide +kernel
theorem dL_isSame_105 : decode cL_isSame 105 = .ok (.aload_n 0, 1) := by decide +kernel
theorem dL_isSame_106 : decode cL_isSame 106 = .ok (.getfield 30, 3) := by decide +kernel
theorem dL_isSame_109 : decode cL_isSame 109 = .ok (.invokeinterface 201 1, 5) := by decide +kernel
theorem dL_isSame_114 : decode cL_isSame 114 = .ok (.ifCond .eq 5, 3) := by decide +kernel
theorem dL_isSame_117 : decode cL_isSame 117 = .ok (.iconst 1, 1) := by decide +kernel
theorem dL_isSame_118 : decode cL_isSame 118 = .ok (.ireturn, 1) := by decide +kernel
theorem dL_isSame_119 : decode cL_isSame 119 = .ok (.aload_n 0, 1) := by decide +kernel
theorem dL_isSame_120 : decode cL_isSame 120 = .ok (.getfield 30, 3) := by decide +kernel
theorem dL_isSame_123 : decode cL_isSame 123 = .ok (.invokeinterface 195 1, 5) := by decide +kernel
theorem dL_isSame_128 : decode cL_isSame 128 = .ok (.iconst 1, 1) := by decide +kernel
theorem dL_isSame_129 : decode cL_isSame 129 = .ok (.isub, 1) := by decide +kernel
theorem dL_isSame_130 : decode cL_isSame 130 = .ok (.istore_n 2, 1) := by decide +kernel
theorem dL_isSame_131 : decode cL_isSame 131 = .ok (.aload_n 0, 1) := by decide +kernel
theorem dL_isSame_132 : decode cL_isSame 132 = .ok (.getfield 30, 3) := by decide +kernel
theorem dL_isSame_135 : decode cL_isSame 135 = .ok (.iload_n 2, 1) := by decide +kernel
theorem dL_isSame_136 : decode cL_isSame 136 = .ok (.invokeinterface 204 2, 5) := by decide +kernel
theorem dL_isSame_141 : decode cL_isSame 141 = .ok (.checkcast 139, 3) := by decide +kernel
theorem dL_isSame_144 : decode cL_isSame 144 = .ok (.astore_n 3, 1) := by decide +kernel
theorem dL_isSame_145 : decode cL_isSame 145 = .ok (.aload_n 1, 1) := by decide +kernel
theorem dL_isSame_146 : decode cL_isSame 146 = .ok (.iload_n 2, 1) := by decide +kernel
theorem dL_isSame_147 : decode cL_isSame 147 = .ok (.iconst 4, 1) := by decide +kernel
theorem dL_isSame_148 : decode cL_isSame 148 = .ok (.invokevirtual 208, 3) := by decide +kernel
theorem dL_isSame_151 : decode cL_isSame 151 = .ok (.aload_n 3, 1) := by decide +kernel
theorem dL_isSame_152 : decode cL_isSame 152 = .ok (.getfield 144, 3) := by decide +kernel
theorem dL_isSame_155 : decode cL_isSame 155 = .ok (.invokeinterface 195 1, 5) := by decide +kernel
theorem dL_isSame_160 : decode cL_isSame 160 = .ok (.if_icmp .ne 16, 3) := by decide +kernel
theorem dL_isSame_163 : decode cL_isSame 163 = .ok (.aload_n 1, 1) := by decide +kernel
theorem dL_isSame_164 : decode cL_isSame 164 = .ok (.iload_n 2, 1) := by decide +kernel
theorem dL_isSame_165 : decode cL_isSame 165 = .ok (.iconst 0, 1) := by decide +kernel
theorem dL_isSame_166 : decode cL_isSame 166 = .ok (.invokevirtual 208, 3) := by decide +kernel
theorem dL_isSame_169 : decode cL_isSame 169 = .ok (.aload_n 3, 1) := by decide +kernel
theorem dL_isSame_170 : decode cL_isSame 170 = .ok (.getfield 141, 3) := by decide +kernel
theorem dL_isSame_173 : decode cL_isSame 173 = .ok (.if_icmp .eq 5, 3) := by decide +kernel
theorem dL_isSame_176 : decode cL_isSame 176 = .ok (.iconst 0, 1) := by decide +kernel
theorem dL_isSame_177 : decode cL_isSame 177 = .ok (.ireturn, 1) := by decide +kernel
theorem dL_isSame_178 : decode cL_isSame 178 = .ok (.iconst 0, 1) := by decide +kernel
theorem dL_isSame_179 : decode cL_isSame 179 = .ok (.istore 4, 2) := by decide +kernel
theorem dL_isSame_181 : decode cL_isSame 181 = .ok (.iconst 0, 1) := by decide +kernel
theorem dL_isSame_182 : decode cL_isSame 182 = .ok (.istore 5, 2) := by decide +kernel
theorem dL_isSame_184 : decode cL_isSame 184 = .ok (.iload 5, 2) := by decide +kernel
theorem dL_isSame_186 : decode cL_isSame 186 = .ok (.aload_n 3, 1) := by decide +kernel
theorem dL_isSame_187 : decode cL_isSame 187 = .ok (.getfield 144, 3) := by decide +kernel
theorem dL_isSame_190 : decode cL_isSame 190 = .ok (.invokeinterface 195 1, 5) := by decide +kernel
theorem dL_isSame_195 : decode cL_isSame 195 = .ok (.if_icmp .ge 147, 3) := by decide +kernel
theorem dL_isSame_198 : decode cL_isSame 198 = .ok (.aload_n 3, 1) := by decide +kernel
theorem dL_isSame_199 : decode cL_isSame 199 = .ok (.getfield 144, 3) := by decide +kernel
theorem dL_isSame_202 : decode cL_isSame 202 = .ok (.iload 5, 2) := by decide +kernel
theorem dL_isSame_204 : decode cL_isSame 204 = .ok (.invokeinterface 204 2, 5) := by decide +kernel
theorem dL_isSame_209 : decode cL_isSame 209 = .ok (.checkcast 116, 3) := by decide +kernel
theorem dL_isSame_212 : decode cL_isSame 212 = .ok (.astore 6, 2) := by decide +kernel
theorem dL_isSame_214 : decode cL_isSame 214 = .ok (.aload_n 1, 1) := by decide +kernel
theorem dL_isSame_215 : decode cL_isSame 215 = .ok (.iload_n 2, 1) := by decide +kernel
theorem dL_isSame_216 : decode cL_isSame 216 = .ok (.iload 5, 2) := by decide +kernel
theorem dL_isSame_218 : decode cL_isSame 218 = .ok (.iconst 0, 1) := by decide +kernel
theorem dL_isSame_219 : decode cL_isSame 219 = .ok (.invokevirtual 211, 3) := by decide +kernel
theorem dL_isSame_222 : decode cL_isSame 222 = .ok (.iload 4, 2) := by decide +kernel
theorem dL_isSame_224 : decode cL_isSame 224 = .ok (.if_icmp .ne 100, 3) := by decide +kernel
theorem dL_isSame_227 : decode cL_isSame 227 = .ok (.aload_n 1, 1) := by decide +kernel
theorem dL_isSame_228 : decode cL_isSame 228 = .ok (.iload_n 2, 1) := by decide +kernel
theorem dL_isSame_229 : decode cL_isSame 229 = .ok (.iload 5, 2) := by decide +kernel
theorem dL_isSame_231 : decode cL_isSame 231 = .ok (.iconst 1, 1) := by decide +kernel
theorem dL_isSame_232 : decode cL_isSame 232 = .ok (.invokevirtual 211, 3) := by decide +kernel
theorem dL_isSame_235 : decode cL_isSame 235 = .ok (.aload 6, 2) := by decide +kernel
theorem dL_isSame_237 : decode cL_isSame 237 = .ok (.getfield 115, 3) := by decide +kernel
theorem dL_isSame_240 : decode cL_isSame 240 = .ok (.if_icmp .ne 84, 3) := by decide +kernel
theorem dL_isSame_243 : decode cL_isSame 243 = .ok (.aload_n 1, 1) := by decide +kernel
theorem dL_isSame_244 : decode cL_isSame 244 = .ok (.iload_n 2, 1) := by decide +kernel
theorem dL_isSame_245 : decode cL_isSame 245 = .ok (.iload 5, 2) := by decide +kernel
theorem dL_isSame_247 : decode cL_isSame 247 = .ok (.iconst 2, 1) := by decide +kernel
theorem dL_isSame_248 : decode cL_isSame 248 = .ok (.invokevirtual 211, 3) := by decide +kernel
theorem dL_isSame_251 : decode cL_isSame 251 = .ok (.aload 6, 2) := by decide +kernel
theorem dL_isSame_253 : decode cL_isSame 253 = .ok (.getfield 165, 3) := by decide +kernel
theorem dL_isSame_256 : decode cL_isSame 256 = .ok (.if_icmp .ne 68, 3) := by decide +kernel
theorem dL_isSame_259 : decode cL_isSame 259 = .ok (.aload_n 1, 1) := by decide +kernel
theorem dL_isSame_260 : decode cL_isSame 260 = .ok (.iload_n 2, 1) := by decide +kernel
theorem dL_isSame_261 : decode cL_isSame 261 = .ok (.iload 5, 2) := by decide +kernel
theorem dL_isSame_263 : decode cL_isSame 263 = .ok (.iconst 3, 1) := by decide +kernel
theorem dL_isSame_264 : decode cL_isSame 264 = .ok (.invokevirtual 211, 3) := by decide +kernel
theorem dL_isSame_267 : decode cL_isSame 267 = .ok (.aload 6, 2) := by decide +kernel
theorem dL_isSame_269 : decode cL_isSame 269 = .ok (.getfield 147, 3) := by decide +kernel
theorem dL_isSame_272 : decode cL_isSame 272 = .ok (.if_icmp .ne 52, 3) := by decide +kernel
theorem dL_isSame_275 : decode cL_isSame 275 = .ok (.aload_n 1, 1) := by decide +kernel
theorem dL_isSame_276 : decode cL_isSame 276 = .ok (.iload_n 2, 1) := by decide +kernel
theorem dL_isSame_277 : decode cL_isSame 277 = .ok (.iload 5, 2) := by decide +kernel
theorem dL_isSame_279 : decode cL_isSame 279 = .ok (.iconst 4, 1) := by decide +kernel
theorem dL_isSame_280 : decode cL_isSame 280 = .ok (.invokevirtual 211, 3) := by decide +kernel
theorem dL_isSame_283 : decode cL_isSame 283 = .ok (.aload 6, 2) := by decide +kernel
theorem dL_isSame_285 : decode cL_isSame 285 = .ok (.getfield 154, 3) := by decide +kernel
theorem dL_isSame_288 : decode cL_isSame 288 = .ok (.if_icmp .ne 36, 3) := by decide +kernel
theorem dL_isSame_291 : decode cL_isSame 291 = .ok (.aload_n 1, 1) := by decide +kernel
theorem dL_isSame_292 : decode cL_isSame 292 = .ok (.iload_n 2, 1) := by decide +kernel
theorem dL_isSame_293 : decode cL_isSame 293 = .ok (.iload 5, 2) := by decide +kernel
theorem dL_isSame_295 : decode cL_isSame 295 = .ok (.iconst 5, 1) := by decide +kernel
theorem dL_isSame_296 : decode cL_isSame 296 = .ok (.invokevirtual 211, 3) := by decide +kernel
theorem dL_isSame_299 : decode cL_isSame 299 = .ok (.aload 6, 2) := by decide +kernel
theorem dL_isSame_301 : decode cL_isSame 301 = .ok (.getfield 182, 3) := by decide +kernel
theorem dL_isSame_304 : decode cL_isSame 304 = .ok (.if_icmp .ne 20, 3) := by decide +kernel
theorem dL_isSame_307 : decode cL_isSame 307 = .ok (.aload_n 1, 1) := by decide +kernel
theorem dL_isSame_308 : decode cL_isSame 308 = .ok (.iload_n 2, 1) := by decide +kernel
theorem dL_isSame_309 : decode cL_isSame 309 = .ok (.iload 5, 2) := by decide +kernel
theorem dL_isSame_311 : decode cL_isSame 311 = .ok (.bipush 6, 2) := by decide +kernel
theorem dL_isSame_313 : decode cL_isSame 313 = .ok (.invokevirtual 211, 3) := by decide +kernel
theorem dL_isSame_316 : decode cL_isSame 316 = .ok (.aload 6, 2) := by decide +kernel
theorem dL_isSame_318 : decode cL_isSame 318 = .ok (.invokestatic 214, 3) := by decide +kernel
theorem dL_isSame_321 : decode cL_isSame 321 = .ok (.if_icmp .eq 5, 3) := by decide +kernel
theorem dL_isSame_324 : decode cL_isSame 324 = .ok (.iconst 0, 1) := by decide +kernel
theorem dL_isSame_325 : decode cL_isSame 325 = .ok (.ireturn, 1) := by decide +kernel
theorem dL_isSame_326 : decode cL_isSame 326 = .ok (.iload 4, 2) := by decide +kernel
theorem dL_isSame_328 : decode cL_isSame 328 = .ok (.aload 6, 2) := by decide +kernel
theorem dL_isSame_330 : decode cL_isSame 330 = .ok (.getfield 115, 3) := by decide +kernel
theorem dL_isSame_333 : decode cL_isSame 333 = .ok (.iadd, 1) := by decide +kernel
theorem dL_isSame_334 : decode cL_isSame 334 = .ok (.istore 4, 2) := by decide +kernel
theorem dL_isSame_336 : decode cL_isSame 336 = .ok (.iinc 5 1, 3) := by decide +kernel
theorem dL_isSame_339 : decode cL_isSame 339 = .ok (.goto (-155), 3) := by decide +kernel
theorem dL_isSame_342 : decode cL_isSame 342 = .ok (.iconst 1, 1) := by decide +kernel
theorem dL_isSame_343 : decode cL_isSame 343 = .ok (.ireturn, 1) := by decide +kernel
def zL_isSame_45 (G : kz_G) (d mc ms : Nat) (Qr : Option Value → kz_M → Prop) (Qx : String → kz_M → Prop) (x0 : Nat) (x1 : Nat) (x2 : Int32)  (M : kz_M) (c sl : Nat) : Prop := kz_Z G (d + 10) mc ms mL_isSame Qr Qx 45 [(0, .ref x0), (1, .ref x1), (2, .int x2)] [] M c sl
def zL_isSame_105 (G : kz_G) (d mc ms : Nat) (Qr : Option Value → kz_M → Prop) (Qx : String → kz_M → Prop) (x0 : Nat) (x1 : Nat)  (M : kz_M) (c sl : Nat) : Prop := kz_Z G (d + 10) mc ms mL_isSame Qr Qx 105 [(0, .ref x0), (1, .ref x1)] [] M c sl
def zL_isSame_119 (G : kz_G) (d mc ms : Nat) (Qr : Option Value → kz_M → Prop) (Qx : String → kz_M → Prop) (x0 : Nat) (x1 : Nat)  (M : kz_M) (c sl : Nat) : Prop := kz_Z G (d + 10) mc ms mL_isSame Qr Qx 119 [(0, .ref x0), (1, .ref x1)] [] M c sl
def zL_isSame_145 (G : kz_G) (d mc ms : Nat) (Qr : Option Value → kz_M → Prop) (Qx : String → kz_M → Prop) (x1 : Nat) (x2 : Int32) (x3 : Nat)  (M : kz_M) (c sl : Nat) : Prop := kz_Z G (d + 10) mc ms mL_isSame Qr Qx 145 [(1, .ref x1), (2, .int x2), (3, .ref x3)] [] M c sl
def zL_isSame_178 (G : kz_G) (d mc ms : Nat) (Qr : Option Value → kz_M → Prop) (Qx : String → kz_M → Prop) (x1 : Nat) (x2 : Int32) (x3 : Nat)  (M : kz_M) (c sl : Nat) : Prop := kz_Z G (d + 10) mc ms mL_isSame Qr Qx 178 [(1, .ref x1), (2, .int x2), (3, .ref x3)] [] M c sl
def zL_isSame_184 (G : kz_G) (d mc ms : Nat) (Qr : Option Value → kz_M → Prop) (Qx : String → kz_M → Prop) (x1 : Nat) (x2 : Int32) (x3 : Nat) (x4 : Int32) (x5 : Int32)  (M : kz_M) (c sl : Nat) : Prop := kz_Z G (d + 10) mc ms mL_isSame Qr Qx 184 [(1, .ref x1), (2, .int x2), (3, .ref x3), (4, .int x4), (5, .int x5)] [] M c sl
def zL_isSame_214 (G : kz_G) (d mc ms : Nat) (Qr : Option Value → kz_M → Prop) (Qx : String → kz_M → Prop) (x1 : Nat) (x2 : Int32) (x3 : Nat) (x4 : Int32) (x5 : Int32) (x6 : Nat)  (M : kz_M) (c sl : Nat) : Prop := kz_Z G (d + 10) mc ms mL_isSame Qr Qx 214 [(1, .ref x1), (2, .int x2), (3, .ref x3), (4, .int x4), (5, .int x5), (6, .ref x6)] [] M c sl
def zL_isSame_326 (G : kz_G) (d mc ms : Nat) (Qr : Option Value → kz_M → Prop) (Qx : String → kz_M → Prop) (x1 : Nat) (x2 : Int32) (x3 : Nat) (x4 : Int32) (x5 : Int32) (x6 : Nat)  (M : kz_M) (c sl : Nat) : Prop := kz_Z G (d + 10) mc ms mL_isSame Qr Qx 326 [(1, .ref x1), (2, .int x2), (3, .ref x3), (4, .int x4), (5, .int x5), (6, .ref x6)] [] M c sl
theorem rL_isSame_0 {G : kz_G} {d : Nat} {mc ms : Nat} {Qr : Option Value → kz_M → Prop} {Qx : String → kz_M → Prop} {a0 : Nat} {p1 : Nat}  {M : kz_M} (h : (∃ fs22, (M).1 p1 = some (.inl (10, fs22))) ∧ ∃ mc3 ms3, 0 + mc3 ≤ mc ∧ 0 + ms3 ≤ ms ∧ kz_C G (d + 9) mc3 ms3 mX11_count [.ref p1, .int 1] M (fun v M1 => ∃ r2 : Int32, v = some (.int r2) ∧ (∃ fs4 v5, (M1).1 a0 = some (.inl (13, fs4)) ∧ fs4[0]? = some (.ref v5) ∧ ((∃ fs21, (M1).1 v5 = some (.inl (16, fs21))) ∧ kz_C G (d + 9) 0 0 mJx4a65c_size_8abf5 [.ref v5] M1 (fun v M6 => ∃ r7 : Int32, v = some (.int r7) ∧ ((¬ r2 = r7 → Qr (some (.int 0)) M6) ∧ (r2 = r7 → (∃ fs20, (M6).1 p1 = some (.inl (10, fs20))) ∧ ∃ mc11 ms11, 0 + mc3 + mc11 ≤ mc ∧ 0 + ms3 + ms11 ≤ ms ∧ kz_C G (d + 9) mc11 ms11 mX11_count [.ref p1, .int 5] M6 (fun v M9 => ∃ r10 : Int32, v = some (.int r10) ∧ (∃ fs12 v13, (M9).1 a0 = some (.inl (13, fs12)) ∧ fs12[4]? = some (.int v13) ∧ ((¬ r10 = v13 → Qr (some (.int 0)) M9) ∧ (r10 = v13 → (∃ fs19, (M9).1 p1 = some (.inl (10, fs19))) ∧ ∃ mc16 ms16, 0 + mc3 + mc11 + mc16 ≤ mc ∧ 0 + ms3 + ms11 + ms16 ≤ ms ∧ kz_C G (d + 9) mc16 ms16 mX11_count [.ref p1, .int 4] M9 (fun v M14 => ∃ r15 : Int32, v = some (.int r15) ∧ (∃ fs17 v18, (M14).1 a0 = some (.inl (13, fs17)) ∧ fs17[5]? = some (.int v18) ∧ ((r15 = v18 → zL_isSame_45 G d mc ms Qr Qx a0 p1 0 M14 (0 + mc3 + mc11 + mc16) (0 + ms3 + ms11 + ms16)) ∧ (¬ r15 = v18 → Qr (some (.int 0)) M14)))) Qx)))) Qx))) (fun _ _ => False)))) Qx) : kz_C G (d + 10) mc ms mL_isSame [.ref a0, .ref p1] M Qr Qx := by
  refine kz_enter (n := 1) kmL_isSame.1 (Nat.le_of_ble_eq_true rfl) (ls := [(0, .ref a0), (1, .ref p1)]) rfl ?_
  refine kz_aload_n (pc := 0) 1 (v := .ref p1) (i := 1) rfl rfl rfl dL_isSame_0 ?_
  refine kz_iconst (pc := 1) (v := 1) (by decide) dL_isSame_1 ?_
  obtain ⟨⟨fs22, he⟩, h⟩ := h
  obtain ⟨mc3, ms3, hc3, hs3, h⟩ := h
  refine kz_callV (pc := 2) (μ' := mX11_count) (ci := 10) (q := (RX11, TX11, 10)) (b := p1) (d' := d + 9) (mc' := mc3) (ms' := ms3) (As := [.int 1]) (st := []) (c := 0) (sl := 0) kmX11_count kw_710 (by omega) rfl (Nat.le_of_ble_eq_true rfl) he rfl rfl hc3 hs3 dL_isSame_2 (fun E M9 hx => kz_Tout rfl hc3 hs3 hx) (kz_Cmono (fun v M1 h => ?_) (fun _ _ h => h) h)
  obtain ⟨r2, rfl, h⟩ := h
  show kz_Z G (d + 10) mc ms mL_isSame Qr Qx 5 [(0, .ref a0), (1, .ref p1)] [.int r2] M1 (0 + mc3) (0 + ms3)
  refine kz_aload_n (pc := 5) 0 (v := .ref a0) (i := 0) rfl rfl rfl dL_isSame_5 ?_
  obtain ⟨fs4, v5, hM, hv, h⟩ := h
  refine kz_getf (pc := 6) (k := 0) kcL hM hv (by decide) kw_660 dL_isSame_6 ?_
  obtain ⟨⟨fs21, he⟩, h⟩ := h
  refine kz_callF (pc := 9) (μ' := mJx4a65c_size_8abf5) (x := ⟨"java/util/List", "size", "()I"⟩) (ci := 16) (q := (RJx4a65c, TJx4a65c, 3)) (b := v5) (d' := d + 9) (mc' := 0) (ms' := 0) (As := []) (st := [.int r2]) (c := 0 + mc3) (sl := 0 + ms3) kmJx4a65c_size_8abf5 rfl kw_820 (List.mem_of_getElem? (i := 0) rfl) (by decide +kernel) kw_818 kw_814 (by omega) rfl (Nat.le_of_ble_eq_true rfl) he rfl hc3 hs3 dL_isSame_9 (kz_Cmono (fun v M6 h => ?_) (fun _ _ h => h) h)
  obtain ⟨r7, rfl, h⟩ := h
  show kz_Z G (d + 10) mc ms mL_isSame Qr Qx 14 [(0, .ref a0), (1, .ref p1)] [.int r7, .int r2] M6 (0 + mc3) (0 + ms3)
  refine kz_icmp_ne (pc := 14) (tgt := 41) (by decide) dL_isSame_14 (fun hb => ?_) (fun hb => ?_)
  · replace h := h.1 hb
    refine kz_iconst (pc := 41) (v := 0) (by decide) dL_isSame_41 ?_
    exact kz_zret (pc := 42) (ty := .boolean) rfl (by decide) hc3 hs3 dL_isSame_42 h
  · replace h := h.2 hb
    refine kz_aload_n (pc := 17) 1 (v := .ref p1) (i := 1) rfl rfl rfl dL_isSame_17 ?_
    refine kz_iconst (pc := 18) (v := 5) (by decide) dL_isSame_18 ?_
    obtain ⟨⟨fs20, he⟩, h⟩ := h
    obtain ⟨mc11, ms11, hc11, hs11, h⟩ := h
    refine kz_callV (pc := 19) (μ' := mX11_count) (ci := 10) (q := (RX11, TX11, 10)) (b := p1) (d' := d + 9) (mc' := mc11) (ms' := ms11) (As := [.int 5]) (st := []) (c := 0 + mc3) (sl := 0 + ms3) kmX11_count kw_710 (by omega) rfl (Nat.le_of_ble_eq_true rfl) he rfl rfl hc11 hs11 dL_isSame_19 (fun E M9 hx => kz_Tout rfl hc11 hs11 hx) (kz_Cmono (fun v M9 h => ?_) (fun _ _ h => h) h)
    obtain ⟨r10, rfl, h⟩ := h
    show kz_Z G (d + 10) mc ms mL_isSame Qr Qx 22 [(0, .ref a0), (1, .ref p1)] [.int r10] M9 (0 + mc3 + mc11) (0 + ms3 + ms11)
    refine kz_aload_n (pc := 22) 0 (v := .ref a0) (i := 0) rfl rfl rfl dL_isSame_22 ?_
    obtain ⟨fs12, v13, hM, hv, h⟩ := h
    refine kz_getf (pc := 23) (k := 4) kcL hM hv (by decide) kw_664 dL_isSame_23 ?_
    refine kz_icmp_ne (pc := 26) (tgt := 41) (by decide) dL_isSame_26 (fun hb => ?_) (fun hb => ?_)
    · replace h := h.1 hb
      refine kz_iconst (pc := 41) (v := 0) (by decide) dL_isSame_41 ?_
      exact kz_zret (pc := 42) (ty := .boolean) rfl (by decide) hc11 hs11 dL_isSame_42 h
    · replace h := h.2 hb
      refine kz_aload_n (pc := 29) 1 (v := .ref p1) (i := 1) rfl rfl rfl dL_isSame_29 ?_
      refine kz_iconst (pc := 30) (v := 4) (by decide) dL_isSame_30 ?_
      obtain ⟨⟨fs19, he⟩, h⟩ := h
      obtain ⟨mc16, ms16, hc16, hs16, h⟩ := h
      refine kz_callV (pc := 31) (μ' := mX11_count) (ci := 10) (q := (RX11, TX11, 10)) (b := p1) (d' := d + 9) (mc' := mc16) (ms' := ms16) (As := [.int 4]) (st := []) (c := 0 + mc3 + mc11) (sl := 0 + ms3 + ms11) kmX11_count kw_710 (by omega) rfl (Nat.le_of_ble_eq_true rfl) he rfl rfl hc16 hs16 dL_isSame_31 (fun E M9 hx => kz_Tout rfl hc16 hs16 hx) (kz_Cmono (fun v M14 h => ?_) (fun _ _ h => h) h)
      obtain ⟨r15, rfl, h⟩ := h
      show kz_Z G (d + 10) mc ms mL_isSame Qr Qx 34 [(0, .ref a0), (1, .ref p1)] [.int r15] M14 (0 + mc3 + mc11 + mc16) (0 + ms3 + ms11 + ms16)
      refine kz_aload_n (pc := 34) 0 (v := .ref a0) (i := 0) rfl rfl rfl dL_isSame_34 ?_
      obtain ⟨fs17, v18, hM, hv, h⟩ := h
      refine kz_getf (pc := 35) (k := 5) kcL hM hv (by decide) kw_665 dL_isSame_35 ?_
      refine kz_icmp_eq (pc := 38) (tgt := 43) (by decide) dL_isSame_38 (fun hb => ?_) (fun hb => ?_)
      · replace h := h.1 hb
        refine kz_iconst (pc := 43) (v := 0) (by decide) dL_isSame_43 ?_
        refine kz_istore_n (pc := 44) (i := 2) (ls' := [(0, .ref a0), (1, .ref p1)]) rfl (by decide) rfl dL_isSame_44 ?_
        refine kz_sub [1, 2, 0] rfl ?_
        exact h
      · replace h := h.2 hb
        refine kz_iconst (pc := 41) (v := 0) (by decide) dL_isSame_41 ?_
        exact kz_zret (pc := 42) (ty := .boolean) rfl (by decide) hc16 hs16 dL_isSame_42 h
theorem rL_isSame_45 {G : kz_G} {d : Nat} {mc ms : Nat} {Qr : Option Value → kz_M → Prop} {Qx : String → kz_M → Prop} {x0 : Nat} {x1 : Nat} {x2 : Int32}  {M : kz_M} {c sl : Nat} (hc : c ≤ mc) (hs : sl ≤ ms) (h : ((3 : Int32) ≤ x2 → zL_isSame_105 G d mc ms Qr Qx x0 x1 M c sl) ∧ (¬ (3 : Int32) ≤ x2 → (∃ fs24, (M).1 x1 = some (.inl (10, fs24))) ∧ ∃ mc3 ms3, c + mc3 ≤ mc ∧ sl + ms3 ≤ ms ∧ kz_C G (d + 9) mc3 ms3 mX11_writer [.ref x1, .int x2, .int 0] M (fun v M1 => ∃ r2 : Int32, v = some (.int r2) ∧ (∃ fs4 v5, (M1).1 x0 = some (.inl (13, fs4)) ∧ fs4[1]? = some (.ref v5) ∧ (∃ n6 f7, (M1).1 v5 = some (.inr (.int, n6, .inl f7)) ∧ vp_in x2 n6 ∧ ((¬ r2 = (f7 x2.toNatClampNeg) → Qr (some (.int 0)) M1) ∧ (r2 = (f7 x2.toNatClampNeg) → (∃ fs23, (M1).1 x1 = some (.inl (10, fs23))) ∧ ∃ mc10 ms10, c + mc3 + mc10 ≤ mc ∧ sl + ms3 + ms10 ≤ ms ∧ kz_C G (d + 9) mc10 ms10 mX11_writer [.ref x1, .int x2, .int 6] M1 (fun v M8 => ∃ r9 : Int32, v = some (.int r9) ∧ (∃ fs11 v12, (M8).1 x0 = some (.inl (13, fs11)) ∧ fs11[3]? = some (.ref v12) ∧ (∃ n13 f14, (M8).1 v12 = some (.inr (.int, n13, .inl f14)) ∧ vp_in x2 n13 ∧ ((¬ r9 = (f14 x2.toNatClampNeg) → Qr (some (.int 0)) M8) ∧ (r9 = (f14 x2.toNatClampNeg) → (∃ fs22, (M8).1 x1 = some (.inl (10, fs22))) ∧ ∃ mc17 ms17, c + mc3 + mc10 + mc17 ≤ mc ∧ sl + ms3 + ms10 + ms17 ≤ ms ∧ kz_C G (d + 9) mc17 ms17 mX11_writer [.ref x1, .int x2, .int 7] M8 (fun v M15 => ∃ r16 : Int32, v = some (.int r16) ∧ (∃ fs18 v19, (M15).1 x0 = some (.inl (13, fs18)) ∧ fs18[2]? = some (.ref v19) ∧ (∃ n20 f21, (M15).1 v19 = some (.inr (.int, n20, .inl f21)) ∧ vp_in x2 n20 ∧ ((r16 = (f21 x2.toNatClampNeg) → zL_isSame_45 G d mc ms Qr Qx x0 x1 (x2 + 1) M15 (c + mc3 + mc10 + mc17) (sl + ms3 + ms10 + ms17)) ∧ (¬ r16 = (f21 x2.toNatClampNeg) → Qr (some (.int 0)) M15))))) Qx))))) Qx))))) Qx)) : zL_isSame_45 G d mc ms Qr Qx x0 x1 x2  M c sl := by
  show kz_Z G (d + 10) mc ms mL_isSame Qr Qx 45 [(0, .ref x0), (1, .ref x1), (2, .int x2)] [] M c sl
  refine kz_iload_n (pc := 45) 2 (i := 2) rfl rfl dL_isSame_45 ?_
  refine kz_iconst (pc := 46) (v := 3) (by decide) dL_isSame_46 ?_
  refine kz_icmp_ge (pc := 47) (tgt := 105) (by decide) dL_isSame_47 (fun hb => ?_) (fun hb => ?_)
  · replace h := h.1 hb
    refine kz_sub [0, 1] rfl ?_
    exact h
  · replace h := h.2 hb
    refine kz_aload_n (pc := 50) 1 (v := .ref x1) (i := 1) rfl rfl rfl dL_isSame_50 ?_
    refine kz_iload_n (pc := 51) 2 (i := 2) rfl rfl dL_isSame_51 ?_
    refine kz_iconst (pc := 52) (v := 0) (by decide) dL_isSame_52 ?_
    obtain ⟨⟨fs24, he⟩, h⟩ := h
    obtain ⟨mc3, ms3, hc3, hs3, h⟩ := h
    refine kz_callV (pc := 53) (μ' := mX11_writer) (ci := 10) (q := (RX11, TX11, 10)) (b := x1) (d' := d + 9) (mc' := mc3) (ms' := ms3) (As := [.int x2, .int 0]) (st := []) (c := c) (sl := sl) kmX11_writer kw_823 (by omega) rfl (Nat.le_of_ble_eq_true rfl) he rfl rfl hc3 hs3 dL_isSame_53 (fun E M9 hx => kz_Tout rfl hc3 hs3 hx) (kz_Cmono (fun v M1 h => ?_) (fun _ _ h => h) h)
    obtain ⟨r2, rfl, h⟩ := h
    show kz_Z G (d + 10) mc ms mL_isSame Qr Qx 56 [(0, .ref x0), (1, .ref x1), (2, .int x2)] [.int r2] M1 (c + mc3) (sl + ms3)
    refine kz_aload_n (pc := 56) 0 (v := .ref x0) (i := 0) rfl rfl rfl dL_isSame_56 ?_
    obtain ⟨fs4, v5, hM, hv, h⟩ := h
    refine kz_getf (pc := 57) (k := 1) kcL hM hv (by decide) kw_661 dL_isSame_57 ?_
    refine kz_iload_n (pc := 60) 2 (i := 2) rfl rfl dL_isSame_60 ?_
    obtain ⟨n6, f7, hM, hi, h⟩ := h
    refine kz_iald (pc := 61) hM hi dL_isSame_61 ?_
    refine kz_icmp_ne (pc := 62) (tgt := 97) (by decide) dL_isSame_62 (fun hb => ?_) (fun hb => ?_)
    · replace h := h.1 hb
      refine kz_iconst (pc := 97) (v := 0) (by decide) dL_isSame_97 ?_
      exact kz_zret (pc := 98) (ty := .boolean) rfl (by decide) hc3 hs3 dL_isSame_98 h
    · replace h := h.2 hb
      refine kz_aload_n (pc := 65) 1 (v := .ref x1) (i := 1) rfl rfl rfl dL_isSame_65 ?_
      refine kz_iload_n (pc := 66) 2 (i := 2) rfl rfl dL_isSame_66 ?_
      refine kz_bipush (pc := 67) (v := 6) (by decide) dL_isSame_67 ?_
      obtain ⟨⟨fs23, he⟩, h⟩ := h
      obtain ⟨mc10, ms10, hc10, hs10, h⟩ := h
      refine kz_callV (pc := 69) (μ' := mX11_writer) (ci := 10) (q := (RX11, TX11, 10)) (b := x1) (d' := d + 9) (mc' := mc10) (ms' := ms10) (As := [.int x2, .int 6]) (st := []) (c := c + mc3) (sl := sl + ms3) kmX11_writer kw_823 (by omega) rfl (Nat.le_of_ble_eq_true rfl) he rfl rfl hc10 hs10 dL_isSame_69 (fun E M9 hx => kz_Tout rfl hc10 hs10 hx) (kz_Cmono (fun v M8 h => ?_) (fun _ _ h => h) h)
      obtain ⟨r9, rfl, h⟩ := h
      show kz_Z G (d + 10) mc ms mL_isSame Qr Qx 72 [(0, .ref x0), (1, .ref x1), (2, .int x2)] [.int r9] M8 (c + mc3 + mc10) (sl + ms3 + ms10)
      refine kz_aload_n (pc := 72) 0 (v := .ref x0) (i := 0) rfl rfl rfl dL_isSame_72 ?_
      obtain ⟨fs11, v12, hM, hv, h⟩ := h
      refine kz_getf (pc := 73) (k := 3) kcL hM hv (by decide) kw_663 dL_isSame_73 ?_
      refine kz_iload_n (pc := 76) 2 (i := 2) rfl rfl dL_isSame_76 ?_
      obtain ⟨n13, f14, hM, hi, h⟩ := h
      refine kz_iald (pc := 77) hM hi dL_isSame_77 ?_
      refine kz_icmp_ne (pc := 78) (tgt := 97) (by decide) dL_isSame_78 (fun hb => ?_) (fun hb => ?_)
      · replace h := h.1 hb
        refine kz_iconst (pc := 97) (v := 0) (by decide) dL_isSame_97 ?_
        exact kz_zret (pc := 98) (ty := .boolean) rfl (by decide) hc10 hs10 dL_isSame_98 h
      · replace h := h.2 hb
        refine kz_aload_n (pc := 81) 1 (v := .ref x1) (i := 1) rfl rfl rfl dL_isSame_81 ?_
        refine kz_iload_n (pc := 82) 2 (i := 2) rfl rfl dL_isSame_82 ?_
        refine kz_bipush (pc := 83) (v := 7) (by decide) dL_isSame_83 ?_
        obtain ⟨⟨fs22, he⟩, h⟩ := h
        obtain ⟨mc17, ms17, hc17, hs17, h⟩ := h
        refine kz_callV (pc := 85) (μ' := mX11_writer) (ci := 10) (q := (RX11, TX11, 10)) (b := x1) (d' := d + 9) (mc' := mc17) (ms' := ms17) (As := [.int x2, .int 7]) (st := []) (c := c + mc3 + mc10) (sl := sl + ms3 + ms10) kmX11_writer kw_823 (by omega) rfl (Nat.le_of_ble_eq_true rfl) he rfl rfl hc17 hs17 dL_isSame_85 (fun E M9 hx => kz_Tout rfl hc17 hs17 hx) (kz_Cmono (fun v M15 h => ?_) (fun _ _ h => h) h)
        obtain ⟨r16, rfl, h⟩ := h
        show kz_Z G (d + 10) mc ms mL_isSame Qr Qx 88 [(0, .ref x0), (1, .ref x1), (2, .int x2)] [.int r16] M15 (c + mc3 + mc10 + mc17) (sl + ms3 + ms10 + ms17)
        refine kz_aload_n (pc := 88) 0 (v := .ref x0) (i := 0) rfl rfl rfl dL_isSame_88 ?_
        obtain ⟨fs18, v19, hM, hv, h⟩ := h
        refine kz_getf (pc := 89) (k := 2) kcL hM hv (by decide) kw_662 dL_isSame_89 ?_
        refine kz_iload_n (pc := 92) 2 (i := 2) rfl rfl dL_isSame_92 ?_
        obtain ⟨n20, f21, hM, hi, h⟩ := h
        refine kz_iald (pc := 93) hM hi dL_isSame_93 ?_
        refine kz_icmp_eq (pc := 94) (tgt := 99) (by decide) dL_isSame_94 (fun hb => ?_) (fun hb => ?_)
        · replace h := h.1 hb
          refine kz_iinc (pc := 99) 2 (i := 2) (v := x2 + 1) (ls' := [(0, .ref x0), (1, .ref x1)]) rfl (congrArg (fun z => x2 + z) (by decide)) (by decide) rfl dL_isSame_99 ?_
          refine kz_goto (pc := 102) (tgt := 45) (by decide) dL_isSame_102 ?_
          refine kz_sub [1, 2, 0] rfl ?_
          exact h
        · replace h := h.2 hb
          refine kz_iconst (pc := 97) (v := 0) (by decide) dL_isSame_97 ?_
          exact kz_zret (pc := 98) (ty := .boolean) rfl (by decide) hc17 hs17 dL_isSame_98 h
theorem rL_isSame_105 {G : kz_G} {d : Nat} {mc ms : Nat} {Qr : Option Value → kz_M → Prop} {Qx : String → kz_M → Prop} {x0 : Nat} {x1 : Nat}  {M : kz_M} {c sl : Nat} (hc : c ≤ mc) (hs : sl ≤ ms) (h : ∃ fs1 v2, (M).1 x0 = some (.inl (13, fs1)) ∧ fs1[0]? = some (.ref v2) ∧ ((∃ fs6, (M).1 v2 = some (.inl (16, fs6))) ∧ kz_C G (d + 9) 0 0 mJx4a65c_isEmpty_aae02 [.ref v2] M (fun v M3 => ∃ r4 : Int32, v = some (.int r4) ∧ ((r4 = 0 → zL_isSame_119 G d mc ms Qr Qx x0 x1 M3 c sl) ∧ (¬ r4 = 0 → Qr (some (.int 1)) M3))) (fun _ _ => False))) : zL_isSame_105 G d mc ms Qr Qx x0 x1  M c sl := by
  show kz_Z G (d + 10) mc ms mL_isSame Qr Qx 105 [(0, .ref x0), (1, .ref x1)] [] M c sl
  refine kz_aload_n (pc := 105) 0 (v := .ref x0) (i := 0) rfl rfl rfl dL_isSame_105 ?_
  obtain ⟨fs1, v2, hM, hv, h⟩ := h
  refine kz_getf (pc := 106) (k := 0) kcL hM hv (by decide) kw_660 dL_isSame_106 ?_
  obtain ⟨⟨fs6, he⟩, h⟩ := h
  refine kz_callF (pc := 109) (μ' := mJx4a65c_isEmpty_aae02) (x := ⟨"java/util/List", "isEmpty", "()Z"⟩) (ci := 16) (q := (RJx4a65c, TJx4a65c, 3)) (b := v2) (d' := d + 9) (mc' := 0) (ms' := 0) (As := []) (st := []) (c := c) (sl := sl) kmJx4a65c_isEmpty_aae02 rfl kw_934 (List.mem_of_getElem? (i := 1) rfl) (by decide +kernel) kw_932 kw_929 (by omega) rfl (Nat.le_of_ble_eq_true rfl) he rfl hc hs dL_isSame_109 (kz_Cmono (fun v M3 h => ?_) (fun _ _ h => h) h)
  obtain ⟨r4, rfl, h⟩ := h
  show kz_Z G (d + 10) mc ms mL_isSame Qr Qx 114 [(0, .ref x0), (1, .ref x1)] [.int r4] M3 c sl
  refine kz_if_eq (pc := 114) (tgt := 119) (by decide) dL_isSame_114 (fun hb => ?_) (fun hb => ?_)
  · replace h := h.1 hb
    exact h
  · replace h := h.2 hb
    refine kz_iconst (pc := 117) (v := 1) (by decide) dL_isSame_117 ?_
    exact kz_zret (pc := 118) (ty := .boolean) rfl (by decide) hc hs dL_isSame_118 h
theorem rL_isSame_119 {G : kz_G} {d : Nat} {mc ms : Nat} {Qr : Option Value → kz_M → Prop} {Qx : String → kz_M → Prop} {x0 : Nat} {x1 : Nat}  {M : kz_M} {c sl : Nat} (hc : c ≤ mc) (hs : sl ≤ ms) (h : ∃ fs1 v2, (M).1 x0 = some (.inl (13, fs1)) ∧ fs1[0]? = some (.ref v2) ∧ ((∃ fs13, (M).1 v2 = some (.inl (16, fs13))) ∧ kz_C G (d + 9) 0 0 mJx4a65c_size_8abf5 [.ref v2] M (fun v M3 => ∃ r4 : Int32, v = some (.int r4) ∧ (∃ fs6 v7, (M3).1 x0 = some (.inl (13, fs6)) ∧ fs6[0]? = some (.ref v7) ∧ ((∃ fs12, (M3).1 v7 = some (.inl (16, fs12))) ∧ kz_C G (d + 9) 0 0 mJx4a65c_get_915e3 [.ref v7, .int (r4 - 1)] M3 (fun v M8 => ∃ r9 : Nat, v = some (.ref r9) ∧ ((∃ fs11, (M8).1 r9 = some (.inl (12, fs11))) ∧ (zL_isSame_145 G d mc ms Qr Qx x1 (r4 - 1) r9 M8 c sl))) (fun _ _ => False)))) (fun _ _ => False))) : zL_isSame_119 G d mc ms Qr Qx x0 x1  M c sl := by
  show kz_Z G (d + 10) mc ms mL_isSame Qr Qx 119 [(0, .ref x0), (1, .ref x1)] [] M c sl
  refine kz_aload_n (pc := 119) 0 (v := .ref x0) (i := 0) rfl rfl rfl dL_isSame_119 ?_
  obtain ⟨fs1, v2, hM, hv, h⟩ := h
  refine kz_getf (pc := 120) (k := 0) kcL hM hv (by decide) kw_660 dL_isSame_120 ?_
  obtain ⟨⟨fs13, he⟩, h⟩ := h
  refine kz_callF (pc := 123) (μ' := mJx4a65c_size_8abf5) (x := ⟨"java/util/List", "size", "()I"⟩) (ci := 16) (q := (RJx4a65c, TJx4a65c, 3)) (b := v2) (d' := d + 9) (mc' := 0) (ms' := 0) (As := []) (st := []) (c := c) (sl := sl) kmJx4a65c_size_8abf5 rfl kw_820 (List.mem_of_getElem? (i := 0) rfl) (by decide +kernel) kw_818 kw_814 (by omega) rfl (Nat.le_of_ble_eq_true rfl) he rfl hc hs dL_isSame_123 (kz_Cmono (fun v M3 h => ?_) (fun _ _ h => h) h)
  obtain ⟨r4, rfl, h⟩ := h
  show kz_Z G (d + 10) mc ms mL_isSame Qr Qx 128 [(0, .ref x0), (1, .ref x1)] [.int r4] M3 c sl
  refine kz_iconst (pc := 128) (v := 1) (by decide) dL_isSame_128 ?_
  refine kz_isub (pc := 129) dL_isSame_129 ?_
  refine kz_istore_n (pc := 130) (i := 2) (ls' := [(0, .ref x0), (1, .ref x1)]) rfl (by decide) rfl dL_isSame_130 ?_
  refine kz_aload_n (pc := 131) 1 (v := .ref x0) (i := 0) rfl rfl rfl dL_isSame_131 ?_
  obtain ⟨fs6, v7, hM, hv, h⟩ := h
  refine kz_getf (pc := 132) (k := 0) kcL hM hv (by decide) kw_660 dL_isSame_132 ?_
  refine kz_iload_n (pc := 135) 0 (i := 2) rfl rfl dL_isSame_135 ?_
  obtain ⟨⟨fs12, he⟩, h⟩ := h
  refine kz_callF (pc := 136) (μ' := mJx4a65c_get_915e3) (x := ⟨"java/util/List", "get", "(I)Ljava/lang/Object;"⟩) (ci := 16) (q := (RJx4a65c, TJx4a65c, 3)) (b := v7) (d' := d + 9) (mc' := 0) (ms' := 0) (As := [.int (r4 - 1)]) (st := []) (c := c) (sl := sl) kmJx4a65c_get_915e3 rfl kw_943 (List.mem_of_getElem? (i := 2) rfl) (by decide +kernel) kw_941 kw_938 (by omega) rfl (Nat.le_of_ble_eq_true rfl) he rfl hc hs dL_isSame_136 (kz_Cmono (fun v M8 h => ?_) (fun _ _ h => h) h)
  obtain ⟨r9, rfl, h⟩ := h
  show kz_Z G (d + 10) mc ms mL_isSame Qr Qx 141 [(2, .int (r4 - 1)), (0, .ref x0), (1, .ref x1)] [.ref r9] M8 c sl
  obtain ⟨⟨fs11, hM⟩, h⟩ := h
  refine kz_castS (pc := 141) (ci := 12) (q := (RX13, TX13, 3)) rfl kw_954 hM dL_isSame_141 ?_
  refine kz_astore_n (pc := 144) (i := 3) (v := .ref r9) (ls' := [(2, .int (r4 - 1)), (0, .ref x0), (1, .ref x1)]) rfl rfl (by decide) rfl dL_isSame_144 ?_
  refine kz_sub [3, 1, 0] rfl ?_
  exact h
theorem rL_isSame_145 {G : kz_G} {d : Nat} {mc ms : Nat} {Qr : Option Value → kz_M → Prop} {Qx : String → kz_M → Prop} {x1 : Nat} {x2 : Int32} {x3 : Nat}  {M : kz_M} {c sl : Nat} (hc : c ≤ mc) (hs : sl ≤ ms) (h : (∃ fs16, (M).1 x1 = some (.inl (10, fs16))) ∧ ∃ mc3 ms3, c + mc3 ≤ mc ∧ sl + ms3 ≤ ms ∧ kz_C G (d + 9) mc3 ms3 mX11_work [.ref x1, .int x2, .int 4] M (fun v M1 => ∃ r2 : Int32, v = some (.int r2) ∧ (∃ fs4 v5, (M1).1 x3 = some (.inl (12, fs4)) ∧ fs4[2]? = some (.ref v5) ∧ ((∃ fs15, (M1).1 v5 = some (.inl (16, fs15))) ∧ kz_C G (d + 9) 0 0 mJx4a65c_size_8abf5 [.ref v5] M1 (fun v M6 => ∃ r7 : Int32, v = some (.int r7) ∧ ((¬ r2 = r7 → Qr (some (.int 0)) M6) ∧ (r2 = r7 → (∃ fs14, (M6).1 x1 = some (.inl (10, fs14))) ∧ ∃ mc11 ms11, c + mc3 + mc11 ≤ mc ∧ sl + ms3 + ms11 ≤ ms ∧ kz_C G (d + 9) mc11 ms11 mX11_work [.ref x1, .int x2, .int 0] M6 (fun v M9 => ∃ r10 : Int32, v = some (.int r10) ∧ (∃ fs12 v13, (M9).1 x3 = some (.inl (12, fs12)) ∧ fs12[0]? = some (.int v13) ∧ ((r10 = v13 → zL_isSame_178 G d mc ms Qr Qx x1 x2 x3 M9 (c + mc3 + mc11) (sl + ms3 + ms11)) ∧ (¬ r10 = v13 → Qr (some (.int 0)) M9)))) Qx))) (fun _ _ => False)))) Qx) : zL_isSame_145 G d mc ms Qr Qx x1 x2 x3  M c sl := by
  show kz_Z G (d + 10) mc ms mL_isSame Qr Qx 145 [(1, .ref x1), (2, .int x2), (3, .ref x3)] [] M c sl
  refine kz_aload_n (pc := 145) 0 (v := .ref x1) (i := 1) rfl rfl rfl dL_isSame_145 ?_
  refine kz_iload_n (pc := 146) 1 (i := 2) rfl rfl dL_isSame_146 ?_
  refine kz_iconst (pc := 147) (v := 4) (by decide) dL_isSame_147 ?_
  obtain ⟨⟨fs16, he⟩, h⟩ := h
  obtain ⟨mc3, ms3, hc3, hs3, h⟩ := h
  refine kz_callV (pc := 148) (μ' := mX11_work) (ci := 10) (q := (RX11, TX11, 10)) (b := x1) (d' := d + 9) (mc' := mc3) (ms' := ms3) (As := [.int x2, .int 4]) (st := []) (c := c) (sl := sl) kmX11_work kw_955 (by omega) rfl (Nat.le_of_ble_eq_true rfl) he rfl rfl hc3 hs3 dL_isSame_148 (fun E M9 hx => kz_Tout rfl hc3 hs3 hx) (kz_Cmono (fun v M1 h => ?_) (fun _ _ h => h) h)
  obtain ⟨r2, rfl, h⟩ := h
  show kz_Z G (d + 10) mc ms mL_isSame Qr Qx 151 [(1, .ref x1), (2, .int x2), (3, .ref x3)] [.int r2] M1 (c + mc3) (sl + ms3)
  refine kz_aload_n (pc := 151) 2 (v := .ref x3) (i := 3) rfl rfl rfl dL_isSame_151 ?_
  obtain ⟨fs4, v5, hM, hv, h⟩ := h
  refine kz_getfN (pc := 152) (k := 2) kcX13 hM hv (by decide) kw_1254 dL_isSame_152 ?_
  obtain ⟨⟨fs15, he⟩, h⟩ := h
  refine kz_callF (pc := 155) (μ' := mJx4a65c_size_8abf5) (x := ⟨"java/util/List", "size", "()I"⟩) (ci := 16) (q := (RJx4a65c, TJx4a65c, 3)) (b := v5) (d' := d + 9) (mc' := 0) (ms' := 0) (As := []) (st := [.int r2]) (c := c + mc3) (sl := sl + ms3) kmJx4a65c_size_8abf5 rfl kw_820 (List.mem_of_getElem? (i := 0) rfl) (by decide +kernel) kw_818 kw_814 (by omega) rfl (Nat.le_of_ble_eq_true rfl) he rfl hc3 hs3 dL_isSame_155 (kz_Cmono (fun v M6 h => ?_) (fun _ _ h => h) h)
  obtain ⟨r7, rfl, h⟩ := h
  show kz_Z G (d + 10) mc ms mL_isSame Qr Qx 160 [(1, .ref x1), (2, .int x2), (3, .ref x3)] [.int r7, .int r2] M6 (c + mc3) (sl + ms3)
  refine kz_icmp_ne (pc := 160) (tgt := 176) (by decide) dL_isSame_160 (fun hb => ?_) (fun hb => ?_)
  · replace h := h.1 hb
    refine kz_iconst (pc := 176) (v := 0) (by decide) dL_isSame_176 ?_
    exact kz_zret (pc := 177) (ty := .boolean) rfl (by decide) hc3 hs3 dL_isSame_177 h
  · replace h := h.2 hb
    refine kz_aload_n (pc := 163) 0 (v := .ref x1) (i := 1) rfl rfl rfl dL_isSame_163 ?_
    refine kz_iload_n (pc := 164) 1 (i := 2) rfl rfl dL_isSame_164 ?_
    refine kz_iconst (pc := 165) (v := 0) (by decide) dL_isSame_165 ?_
    obtain ⟨⟨fs14, he⟩, h⟩ := h
    obtain ⟨mc11, ms11, hc11, hs11, h⟩ := h
    refine kz_callV (pc := 166) (μ' := mX11_work) (ci := 10) (q := (RX11, TX11, 10)) (b := x1) (d' := d + 9) (mc' := mc11) (ms' := ms11) (As := [.int x2, .int 0]) (st := []) (c := c + mc3) (sl := sl + ms3) kmX11_work kw_955 (by omega) rfl (Nat.le_of_ble_eq_true rfl) he rfl rfl hc11 hs11 dL_isSame_166 (fun E M9 hx => kz_Tout rfl hc11 hs11 hx) (kz_Cmono (fun v M9 h => ?_) (fun _ _ h => h) h)
    obtain ⟨r10, rfl, h⟩ := h
    show kz_Z G (d + 10) mc ms mL_isSame Qr Qx 169 [(1, .ref x1), (2, .int x2), (3, .ref x3)] [.int r10] M9 (c + mc3 + mc11) (sl + ms3 + ms11)
    refine kz_aload_n (pc := 169) 2 (v := .ref x3) (i := 3) rfl rfl rfl dL_isSame_169 ?_
    obtain ⟨fs12, v13, hM, hv, h⟩ := h
    refine kz_getfN (pc := 170) (k := 0) kcX13 hM hv (by decide) kw_1251 dL_isSame_170 ?_
    refine kz_icmp_eq (pc := 173) (tgt := 178) (by decide) dL_isSame_173 (fun hb => ?_) (fun hb => ?_)
    · replace h := h.1 hb
      exact h
    · replace h := h.2 hb
      refine kz_iconst (pc := 176) (v := 0) (by decide) dL_isSame_176 ?_
      exact kz_zret (pc := 177) (ty := .boolean) rfl (by decide) hc11 hs11 dL_isSame_177 h
theorem rL_isSame_178 {G : kz_G} {d : Nat} {mc ms : Nat} {Qr : Option Value → kz_M → Prop} {Qx : String → kz_M → Prop} {x1 : Nat} {x2 : Int32} {x3 : Nat}  {M : kz_M} {c sl : Nat} (hc : c ≤ mc) (hs : sl ≤ ms) (h : zL_isSame_184 G d mc ms Qr Qx x1 x2 x3 0 0 M c sl) : zL_isSame_178 G d mc ms Qr Qx x1 x2 x3  M c sl := by
  show kz_Z G (d + 10) mc ms mL_isSame Qr Qx 178 [(1, .ref x1), (2, .int x2), (3, .ref x3)] [] M c sl
  refine kz_iconst (pc := 178) (v := 0) (by decide) dL_isSame_178 ?_
  refine kz_istore (pc := 179) (i := 4) (ls' := [(1, .ref x1), (2, .int x2), (3, .ref x3)]) (by decide) rfl dL_isSame_179 ?_
  refine kz_iconst (pc := 181) (v := 0) (by decide) dL_isSame_181 ?_
  refine kz_istore (pc := 182) (i := 5) (ls' := [(4, .int 0), (1, .ref x1), (2, .int x2), (3, .ref x3)]) (by decide) rfl dL_isSame_182 ?_
  refine kz_sub [2, 3, 4, 1, 0] rfl ?_
  exact h
theorem rL_isSame_184 {G : kz_G} {d : Nat} {mc ms : Nat} {Qr : Option Value → kz_M → Prop} {Qx : String → kz_M → Prop} {x1 : Nat} {x2 : Int32} {x3 : Nat} {x4 : Int32} {x5 : Int32}  {M : kz_M} {c sl : Nat} (hc : c ≤ mc) (hs : sl ≤ ms) (h : ∃ fs1 v2, (M).1 x3 = some (.inl (12, fs1)) ∧ fs1[2]? = some (.ref v2) ∧ ((∃ fs13, (M).1 v2 = some (.inl (16, fs13))) ∧ kz_C G (d + 9) 0 0 mJx4a65c_size_8abf5 [.ref v2] M (fun v M3 => ∃ r4 : Int32, v = some (.int r4) ∧ ((r4 ≤ x5 → Qr (some (.int 1)) M3) ∧ (¬ r4 ≤ x5 → ∃ fs6 v7, (M3).1 x3 = some (.inl (12, fs6)) ∧ fs6[2]? = some (.ref v7) ∧ ((∃ fs12, (M3).1 v7 = some (.inl (16, fs12))) ∧ kz_C G (d + 9) 0 0 mJx4a65c_get_915e3 [.ref v7, .int x5] M3 (fun v M8 => ∃ r9 : Nat, v = some (.ref r9) ∧ ((∃ fs11, (M8).1 r9 = some (.inl (11, fs11))) ∧ (zL_isSame_214 G d mc ms Qr Qx x1 x2 x3 x4 x5 r9 M8 c sl))) (fun _ _ => False))))) (fun _ _ => False))) : zL_isSame_184 G d mc ms Qr Qx x1 x2 x3 x4 x5  M c sl := by
  show kz_Z G (d + 10) mc ms mL_isSame Qr Qx 184 [(1, .ref x1), (2, .int x2), (3, .ref x3), (4, .int x4), (5, .int x5)] [] M c sl
  refine kz_iload (pc := 184) 4 (i := 5) rfl dL_isSame_184 ?_
  refine kz_aload_n (pc := 186) 2 (v := .ref x3) (i := 3) rfl rfl rfl dL_isSame_186 ?_
  obtain ⟨fs1, v2, hM, hv, h⟩ := h
  refine kz_getfN (pc := 187) (k := 2) kcX13 hM hv (by decide) kw_1254 dL_isSame_187 ?_
  obtain ⟨⟨fs13, he⟩, h⟩ := h
  refine kz_callF (pc := 190) (μ' := mJx4a65c_size_8abf5) (x := ⟨"java/util/List", "size", "()I"⟩) (ci := 16) (q := (RJx4a65c, TJx4a65c, 3)) (b := v2) (d' := d + 9) (mc' := 0) (ms' := 0) (As := []) (st := [.int x5]) (c := c) (sl := sl) kmJx4a65c_size_8abf5 rfl kw_820 (List.mem_of_getElem? (i := 0) rfl) (by decide +kernel) kw_818 kw_814 (by omega) rfl (Nat.le_of_ble_eq_true rfl) he rfl hc hs dL_isSame_190 (kz_Cmono (fun v M3 h => ?_) (fun _ _ h => h) h)
  obtain ⟨r4, rfl, h⟩ := h
  show kz_Z G (d + 10) mc ms mL_isSame Qr Qx 195 [(1, .ref x1), (2, .int x2), (3, .ref x3), (4, .int x4), (5, .int x5)] [.int r4, .int x5] M3 c sl
  refine kz_icmp_ge (pc := 195) (tgt := 342) (by decide) dL_isSame_195 (fun hb => ?_) (fun hb => ?_)
  · replace h := h.1 hb
    refine kz_iconst (pc := 342) (v := 1) (by decide) dL_isSame_342 ?_
    exact kz_zret (pc := 343) (ty := .boolean) rfl (by decide) hc hs dL_isSame_343 h
  · replace h := h.2 hb
    refine kz_aload_n (pc := 198) 2 (v := .ref x3) (i := 3) rfl rfl rfl dL_isSame_198 ?_
    obtain ⟨fs6, v7, hM, hv, h⟩ := h
    refine kz_getfN (pc := 199) (k := 2) kcX13 hM hv (by decide) kw_1254 dL_isSame_199 ?_
    refine kz_iload (pc := 202) 4 (i := 5) rfl dL_isSame_202 ?_
    obtain ⟨⟨fs12, he⟩, h⟩ := h
    refine kz_callF (pc := 204) (μ' := mJx4a65c_get_915e3) (x := ⟨"java/util/List", "get", "(I)Ljava/lang/Object;"⟩) (ci := 16) (q := (RJx4a65c, TJx4a65c, 3)) (b := v7) (d' := d + 9) (mc' := 0) (ms' := 0) (As := [.int x5]) (st := []) (c := c) (sl := sl) kmJx4a65c_get_915e3 rfl kw_943 (List.mem_of_getElem? (i := 2) rfl) (by decide +kernel) kw_941 kw_938 (by omega) rfl (Nat.le_of_ble_eq_true rfl) he rfl hc hs dL_isSame_204 (kz_Cmono (fun v M8 h => ?_) (fun _ _ h => h) h)
    obtain ⟨r9, rfl, h⟩ := h
    show kz_Z G (d + 10) mc ms mL_isSame Qr Qx 209 [(1, .ref x1), (2, .int x2), (3, .ref x3), (4, .int x4), (5, .int x5)] [.ref r9] M8 c sl
    obtain ⟨⟨fs11, hM⟩, h⟩ := h
    refine kz_castS (pc := 209) (ci := 11) (q := (RX12, TX12, 6)) rfl kw_978 hM dL_isSame_209 ?_
    refine kz_astore (pc := 212) (i := 6) (v := .ref r9) (ls' := [(1, .ref x1), (2, .int x2), (3, .ref x3), (4, .int x4), (5, .int x5)]) rfl (by decide) rfl dL_isSame_212 ?_
    refine kz_sub [1, 2, 3, 4, 5, 0] rfl ?_
    exact h
theorem rL_isSame_214 {G : kz_G} {d : Nat} {mc ms : Nat} {Qr : Option Value → kz_M → Prop} {Qx : String → kz_M → Prop} {x1 : Nat} {x2 : Int32} {x3 : Nat} {x4 : Int32} {x5 : Int32} {x6 : Nat}  {M : kz_M} {c sl : Nat} (hc : c ≤ mc) (hs : sl ≤ ms) (h : (∃ fs42, (M).1 x1 = some (.inl (10, fs42))) ∧ ∃ mc3 ms3, c + mc3 ≤ mc ∧ sl + ms3 ≤ ms ∧ kz_C G (d + 9) mc3 ms3 mX11_line [.ref x1, .int x2, .int x5, .int 0] M (fun v M1 => ∃ r2 : Int32, v = some (.int r2) ∧ ((¬ r2 = x4 → Qr (some (.int 0)) M1) ∧ (r2 = x4 → (∃ fs41, (M1).1 x1 = some (.inl (10, fs41))) ∧ ∃ mc6 ms6, c + mc3 + mc6 ≤ mc ∧ sl + ms3 + ms6 ≤ ms ∧ kz_C G (d + 9) mc6 ms6 mX11_line [.ref x1, .int x2, .int x5, .int 1] M1 (fun v M4 => ∃ r5 : Int32, v = some (.int r5) ∧ (∃ fs7 v8, (M4).1 x6 = some (.inl (11, fs7)) ∧ fs7[1]? = some (.int v8) ∧ ((¬ r5 = v8 → Qr (some (.int 0)) M4) ∧ (r5 = v8 → (∃ fs40, (M4).1 x1 = some (.inl (10, fs40))) ∧ ∃ mc11 ms11, c + mc3 + mc6 + mc11 ≤ mc ∧ sl + ms3 + ms6 + ms11 ≤ ms ∧ kz_C G (d + 9) mc11 ms11 mX11_line [.ref x1, .int x2, .int x5, .int 2] M4 (fun v M9 => ∃ r10 : Int32, v = some (.int r10) ∧ (∃ fs12 v13, (M9).1 x6 = some (.inl (11, fs12)) ∧ fs12[2]? = some (.int v13) ∧ ((¬ r10 = v13 → Qr (some (.int 0)) M9) ∧ (r10 = v13 → (∃ fs39, (M9).1 x1 = some (.inl (10, fs39))) ∧ ∃ mc16 ms16, c + mc3 + mc6 + mc11 + mc16 ≤ mc ∧ sl + ms3 + ms6 + ms11 + ms16 ≤ ms ∧ kz_C G (d + 9) mc16 ms16 mX11_line [.ref x1, .int x2, .int x5, .int 3] M9 (fun v M14 => ∃ r15 : Int32, v = some (.int r15) ∧ (∃ fs17 v18, (M14).1 x6 = some (.inl (11, fs17)) ∧ fs17[5]? = some (.int v18) ∧ ((¬ r15 = v18 → Qr (some (.int 0)) M14) ∧ (r15 = v18 → (∃ fs38, (M14).1 x1 = some (.inl (10, fs38))) ∧ ∃ mc21 ms21, c + mc3 + mc6 + mc11 + mc16 + mc21 ≤ mc ∧ sl + ms3 + ms6 + ms11 + ms16 + ms21 ≤ ms ∧ kz_C G (d + 9) mc21 ms21 mX11_line [.ref x1, .int x2, .int x5, .int 4] M14 (fun v M19 => ∃ r20 : Int32, v = some (.int r20) ∧ (∃ fs22 v23, (M19).1 x6 = some (.inl (11, fs22)) ∧ fs22[4]? = some (.int v23) ∧ ((¬ r20 = v23 → Qr (some (.int 0)) M19) ∧ (r20 = v23 → (∃ fs37, (M19).1 x1 = some (.inl (10, fs37))) ∧ ∃ mc26 ms26, c + mc3 + mc6 + mc11 + mc16 + mc21 + mc26 ≤ mc ∧ sl + ms3 + ms6 + ms11 + ms16 + ms21 + ms26 ≤ ms ∧ kz_C G (d + 9) mc26 ms26 mX11_line [.ref x1, .int x2, .int x5, .int 5] M19 (fun v M24 => ∃ r25 : Int32, v = some (.int r25) ∧ (∃ fs27 v28, (M24).1 x6 = some (.inl (11, fs27)) ∧ fs27[3]? = some (.int v28) ∧ ((¬ r25 = v28 → Qr (some (.int 0)) M24) ∧ (r25 = v28 → (∃ fs36, (M24).1 x1 = some (.inl (10, fs36))) ∧ ∃ mc31 ms31, c + mc3 + mc6 + mc11 + mc16 + mc21 + mc26 + mc31 ≤ mc ∧ sl + ms3 + ms6 + ms11 + ms16 + ms21 + ms26 + ms31 ≤ ms ∧ kz_C G (d + 9) mc31 ms31 mX11_line [.ref x1, .int x2, .int x5, .int 6] M24 (fun v M29 => ∃ r30 : Int32, v = some (.int r30) ∧ (kz_C G (d + 9) 0 0 mL_distinctOf [.ref x6] M29 (fun v M32 => ∃ r33 : Int32, v = some (.int r33) ∧ ((r30 = r33 → zL_isSame_326 G d mc ms Qr Qx x1 x2 x3 x4 x5 x6 M32 (c + mc3 + mc6 + mc11 + mc16 + mc21 + mc26 + mc31) (sl + ms3 + ms6 + ms11 + ms16 + ms21 + ms26 + ms31)) ∧ (¬ r30 = r33 → Qr (some (.int 0)) M32))) Qx)) Qx)))) Qx)))) Qx)))) Qx)))) Qx)))) Qx))) Qx) : zL_isSame_214 G d mc ms Qr Qx x1 x2 x3 x4 x5 x6  M c sl := by
  show kz_Z G (d + 10) mc ms mL_isSame Qr Qx 214 [(1, .ref x1), (2, .int x2), (3, .ref x3), (4, .int x4), (5, .int x5), (6, .ref x6)] [] M c sl
  refine kz_aload_n (pc := 214) 0 (v := .ref x1) (i := 1) rfl rfl rfl dL_isSame_214 ?_
  refine kz_iload_n (pc := 215) 1 (i := 2) rfl rfl dL_isSame_215 ?_
  refine kz_iload (pc := 216) 4 (i := 5) rfl dL_isSame_216 ?_
  refine kz_iconst (pc := 218) (v := 0) (by decide) dL_isSame_218 ?_
  obtain ⟨⟨fs42, he⟩, h⟩ := h
  obtain ⟨mc3, ms3, hc3, hs3, h⟩ := h
  refine kz_callV (pc := 219) (μ' := mX11_line) (ci := 10) (q := (RX11, TX11, 10)) (b := x1) (d' := d + 9) (mc' := mc3) (ms' := ms3) (As := [.int x2, .int x5, .int 0]) (st := []) (c := c) (sl := sl) kmX11_line kw_979 (by omega) rfl (Nat.le_of_ble_eq_true rfl) he rfl rfl hc3 hs3 dL_isSame_219 (fun E M9 hx => kz_Tout rfl hc3 hs3 hx) (kz_Cmono (fun v M1 h => ?_) (fun _ _ h => h) h)
  obtain ⟨r2, rfl, h⟩ := h
  show kz_Z G (d + 10) mc ms mL_isSame Qr Qx 222 [(1, .ref x1), (2, .int x2), (3, .ref x3), (4, .int x4), (5, .int x5), (6, .ref x6)] [.int r2] M1 (c + mc3) (sl + ms3)
  refine kz_iload (pc := 222) 3 (i := 4) rfl dL_isSame_222 ?_
  refine kz_icmp_ne (pc := 224) (tgt := 324) (by decide) dL_isSame_224 (fun hb => ?_) (fun hb => ?_)
  · replace h := h.1 hb
    refine kz_iconst (pc := 324) (v := 0) (by decide) dL_isSame_324 ?_
    exact kz_zret (pc := 325) (ty := .boolean) rfl (by decide) hc3 hs3 dL_isSame_325 h
  · replace h := h.2 hb
    refine kz_aload_n (pc := 227) 0 (v := .ref x1) (i := 1) rfl rfl rfl dL_isSame_227 ?_
    refine kz_iload_n (pc := 228) 1 (i := 2) rfl rfl dL_isSame_228 ?_
    refine kz_iload (pc := 229) 4 (i := 5) rfl dL_isSame_229 ?_
    refine kz_iconst (pc := 231) (v := 1) (by decide) dL_isSame_231 ?_
    obtain ⟨⟨fs41, he⟩, h⟩ := h
    obtain ⟨mc6, ms6, hc6, hs6, h⟩ := h
    refine kz_callV (pc := 232) (μ' := mX11_line) (ci := 10) (q := (RX11, TX11, 10)) (b := x1) (d' := d + 9) (mc' := mc6) (ms' := ms6) (As := [.int x2, .int x5, .int 1]) (st := []) (c := c + mc3) (sl := sl + ms3) kmX11_line kw_979 (by omega) rfl (Nat.le_of_ble_eq_true rfl) he rfl rfl hc6 hs6 dL_isSame_232 (fun E M9 hx => kz_Tout rfl hc6 hs6 hx) (kz_Cmono (fun v M4 h => ?_) (fun _ _ h => h) h)
    obtain ⟨r5, rfl, h⟩ := h
    show kz_Z G (d + 10) mc ms mL_isSame Qr Qx 235 [(1, .ref x1), (2, .int x2), (3, .ref x3), (4, .int x4), (5, .int x5), (6, .ref x6)] [.int r5] M4 (c + mc3 + mc6) (sl + ms3 + ms6)
    refine kz_aload (pc := 235) 5 (v := .ref x6) (i := 6) rfl rfl dL_isSame_235 ?_
    obtain ⟨fs7, v8, hM, hv, h⟩ := h
    refine kz_getfN (pc := 237) (k := 1) kcX12 hM hv (by decide) kw_1269 dL_isSame_237 ?_
    refine kz_icmp_ne (pc := 240) (tgt := 324) (by decide) dL_isSame_240 (fun hb => ?_) (fun hb => ?_)
    · replace h := h.1 hb
      refine kz_iconst (pc := 324) (v := 0) (by decide) dL_isSame_324 ?_
      exact kz_zret (pc := 325) (ty := .boolean) rfl (by decide) hc6 hs6 dL_isSame_325 h
    · replace h := h.2 hb
      refine kz_aload_n (pc := 243) 0 (v := .ref x1) (i := 1) rfl rfl rfl dL_isSame_243 ?_
      refine kz_iload_n (pc := 244) 1 (i := 2) rfl rfl dL_isSame_244 ?_
      refine kz_iload (pc := 245) 4 (i := 5) rfl dL_isSame_245 ?_
      refine kz_iconst (pc := 247) (v := 2) (by decide) dL_isSame_247 ?_
      obtain ⟨⟨fs40, he⟩, h⟩ := h
      obtain ⟨mc11, ms11, hc11, hs11, h⟩ := h
      refine kz_callV (pc := 248) (μ' := mX11_line) (ci := 10) (q := (RX11, TX11, 10)) (b := x1) (d' := d + 9) (mc' := mc11) (ms' := ms11) (As := [.int x2, .int x5, .int 2]) (st := []) (c := c + mc3 + mc6) (sl := sl + ms3 + ms6) kmX11_line kw_979 (by omega) rfl (Nat.le_of_ble_eq_true rfl) he rfl rfl hc11 hs11 dL_isSame_248 (fun E M9 hx => kz_Tout rfl hc11 hs11 hx) (kz_Cmono (fun v M9 h => ?_) (fun _ _ h => h) h)
      obtain ⟨r10, rfl, h⟩ := h
      show kz_Z G (d + 10) mc ms mL_isSame Qr Qx 251 [(1, .ref x1), (2, .int x2), (3, .ref x3), (4, .int x4), (5, .int x5), (6, .ref x6)] [.int r10] M9 (c + mc3 + mc6 + mc11) (sl + ms3 + ms6 + ms11)
      refine kz_aload (pc := 251) 5 (v := .ref x6) (i := 6) rfl rfl dL_isSame_251 ?_
      obtain ⟨fs12, v13, hM, hv, h⟩ := h
      refine kz_getfN (pc := 253) (k := 2) kcX12 hM hv (by decide) kw_1270 dL_isSame_253 ?_
      refine kz_icmp_ne (pc := 256) (tgt := 324) (by decide) dL_isSame_256 (fun hb => ?_) (fun hb => ?_)
      · replace h := h.1 hb
        refine kz_iconst (pc := 324) (v := 0) (by decide) dL_isSame_324 ?_
        exact kz_zret (pc := 325) (ty := .boolean) rfl (by decide) hc11 hs11 dL_isSame_325 h
      · replace h := h.2 hb
        refine kz_aload_n (pc := 259) 0 (v := .ref x1) (i := 1) rfl rfl rfl dL_isSame_259 ?_
        refine kz_iload_n (pc := 260) 1 (i := 2) rfl rfl dL_isSame_260 ?_
        refine kz_iload (pc := 261) 4 (i := 5) rfl dL_isSame_261 ?_
        refine kz_iconst (pc := 263) (v := 3) (by decide) dL_isSame_263 ?_
        obtain ⟨⟨fs39, he⟩, h⟩ := h
        obtain ⟨mc16, ms16, hc16, hs16, h⟩ := h
        refine kz_callV (pc := 264) (μ' := mX11_line) (ci := 10) (q := (RX11, TX11, 10)) (b := x1) (d' := d + 9) (mc' := mc16) (ms' := ms16) (As := [.int x2, .int x5, .int 3]) (st := []) (c := c + mc3 + mc6 + mc11) (sl := sl + ms3 + ms6 + ms11) kmX11_line kw_979 (by omega) rfl (Nat.le_of_ble_eq_true rfl) he rfl rfl hc16 hs16 dL_isSame_264 (fun E M9 hx => kz_Tout rfl hc16 hs16 hx) (kz_Cmono (fun v M14 h => ?_) (fun _ _ h => h) h)
        obtain ⟨r15, rfl, h⟩ := h
        show kz_Z G (d + 10) mc ms mL_isSame Qr Qx 267 [(1, .ref x1), (2, .int x2), (3, .ref x3), (4, .int x4), (5, .int x5), (6, .ref x6)] [.int r15] M14 (c + mc3 + mc6 + mc11 + mc16) (sl + ms3 + ms6 + ms11 + ms16)
        refine kz_aload (pc := 267) 5 (v := .ref x6) (i := 6) rfl rfl dL_isSame_267 ?_
        obtain ⟨fs17, v18, hM, hv, h⟩ := h
        refine kz_getfN (pc := 269) (k := 5) kcX12 hM hv (by decide) kw_1273 dL_isSame_269 ?_
        refine kz_icmp_ne (pc := 272) (tgt := 324) (by decide) dL_isSame_272 (fun hb => ?_) (fun hb => ?_)
        · replace h := h.1 hb
          refine kz_iconst (pc := 324) (v := 0) (by decide) dL_isSame_324 ?_
          exact kz_zret (pc := 325) (ty := .boolean) rfl (by decide) hc16 hs16 dL_isSame_325 h
        · replace h := h.2 hb
          refine kz_aload_n (pc := 275) 0 (v := .ref x1) (i := 1) rfl rfl rfl dL_isSame_275 ?_
          refine kz_iload_n (pc := 276) 1 (i := 2) rfl rfl dL_isSame_276 ?_
          refine kz_iload (pc := 277) 4 (i := 5) rfl dL_isSame_277 ?_
          refine kz_iconst (pc := 279) (v := 4) (by decide) dL_isSame_279 ?_
          obtain ⟨⟨fs38, he⟩, h⟩ := h
          obtain ⟨mc21, ms21, hc21, hs21, h⟩ := h
          refine kz_callV (pc := 280) (μ' := mX11_line) (ci := 10) (q := (RX11, TX11, 10)) (b := x1) (d' := d + 9) (mc' := mc21) (ms' := ms21) (As := [.int x2, .int x5, .int 4]) (st := []) (c := c + mc3 + mc6 + mc11 + mc16) (sl := sl + ms3 + ms6 + ms11 + ms16) kmX11_line kw_979 (by omega) rfl (Nat.le_of_ble_eq_true rfl) he rfl rfl hc21 hs21 dL_isSame_280 (fun E M9 hx => kz_Tout rfl hc21 hs21 hx) (kz_Cmono (fun v M19 h => ?_) (fun _ _ h => h) h)
          obtain ⟨r20, rfl, h⟩ := h
          show kz_Z G (d + 10) mc ms mL_isSame Qr Qx 283 [(1, .ref x1), (2, .int x2), (3, .ref x3), (4, .int x4), (5, .int x5), (6, .ref x6)] [.int r20] M19 (c + mc3 + mc6 + mc11 + mc16 + mc21) (sl + ms3 + ms6 + ms11 + ms16 + ms21)
          refine kz_aload (pc := 283) 5 (v := .ref x6) (i := 6) rfl rfl dL_isSame_283 ?_
          obtain ⟨fs22, v23, hM, hv, h⟩ := h
          refine kz_getfN (pc := 285) (k := 4) kcX12 hM hv (by decide) kw_1272 dL_isSame_285 ?_
          refine kz_icmp_ne (pc := 288) (tgt := 324) (by decide) dL_isSame_288 (fun hb => ?_) (fun hb => ?_)
          · replace h := h.1 hb
            refine kz_iconst (pc := 324) (v := 0) (by decide) dL_isSame_324 ?_
            exact kz_zret (pc := 325) (ty := .boolean) rfl (by decide) hc21 hs21 dL_isSame_325 h
          · replace h := h.2 hb
            refine kz_aload_n (pc := 291) 0 (v := .ref x1) (i := 1) rfl rfl rfl dL_isSame_291 ?_
            refine kz_iload_n (pc := 292) 1 (i := 2) rfl rfl dL_isSame_292 ?_
            refine kz_iload (pc := 293) 4 (i := 5) rfl dL_isSame_293 ?_
            refine kz_iconst (pc := 295) (v := 5) (by decide) dL_isSame_295 ?_
            obtain ⟨⟨fs37, he⟩, h⟩ := h
            obtain ⟨mc26, ms26, hc26, hs26, h⟩ := h
            refine kz_callV (pc := 296) (μ' := mX11_line) (ci := 10) (q := (RX11, TX11, 10)) (b := x1) (d' := d + 9) (mc' := mc26) (ms' := ms26) (As := [.int x2, .int x5, .int 5]) (st := []) (c := c + mc3 + mc6 + mc11 + mc16 + mc21) (sl := sl + ms3 + ms6 + ms11 + ms16 + ms21) kmX11_line kw_979 (by omega) rfl (Nat.le_of_ble_eq_true rfl) he rfl rfl hc26 hs26 dL_isSame_296 (fun E M9 hx => kz_Tout rfl hc26 hs26 hx) (kz_Cmono (fun v M24 h => ?_) (fun _ _ h => h) h)
            obtain ⟨r25, rfl, h⟩ := h
            show kz_Z G (d + 10) mc ms mL_isSame Qr Qx 299 [(1, .ref x1), (2, .int x2), (3, .ref x3), (4, .int x4), (5, .int x5), (6, .ref x6)] [.int r25] M24 (c + mc3 + mc6 + mc11 + mc16 + mc21 + mc26) (sl + ms3 + ms6 + ms11 + ms16 + ms21 + ms26)
            refine kz_aload (pc := 299) 5 (v := .ref x6) (i := 6) rfl rfl dL_isSame_299 ?_
            obtain ⟨fs27, v28, hM, hv, h⟩ := h
            refine kz_getfN (pc := 301) (k := 3) kcX12 hM hv (by decide) kw_1271 dL_isSame_301 ?_
            refine kz_icmp_ne (pc := 304) (tgt := 324) (by decide) dL_isSame_304 (fun hb => ?_) (fun hb => ?_)
            · replace h := h.1 hb
              refine kz_iconst (pc := 324) (v := 0) (by decide) dL_isSame_324 ?_
              exact kz_zret (pc := 325) (ty := .boolean) rfl (by decide) hc26 hs26 dL_isSame_325 h
            · replace h := h.2 hb
              refine kz_aload_n (pc := 307) 0 (v := .ref x1) (i := 1) rfl rfl rfl dL_isSame_307 ?_
              refine kz_iload_n (pc := 308) 1 (i := 2) rfl rfl dL_isSame_308 ?_
              refine kz_iload (pc := 309) 4 (i := 5) rfl dL_isSame_309 ?_
              refine kz_bipush (pc := 311) (v := 6) (by decide) dL_isSame_311 ?_
              obtain ⟨⟨fs36, he⟩, h⟩ := h
              obtain ⟨mc31, ms31, hc31, hs31, h⟩ := h
              refine kz_callV (pc := 313) (μ' := mX11_line) (ci := 10) (q := (RX11, TX11, 10)) (b := x1) (d' := d + 9) (mc' := mc31) (ms' := ms31) (As := [.int x2, .int x5, .int 6]) (st := []) (c := c + mc3 + mc6 + mc11 + mc16 + mc21 + mc26) (sl := sl + ms3 + ms6 + ms11 + ms16 + ms21 + ms26) kmX11_line kw_979 (by omega) rfl (Nat.le_of_ble_eq_true rfl) he rfl rfl hc31 hs31 dL_isSame_313 (fun E M9 hx => kz_Tout rfl hc31 hs31 hx) (kz_Cmono (fun v M29 h => ?_) (fun _ _ h => h) h)
              obtain ⟨r30, rfl, h⟩ := h
              show kz_Z G (d + 10) mc ms mL_isSame Qr Qx 316 [(1, .ref x1), (2, .int x2), (3, .ref x3), (4, .int x4), (5, .int x5), (6, .ref x6)] [.int r30] M29 (c + mc3 + mc6 + mc11 + mc16 + mc21 + mc26 + mc31) (sl + ms3 + ms6 + ms11 + ms16 + ms21 + ms26 + ms31)
              refine kz_aload (pc := 316) 5 (v := .ref x6) (i := 6) rfl rfl dL_isSame_316 ?_
              refine kz_callS (pc := 318) (μ' := mL_distinctOf) (d' := d + 9) (mc' := 0) (ms' := 0) (As := [.ref x6]) (st := [.int r30]) (c := c + mc3 + mc6 + mc11 + mc16 + mc21 + mc26 + mc31) (sl := sl + ms3 + ms6 + ms11 + ms16 + ms21 + ms26 + ms31) kmL_distinctOf kw_995 (by omega) rfl (Nat.le_of_ble_eq_true rfl) hc31 hs31 dL_isSame_318 (fun E M9 hx => kz_Tout rfl hc31 hs31 hx) (kz_Cmono (fun v M32 h => ?_) (fun _ _ h => h) h)
              obtain ⟨r33, rfl, h⟩ := h
              show kz_Z G (d + 10) mc ms mL_isSame Qr Qx 321 [(1, .ref x1), (2, .int x2), (3, .ref x3), (4, .int x4), (5, .int x5), (6, .ref x6)] [.int r33, .int r30] M32 (c + mc3 + mc6 + mc11 + mc16 + mc21 + mc26 + mc31) (sl + ms3 + ms6 + ms11 + ms16 + ms21 + ms26 + ms31)
              refine kz_icmp_eq (pc := 321) (tgt := 326) (by decide) dL_isSame_321 (fun hb => ?_) (fun hb => ?_)
              · replace h := h.1 hb
                exact h
              · replace h := h.2 hb
                refine kz_iconst (pc := 324) (v := 0) (by decide) dL_isSame_324 ?_
                exact kz_zret (pc := 325) (ty := .boolean) rfl (by decide) hc31 hs31 dL_isSame_325 h
theorem rL_isSame_326 {G : kz_G} {d : Nat} {mc ms : Nat} {Qr : Option Value → kz_M → Prop} {Qx : String → kz_M → Prop} {x1 : Nat} {x2 : Int32} {x3 : Nat} {x4 : Int32} {x5 : Int32} {x6 : Nat}  {M : kz_M} {c sl : Nat} (hc : c ≤ mc) (hs : sl ≤ ms) (h : ∃ fs1 v2, (M).1 x6 = some (.inl (11, fs1)) ∧ fs1[1]? = some (.int v2) ∧ (zL_isSame_184 G d mc ms Qr Qx x1 x2 x3 (x4 + v2) (x5 + 1) M c sl)) : zL_isSame_326 G d mc ms Qr Qx x1 x2 x3 x4 x5 x6  M c sl := by
  show kz_Z G (d + 10) mc ms mL_isSame Qr Qx 326 [(1, .ref x1), (2, .int x2), (3, .ref x3), (4, .int x4), (5, .int x5), (6, .ref x6)] [] M c sl
  refine kz_iload (pc := 326) 3 (i := 4) rfl dL_isSame_326 ?_
  refine kz_aload (pc := 328) 5 (v := .ref x6) (i := 6) rfl rfl dL_isSame_328 ?_
  obtain ⟨fs1, v2, hM, hv, h⟩ := h
  refine kz_getfN (pc := 330) (k := 1) kcX12 hM hv (by decide) kw_1269 dL_isSame_330 ?_
  refine kz_iadd (pc := 333) dL_isSame_333 ?_
  refine kz_istore (pc := 334) (i := 4) (ls' := [(1, .ref x1), (2, .int x2), (3, .ref x3), (5, .int x5), (6, .ref x6)]) (by decide) rfl dL_isSame_334 ?_
  refine kz_iinc (pc := 336) 4 (i := 5) (v := x5 + 1) (ls' := [(4, .int (x4 + v2)), (1, .ref x1), (2, .int x2), (3, .ref x3), (6, .ref x6)]) rfl (congrArg (fun z => x5 + z) (by decide)) (by decide) rfl dL_isSame_336 ?_
  refine kz_goto (pc := 339) (tgt := 184) (by decide) dL_isSame_339 ?_
  refine kz_sub [2, 3, 4, 1, 0] rfl ?_
  exact h
theorem dL_submit_0 : decode cL_submit 0 = .ok (.iload_n 2, 1) := by decide +kernel
theorem dL_submit_1 : decode cL_submit 1 = .ok (.iconst 3, 1) := by decide +kernel
theorem dL_submit_2 : decode cL_submit 2 = .ok (.iconst 2, 1) := by decide +kernel
theorem dL_submit_3 : decode cL_submit 3 = .ok (.invokestatic 76, 3) := by decide +kernel
theorem dL_submit_6 : decode cL_submit 6 = .ok (.iconst 3, 1) := by decide +kernel
theorem dL_submit_7 : decode cL_submit 7 = .ok (.irem, 1) := by decide +kernel
theorem dL_submit_8 : decode cL_submit 8 = .ok (.istore 4, 2) := by decide +kernel
theorem dL_submit_10 : decode cL_submit 10 = .ok (.iload_n 2, 1) := by decide +kernel
theorem dL_submit_11 : decode cL_submit 11 = .ok (.iconst 5, 1) := by decide +kernel
theorem dL_submit_12 : decode cL_submit 12 = .ok (.iconst 2, 1) := by decide +kernel
theorem dL_submit_13 : decode cL_submit 13 = .ok (.invokestatic 76, 3) := by decide +kernel
theorem dL_submit_16 : decode cL_submit 16 = .ok (.iconst 3, 1) := by decide +kernel
theorem dL_submit_17 : decode cL_submit 17 = .ok (.irem, 1) := by decide +kernel
theorem dL_submit_18 : decode cL_submit 18 = .ok (.istore 5, 2) := by decide +kernel
theorem dL_submit_20 : decode cL_submit 20 = .ok (.bipush 40, 2) := by decide +kernel
theorem dL_submit_22 : decode cL_submit 22 = .ok (.newarray .int, 2) := by decide +kernel
theorem dL_submit_24 : decode cL_submit 24 = .ok (.astore 6, 2) := by decide +kernel
theorem dL_submit_26 : decode cL_submit 26 = .ok (.iconst 0, 1) := by decide +kernel
theorem dL_submit_27 : decode cL_submit 27 = .ok (.istore 7, 2) := by decide +kernel
theorem dL_submit_29 : decode cL_submit 29 = .ok (.new 65, 3) := by decide +kernel
theorem dL_submit_32 : decode cL_submit 32 = .ok (.dup, 1) := by decide +kernel
theorem dL_submit_33 : decode cL_submit 33 = .ok (.invokespecial 67, 3) := by decide +kernel
theorem dL_submit_36 : decode cL_submit 36 = .ok (.astore 8, 2) := by decide +kernel
theorem dL_submit_38 : decode cL_submit 38 = .ok (.iconst 1, 1) := by decide +kernel
theorem dL_submit_39 : decode cL_submit 39 = .ok (.iload_n 2, 1) := by decide +kernel
theorem dL_submit_40 : decode cL_submit 40 = .ok (.bipush 7, 2) := by decide +kernel
theorem dL_submit_42 : decode cL_submit 42 = .ok (.iconst 4, 1) := by decide +kernel
theorem dL_submit_43 : decode cL_submit 43 = .ok (.invokestatic 76, 3) := by decide +kernel
theorem dL_submit_46 : decode cL_submit 46 = .ok (.iadd, 1) := by decide +kernel
theorem dL_submit_47 : decode cL_submit 47 = .ok (.istore 9, 2) := by decide +kernel
theorem dL_submit_49 : decode cL_submit 49 = .ok (.iconst 0, 1) := by decide +kernel
theorem dL_submit_50 : decode cL_submit 50 = .ok (.istore 10, 2) := by decide +kernel
theorem dL_submit_52 : decode cL_submit 52 = .ok (.iload 10, 2) := by decide +kernel
theorem dL_submit_54 : decode cL_submit 54 = .ok (.iload 9, 2) := by decide +kernel
theorem dL_submit_56 : decode cL_submit 56 = .ok (.if_icmp .ge 125, 3) := by decide +kernel
theorem dL_submit_59 : decode cL_submit 59 = .ok (.iload_n 3, 1) := by decide +kernel
theorem dL_submit_60 : decode cL_submit 60 = .ok (.iconst 2, 1) := by decide +kernel
theorem dL_submit_61 : decode cL_submit 61 = .ok (.iload 10, 2) := by decide +kernel
theorem dL_submit_63 : decode cL_submit 63 = .ok (.imul, 1) := by decide +kernel
theorem dL_submit_64 : decode cL_submit 64 = .ok (.iconst 2, 1) := by decide +kernel
theorem dL_submit_65 : decode cL_submit 65 = .ok (.invokestatic 76, 3) := by decide +kernel
theorem dL_submit_68 : decode cL_submit 68 = .ok (.istore 11, 2) := by decide +kernel
theorem dL_submit_70 : decode cL_submit 70 = .ok (.iload 10, 2) := by decide +kernel
theorem dL_submit_72 : decode cL_submit 72 = .ok (.ifCond .le 11, 3) := by decide +kernel
theorem dL_submit_75 : decode cL_submit 75 = .ok (.aload 8, 2) := by decide +kernel
theorem dL_submit_77 : decode cL_submit 77 = .ok (.bipush 32, 2) := by decide +kernel
theorem dL_submit_79 : decode cL_submit 79 = .ok (.invokevirtual 112, 3) := by decide +kernel
theorem dL_submit_82 : decode cL_submit 82 = .ok (.pop, 1) := by decide +kernel
theorem dL_submit_83 : decode cL_submit 83 = .ok (.iload 10, 2) := by decide +kernel
theorem dL_submit_85 : decode cL_submit 85 = .ok (.ifCond .le 40, 3) := by decide +kernel
theorem dL_submit_88 : decode cL_submit 88 = .ok (.iload 5, 2) := by decide +kernel
theorem dL_submit_90 : decode cL_submit 90 = .ok (.iconst 1, 1) := by decide +kernel
theorem dL_submit_91 : decode cL_submit 91 = .ok (.if_icmp .ne 34, 3) := by decide +kernel
theorem dL_submit_94 : decode cL_submit 94 = .ok (.iload_n 2, 1) := by decide +kernel
theorem dL_submit_95 : decode cL_submit 95 = .ok (.bipush 11, 2) := by decide +kernel
theorem dL_submit_97 : decode cL_submit 97 = .ok (.iload 10, 2) := by decide +kernel
theorem dL_submit_99 : decode cL_submit 99 = .ok (.iadd, 1) := by decide +kernel
theorem dL_submit_100 : decode cL_submit 100 = .ok (.iconst 1, 1) := by decide +kernel
theorem dL_submit_101 : decode cL_submit 101 = .ok (.invokestatic 76, 3) := by decide +kernel
theorem dL_submit_104 : decode cL_submit 104 = .ok (.iconst 1, 1) := by decide +kernel
theorem dL_submit_105 : decode cL_submit 105 = .ok (.if_icmp .ne 20, 3) := by decide +kernel
theorem dL_submit_108 : decode cL_submit 108 = .ok (.aload 8, 2) := by decide +kernel
theorem dL_submit_110 : decode cL_submit 110 = .ok (.ldc 218, 2) := by decide +kernel
theorem dL_submit_112 : decode cL_submit 112 = .ok (.invokevirtual 91, 3) := by decide +kernel
theorem dL_submit_115 : decode cL_submit 115 = .ok (.pop, 1) := by decide +kernel
theorem dL_submit_116 : decode cL_submit 116 = .ok (.aload 6, 2) := by decide +kernel
theorem dL_submit_118 : decode cL_submit 118 = .ok (.iload 7, 2) := by decide +kernel
theorem dL_submit_120 : decode cL_submit 120 = .ok (.iconst (-1), 1) := by decide +kernel
theorem dL_submit_121 : decode cL_submit 121 = .ok (.iastore, 1) := by decide +kernel
theorem dL_submit_122 : decode cL_submit 122 = .ok (.iinc 7 1, 3) := by decide +kernel
theorem dL_submit_125 : decode cL_submit 125 = .ok (.aload 6, 2) := by decide +kernel
theorem dL_submit_127 : decode cL_submit 127 = .ok (.iload 7, 2) := by decide +kernel
theorem dL_submit_129 : decode cL_submit 129 = .ok (.iload 11, 2) := by decide +kernel
theorem dL_submit_131 : decode cL_submit 131 = .ok (.iastore, 1) := by decide +kernel
theorem dL_submit_132 : decode cL_submit 132 = .ok (.iinc 7 1, 3) := by decide +kernel
theorem dL_submit_135 : decode cL_submit 135 = .ok (.aload 8, 2) := by decide +kernel
theorem dL_submit_137 : decode cL_submit 137 = .ok (.iload 11, 2) := by decide +kernel
theorem dL_submit_139 : decode cL_submit 139 = .ok (.ifCond .ne 8, 3) := by decide +kernel
theorem dL_submit_142 : decode cL_submit 142 = .ok (.ldc 220, 2) := by decide +kernel
theorem dL_submit_144 : decode cL_submit 144 = .ok (.goto 27, 3) := by decide +kernel
theorem dL_submit_147 : decode cL_submit 147 = .ok (.iload 11, 2) := by decide +kernel
theorem dL_submit_149 : decode cL_submit 149 = .ok (.iconst 1, 1) := by decide +kernel
theorem dL_submit_150 : decode cL_submit 150 = .ok (.if_icmp .ne 8, 3) := by decide +kernel
theorem dL_submit_153 : decode cL_submit 153 = .ok (.ldc 222, 2) := by decide +kernel
theorem dL_submit_155 : decode cL_submit 155 = .ok (.goto 16, 3) := by decide +kernel
theorem dL_submit_158 : decode cL_submit 158 = .ok (.iload 11, 2) := by decide +kernel
theorem dL_submit_160 : decode cL_submit 160 = .ok (.iconst 2, 1) := by decide +kernel
theorem dL_submit_161 : decode cL_submit 161 = .ok (.if_icmp .ne 8, 3) := by decide +kernel
theorem dL_submit_164 : decode cL_submit 164 = .ok (.ldc 224, 2) := by decide +kernel
theorem dL_submit_166 : decode cL_submit 166 = .ok (.goto 5, 3) := by decide +kernel
theorem dL_submit_169 : decode cL_submit 169 = .ok (.ldc 226, 2) := by decide +kernel
theorem dL_submit_171 : decode cL_submit 171 = .ok (.invokevirtual 91, 3) := by decide +kernel
theorem dL_submit_174 : decode cL_submit 174 = .ok (.pop, 1) := by decide +kernel
theorem dL_submit_175 : decode cL_submit 175 = .ok (.iinc 10 1, 3) := by decide +kernel
theorem dL_submit_178 : decode cL_submit 178 = .ok (.goto (-126), 3) := by decide +kernel
theorem dL_submit_181 : decode cL_submit 181 = .ok (.aload_n 1, 1) := by decide +kernel
theorem dL_submit_182 : decode cL_submit 182 = .ok (.aload 8, 2) := by decide +kernel
theorem dL_submit_184 : decode cL_submit 184 = .ok (.invokevirtual 228, 3) := by decide +kernel
theorem dL_submit_187 : decode cL_submit 187 = .ok (.invokestatic 232, 3) := by decide +kernel
theorem dL_submit_190 : decode cL_submit 190 = .ok (.aload_n 0, 1) := by decide +kernel
theorem dL_submit_191 : decode cL_submit 191 = .ok (.getfield 36, 3) := by decide +kernel
theorem dL_submit_194 : decode cL_submit 194 = .ok (.iload 4, 2) := by decide +kernel
theorem dL_submit_196 : decode cL_submit 196 = .ok (.iaload, 1) := by decide +kernel
theorem dL_submit_197 : decode cL_submit 197 = .ok (.istore 10, 2) := by decide +kernel
theorem dL_submit_199 : decode cL_submit 199 = .ok (.aload_n 1, 1) := by decide +kernel
theorem dL_submit_200 : decode cL_submit 200 = .ok (.iload 4, 2) := by decide +kernel
theorem dL_submit_202 : decode cL_submit 202 = .ok (.iload 5, 2) := by decide +kernel
theorem dL_submit_204 : decode cL_submit 204 = .ok (.aload 8, 2) := by decide +kernel
theorem dL_submit_206 : decode cL_submit 206 = .ok (.invokevirtual 236, 3) := by decide +kernel
theorem dL_submit_209 : decode cL_submit 209 = .ok (.invokevirtual 237, 3) := by decide +kernel
theorem dL_submit_212 : decode cL_submit 212 = .ok (.istore 11, 2) := by decide +kernel
theorem dL_submit_214 : decode cL_submit 214 = .ok (.aload_n 0, 1) := by decide +kernel
theorem dL_submit_215 : decode cL_submit 215 = .ok (.iload 4, 2) := by decide +kernel
theorem dL_submit_217 : decode cL_submit 217 = .ok (.iload 5, 2) := by decide +kernel
theorem dL_submit_219 : decode cL_submit 219 = .ok (.aload 6, 2) := by decide +kernel
theorem dL_submit_221 : decode cL_submit 221 = .ok (.iload 7, 2) := by decide +kernel
theorem dL_submit_223 : decode cL_submit 223 = .ok (.invokevirtual 240, 3) := by decide +kernel
theorem dL_submit_226 : decode cL_submit 226 = .ok (.astore 12, 2) := by decide +kernel
theorem dL_submit_228 : decode cL_submit 228 = .ok (.iconst 0, 1) := by decide +kernel
theorem dL_submit_229 : decode cL_submit 229 = .ok (.istore 13, 2) := by decide +kernel
theorem dL_submit_231 : decode cL_submit 231 = .ok (.aload 12, 2) := by decide +kernel
theorem dL_submit_233 : decode cL_submit 233 = .ok (.getfield 144, 3) := by decide +kernel
theorem dL_submit_236 : decode cL_submit 236 = .ok (.invokeinterface 123 1, 5) := by decide +kernel
theorem dL_submit_241 : decode cL_submit 241 = .ok (.astore 14, 2) := by decide +kernel
theorem dL_submit_243 : decode cL_submit 243 = .ok (.aload 14, 2) := by decide +kernel
theorem dL_submit_245 : decode cL_submit 245 = .ok (.invokeinterface 129 1, 5) := by decide +kernel
theorem dL_submit_250 : decode cL_submit 250 = .ok (.ifCond .eq 36, 3) := by decide +kernel
theorem dL_submit_253 : decode cL_submit 253 = .ok (.aload 14, 2) := by decide +kernel
theorem dL_submit_255 : decode cL_submit 255 = .ok (.invokeinterface 135 1, 5) := by decide +kernel
theorem dL_submit_260 : decode cL_submit 260 = .ok (.checkcast 116, 3) := by decide +kernel
theorem dL_submit_263 : decode cL_submit 263 = .ok (.astore 15, 2) := by decide +kernel
theorem dL_submit_265 : decode cL_submit 265 = .ok (.iload 13, 2) := by decide +kernel
theorem dL_submit_267 : decode cL_submit 267 = .ok (.aload 15, 2) := by decide +kernel
theorem dL_submit_269 : decode cL_submit 269 = .ok (.getfield 154, 3) := by decide +kernel
theorem dL_submit_272 : decode cL_submit 272 = .ok (.ifCond .ne 7, 3) := by decide +kernel
theorem dL_submit_275 : decode cL_submit 275 = .ok (.iconst 1, 1) := by decide +kernel
theorem dL_submit_276 : decode cL_submit 276 = .ok (.goto 4, 3) := by decide +kernel
theorem dL_submit_279 : decode cL_submit 279 = .ok (.iconst 0, 1) := by decide +kernel
theorem dL_submit_280 : decode cL_submit 280 = .ok (.iadd, 1) := by decide +kernel
theorem dL_submit_281 : decode cL_submit 281 = .ok (.istore 13, 2) := by decide +kernel
theorem dL_submit_283 : decode cL_submit 283 = .ok (.goto (-40), 3) := by decide +kernel
theorem dL_submit_286 : decode cL_submit 286 = .ok (.iload 11, 2) := by decide +kernel
theorem dL_submit_288 : decode cL_submit 288 = .ok (.aload_n 0, 1) := by decide +kernel
theorem dL_submit_289 : decode cL_submit 289 = .ok (.getfield 36, 3) := by decide +kernel
theorem dL_submit_292 : decode cL_submit 292 = .ok (.iload 4, 2) := by decide +kernel
theorem dL_submit_294 : decode cL_submit 294 = .ok (.iaload, 1) := by decide +kernel
theorem dL_submit_295 : decode cL_submit 295 = .ok (.iload 10, 2) := by decide +kernel
theorem dL_submit_297 : decode cL_submit 297 = .ok (.isub, 1) := by decide +kernel
theorem dL_submit_298 : decode cL_submit 298 = .ok (.if_icmp .ne 52, 3) := by decide +kernel
theorem dL_submit_301 : decode cL_submit 301 = .ok (.aload_n 1, 1) := by decide +kernel
theorem dL_submit_302 : decode cL_submit 302 = .ok (.iload 4, 2) := by decide +kernel
theorem dL_submit_304 : decode cL_submit 304 = .ok (.iload 5, 2) := by decide +kernel
theorem dL_submit_306 : decode cL_submit 306 = .ok (.aload 8, 2) := by decide +kernel
theorem dL_submit_308 : decode cL_submit 308 = .ok (.invokevirtual 236, 3) := by decide +kernel
theorem dL_submit_311 : decode cL_submit 311 = .ok (.invokevirtual 244, 3) := by decide +kernel
theorem dL_submit_314 : decode cL_submit 314 = .ok (.iload 13, 2) := by decide +kernel
theorem dL_submit_316 : decode cL_submit 316 = .ok (.if_icmp .ne 34, 3) := by decide +kernel
theorem dL_submit_319 : decode cL_submit 319 = .ok (.aload_n 1, 1) := by decide +kernel
theorem dL_submit_320 : decode cL_submit 320 = .ok (.iload 4, 2) := by decide +kernel
theorem dL_submit_322 : decode cL_submit 322 = .ok (.iload 5, 2) := by decide +kernel
theorem dL_submit_324 : decode cL_submit 324 = .ok (.aload 8, 2) := by decide +kernel
theorem dL_submit_326 : decode cL_submit 326 = .ok (.invokevirtual 236, 3) := by decide +kernel
theorem dL_submit_329 : decode cL_submit 329 = .ok (.invokevirtual 247, 3) := by decide +kernel
theorem dL_submit_332 : decode cL_submit 332 = .ok (.aload_n 0, 1) := by decide +kernel
theorem dL_submit_333 : decode cL_submit 333 = .ok (.getfield 30, 3) := by decide +kernel
theorem dL_submit_336 : decode cL_submit 336 = .ok (.invokeinterface 195 1, 5) := by decide +kernel
theorem dL_submit_341 : decode cL_submit 341 = .ok (.iconst 1, 1) := by decide +kernel
theorem dL_submit_342 : decode cL_submit 342 = .ok (.isub, 1) := by decide +kernel
theorem dL_submit_343 : decode cL_submit 343 = .ok (.if_icmp .ne 7, 3) := by decide +kernel
theorem dL_submit_346 : decode cL_submit 346 = .ok (.iconst 1, 1) := by decide +kernel
theorem dL_submit_347 : decode cL_submit 347 = .ok (.goto 4, 3) := by decide +kernel
theorem dL_submit_350 : decode cL_submit 350 = .ok (.iconst 0, 1) := by decide +kernel
theorem dL_submit_351 : decode cL_submit 351 = .ok (.ireturn, 1) := by decide +kernel
def zL_submit_52 (G : kz_G) (d mc ms : Nat) (Qr : Option Value → kz_M → Prop) (Qx : String → kz_M → Prop) (x0 : Nat) (x1 : Nat) (x2 : Int32) (x3 : Int32) (x4 : Int32) (x5 : Int32) (x6 : Nat) (x7 : Int32) (x8 : Nat) (x9 : Int32) (x10 : Int32)  (M : kz_M) (c sl : Nat) : Prop := kz_Z G (d + 10) mc ms mL_submit Qr Qx 52 [(0, .ref x0), (1, .ref x1), (2, .int x2), (3, .int x3), (4, .int x4), (5, .int x5), (6, .ref x6), (7, .int x7), (8, .ref x8), (9, .int x9), (10, .int x10)] [] M c sl
def zL_submit_59 (G : kz_G) (d mc ms : Nat) (Qr : Option Value → kz_M → Prop) (Qx : String → kz_M → Prop) (x0 : Nat) (x1 : Nat) (x2 : Int32) (x3 : Int32) (x4 : Int32) (x5 : Int32) (x6 : Nat) (x7 : Int32) (x8 : Nat) (x9 : Int32) (x10 : Int32)  (M : kz_M) (c sl : Nat) : Prop := kz_Z G (d + 10) mc ms mL_submit Qr Qx 59 [(0, .ref x0), (1, .ref x1), (2, .int x2), (3, .int x3), (4, .int x4), (5, .int x5), (6, .ref x6), (7, .int x7), (8, .ref x8), (9, .int x9), (10, .int x10)] [] M c sl
def zL_submit_83 (G : kz_G) (d mc ms : Nat) (Qr : Option Value → kz_M → Prop) (Qx : String → kz_M → Prop) (x0 : Nat) (x1 : Nat) (x2 : Int32) (x3 : Int32) (x4 : Int32) (x5 : Int32) (x6 : Nat) (x7 : Int32) (x8 : Nat) (x9 : Int32) (x10 : Int32) (x11 : Int32)  (M : kz_M) (c sl : Nat) : Prop := kz_Z G (d + 10) mc ms mL_submit Qr Qx 83 [(0, .ref x0), (1, .ref x1), (2, .int x2), (3, .int x3), (4, .int x4), (5, .int x5), (6, .ref x6), (7, .int x7), (8, .ref x8), (9, .int x9), (10, .int x10), (11, .int x11)] [] M c sl
def zL_submit_125 (G : kz_G) (d mc ms : Nat) (Qr : Option Value → kz_M → Prop) (Qx : String → kz_M → Prop) (x0 : Nat) (x1 : Nat) (x2 : Int32) (x3 : Int32) (x4 : Int32) (x5 : Int32) (x6 : Nat) (x7 : Int32) (x8 : Nat) (x9 : Int32) (x10 : Int32) (x11 : Int32)  (M : kz_M) (c sl : Nat) : Prop := kz_Z G (d + 10) mc ms mL_submit Qr Qx 125 [(0, .ref x0), (1, .ref x1), (2, .int x2), (3, .int x3), (4, .int x4), (5, .int x5), (6, .ref x6), (7, .int x7), (8, .ref x8), (9, .int x9), (10, .int x10), (11, .int x11)] [] M c sl
def zL_submit_171 (G : kz_G) (d mc ms : Nat) (Qr : Option Value → kz_M → Prop) (Qx : String → kz_M → Prop) (x0 : Nat) (x1 : Nat) (x2 : Int32) (x3 : Int32) (x4 : Int32) (x5 : Int32) (x6 : Nat) (x7 : Int32) (x8 : Nat) (x9 : Int32) (x10 : Int32) (s0 : Nat) (s1 : Nat) (M : kz_M) (c sl : Nat) : Prop := kz_Z G (d + 10) mc ms mL_submit Qr Qx 171 [(0, .ref x0), (1, .ref x1), (2, .int x2), (3, .int x3), (4, .int x4), (5, .int x5), (6, .ref x6), (7, .int x7), (8, .ref x8), (9, .int x9), (10, .int x10)] [.retAddr s0, .ref s1] M c sl
def zL_submit_175 (G : kz_G) (d mc ms : Nat) (Qr : Option Value → kz_M → Prop) (Qx : String → kz_M → Prop) (x0 : Nat) (x1 : Nat) (x2 : Int32) (x3 : Int32) (x4 : Int32) (x5 : Int32) (x6 : Nat) (x7 : Int32) (x8 : Nat) (x9 : Int32) (x10 : Int32)  (M : kz_M) (c sl : Nat) : Prop := kz_Z G (d + 10) mc ms mL_submit Qr Qx 175 [(0, .ref x0), (1, .ref x1), (2, .int x2), (3, .int x3), (4, .int x4), (5, .int x5), (6, .ref x6), (7, .int x7), (8, .ref x8), (9, .int x9), (10, .int x10)] [] M c sl
def zL_submit_181 (G : kz_G) (d mc ms : Nat) (Qr : Option Value → kz_M → Prop) (Qx : String → kz_M → Prop) (x0 : Nat) (x1 : Nat) (x4 : Int32) (x5 : Int32) (x6 : Nat) (x7 : Int32) (x8 : Nat)  (M : kz_M) (c sl : Nat) : Prop := kz_Z G (d + 10) mc ms mL_submit Qr Qx 181 [(0, .ref x0), (1, .ref x1), (4, .int x4), (5, .int x5), (6, .ref x6), (7, .int x7), (8, .ref x8)] [] M c sl
def zL_submit_199 (G : kz_G) (d mc ms : Nat) (Qr : Option Value → kz_M → Prop) (Qx : String → kz_M → Prop) (x0 : Nat) (x1 : Nat) (x4 : Int32) (x5 : Int32) (x6 : Nat) (x7 : Int32) (x8 : Nat) (x10 : Int32)  (M : kz_M) (c sl : Nat) : Prop := kz_Z G (d + 10) mc ms mL_submit Qr Qx 199 [(0, .ref x0), (1, .ref x1), (4, .int x4), (5, .int x5), (6, .ref x6), (7, .int x7), (8, .ref x8), (10, .int x10)] [] M c sl
def zL_submit_214 (G : kz_G) (d mc ms : Nat) (Qr : Option Value → kz_M → Prop) (Qx : String → kz_M → Prop) (x0 : Nat) (x1 : Nat) (x4 : Int32) (x5 : Int32) (x6 : Nat) (x7 : Int32) (x8 : Nat) (x10 : Int32) (x11 : Int32)  (M : kz_M) (c sl : Nat) : Prop := kz_Z G (d + 10) mc ms mL_submit Qr Qx 214 [(0, .ref x0), (1, .ref x1), (4, .int x4), (5, .int x5), (6, .ref x6), (7, .int x7), (8, .ref x8), (10, .int x10), (11, .int x11)] [] M c sl
def zL_submit_231 (G : kz_G) (d mc ms : Nat) (Qr : Option Value → kz_M → Prop) (Qx : String → kz_M → Prop) (x0 : Nat) (x1 : Nat) (x4 : Int32) (x5 : Int32) (x8 : Nat) (x10 : Int32) (x11 : Int32) (x12 : Nat) (x13 : Int32)  (M : kz_M) (c sl : Nat) : Prop := kz_Z G (d + 10) mc ms mL_submit Qr Qx 231 [(0, .ref x0), (1, .ref x1), (4, .int x4), (5, .int x5), (8, .ref x8), (10, .int x10), (11, .int x11), (12, .ref x12), (13, .int x13)] [] M c sl
def zL_submit_243 (G : kz_G) (d mc ms : Nat) (Qr : Option Value → kz_M → Prop) (Qx : String → kz_M → Prop) (x0 : Nat) (x1 : Nat) (x4 : Int32) (x5 : Int32) (x8 : Nat) (x10 : Int32) (x11 : Int32) (x13 : Int32) (x14 : Nat)  (M : kz_M) (c sl : Nat) : Prop := kz_Z G (d + 10) mc ms mL_submit Qr Qx 243 [(0, .ref x0), (1, .ref x1), (4, .int x4), (5, .int x5), (8, .ref x8), (10, .int x10), (11, .int x11), (13, .int x13), (14, .ref x14)] [] M c sl
def zL_submit_280 (G : kz_G) (d mc ms : Nat) (Qr : Option Value → kz_M → Prop) (Qx : String → kz_M → Prop) (x0 : Nat) (x1 : Nat) (x4 : Int32) (x5 : Int32) (x8 : Nat) (x10 : Int32) (x11 : Int32) (x14 : Nat) (s0 : Int32) (s1 : Int32) (M : kz_M) (c sl : Nat) : Prop := kz_Z G (d + 10) mc ms mL_submit Qr Qx 280 [(0, .ref x0), (1, .ref x1), (4, .int x4), (5, .int x5), (8, .ref x8), (10, .int x10), (11, .int x11), (14, .ref x14)] [.int s0, .int s1] M c sl
def zL_submit_286 (G : kz_G) (d mc ms : Nat) (Qr : Option Value → kz_M → Prop) (Qx : String → kz_M → Prop) (x0 : Nat) (x1 : Nat) (x4 : Int32) (x5 : Int32) (x8 : Nat) (x10 : Int32) (x11 : Int32) (x13 : Int32)  (M : kz_M) (c sl : Nat) : Prop := kz_Z G (d + 10) mc ms mL_submit Qr Qx 286 [(0, .ref x0), (1, .ref x1), (4, .int x4), (5, .int x5), (8, .ref x8), (10, .int x10), (11, .int x11), (13, .int x13)] [] M c sl
def zL_submit_301 (G : kz_G) (d mc ms : Nat) (Qr : Option Value → kz_M → Prop) (Qx : String → kz_M → Prop) (x0 : Nat) (x1 : Nat) (x4 : Int32) (x5 : Int32) (x8 : Nat) (x13 : Int32)  (M : kz_M) (c sl : Nat) : Prop := kz_Z G (d + 10) mc ms mL_submit Qr Qx 301 [(0, .ref x0), (1, .ref x1), (4, .int x4), (5, .int x5), (8, .ref x8), (13, .int x13)] [] M c sl
def zL_submit_319 (G : kz_G) (d mc ms : Nat) (Qr : Option Value → kz_M → Prop) (Qx : String → kz_M → Prop) (x0 : Nat) (x1 : Nat) (x4 : Int32) (x5 : Int32) (x8 : Nat)  (M : kz_M) (c sl : Nat) : Prop := kz_Z G (d + 10) mc ms mL_submit Qr Qx 319 [(0, .ref x0), (1, .ref x1), (4, .int x4), (5, .int x5), (8, .ref x8)] [] M c sl
theorem rL_submit_0 {G : kz_G} {d : Nat} {mc ms : Nat} {Qr : Option Value → kz_M → Prop} {Qx : String → kz_M → Prop} {a0 : Nat} {p1 : Nat} {p2 : Int32} {p3 : Int32}  {M : kz_M} (h : kz_C G (d + 9) 0 0 mL_bits [.int p2, .int 3, .int 2] M (fun v M1 => ∃ r2 : Int32, v = some (.int r2) ∧ (kz_C G (d + 9) 0 0 mL_bits [.int p2, .int 5, .int 2] M1 (fun v M4 => ∃ r5 : Int32, v = some (.int r5) ∧ (∃ N7, ¬ (40 : Int32) < 0 ∧ (40 : Int32).toNatClampNeg = N7 ∧ N7 ≤ 60000000 ∧ 0 + 1 ≤ mc ∧ 0 + N7 ≤ ms ∧ (0 + 1 + 1 ≤ mc ∧ 0 + N7 + 4 ≤ ms ∧ (∃ mc12 ms12, 0 + 1 + 1 + mc12 ≤ mc ∧ 0 + N7 + 4 + ms12 ≤ ms ∧ kz_C G (d + 9) mc12 ms12 mJ4_init_da8c8 [.ref ((kz_nw M4 (.inr (.int, N7, .inl (fun _ => 0)))).2)] (kz_nw (kz_nw M4 (.inr (.int, N7, .inl (fun _ => 0)))) (.inl (15, [.null, .int 0, .int 0, .int 0]))) (fun v M10 => v = none ∧ (kz_C G (d + 9) 0 0 mL_bits [.int p2, .int 7, .int 4] M10 (fun v M13 => ∃ r14 : Int32, v = some (.int r14) ∧ (zL_submit_52 G d mc ms Qr Qx a0 p1 p2 p3 (r2 - r2 / 3 * 3) (r5 - r5 / 3 * 3) ((M4).2) 0 ((kz_nw M4 (.inr (.int, N7, .inl (fun _ => 0)))).2) (1 + r14) 0 M13 (0 + 1 + 1 + mc12) (0 + N7 + 4 + ms12))) Qx)) Qx)))) Qx)) Qx) : kz_C G (d + 10) mc ms mL_submit [.ref a0, .ref p1, .int p2, .int p3] M Qr Qx := by
  refine kz_enter (n := 3) kmL_submit.1 (Nat.le_of_ble_eq_true rfl) (ls := [(0, .ref a0), (1, .ref p1), (2, .int p2), (3, .int p3)]) rfl ?_
  refine kz_iload_n (pc := 0) 2 (i := 2) rfl rfl dL_submit_0 ?_
  refine kz_iconst (pc := 1) (v := 3) (by decide) dL_submit_1 ?_
  refine kz_iconst (pc := 2) (v := 2) (by decide) dL_submit_2 ?_
  refine kz_callS (pc := 3) (μ' := mL_bits) (d' := d + 9) (mc' := 0) (ms' := 0) (As := [.int p2, .int 3, .int 2]) (st := []) (c := 0) (sl := 0) kmL_bits kw_512 (by omega) rfl (Nat.le_of_ble_eq_true rfl) (Nat.zero_le _) (Nat.zero_le _) dL_submit_3 (fun E M9 hx => kz_Tout rfl (Nat.zero_le _) (Nat.zero_le _) hx) (kz_Cmono (fun v M1 h => ?_) (fun _ _ h => h) h)
  obtain ⟨r2, rfl, h⟩ := h
  show kz_Z G (d + 10) mc ms mL_submit Qr Qx 6 [(0, .ref a0), (1, .ref p1), (2, .int p2), (3, .int p3)] [.int r2] M1 0 0
  refine kz_iconst (pc := 6) (v := 3) (by decide) dL_submit_6 ?_
  refine kz_irem (pc := 7) (by decide) dL_submit_7 ?_
  refine kz_istore (pc := 8) (i := 4) (ls' := [(0, .ref a0), (1, .ref p1), (2, .int p2), (3, .int p3)]) (by decide) rfl dL_submit_8 ?_
  refine kz_iload_n (pc := 10) 3 (i := 2) rfl rfl dL_submit_10 ?_
  refine kz_iconst (pc := 11) (v := 5) (by decide) dL_submit_11 ?_
  refine kz_iconst (pc := 12) (v := 2) (by decide) dL_submit_12 ?_
  refine kz_callS (pc := 13) (μ' := mL_bits) (d' := d + 9) (mc' := 0) (ms' := 0) (As := [.int p2, .int 5, .int 2]) (st := []) (c := 0) (sl := 0) kmL_bits kw_512 (by omega) rfl (Nat.le_of_ble_eq_true rfl) (Nat.zero_le _) (Nat.zero_le _) dL_submit_13 (fun E M9 hx => kz_Tout rfl (Nat.zero_le _) (Nat.zero_le _) hx) (kz_Cmono (fun v M4 h => ?_) (fun _ _ h => h) h)
  obtain ⟨r5, rfl, h⟩ := h
  show kz_Z G (d + 10) mc ms mL_submit Qr Qx 16 [(4, .int (r2 - r2 / 3 * 3)), (0, .ref a0), (1, .ref p1), (2, .int p2), (3, .int p3)] [.int r5] M4 0 0
  refine kz_iconst (pc := 16) (v := 3) (by decide) dL_submit_16 ?_
  refine kz_irem (pc := 17) (by decide) dL_submit_17 ?_
  refine kz_istore (pc := 18) (i := 5) (ls' := [(4, .int (r2 - r2 / 3 * 3)), (0, .ref a0), (1, .ref p1), (2, .int p2), (3, .int p3)]) (by decide) rfl dL_submit_18 ?_
  refine kz_bipush (pc := 20) (v := 40) (by decide) dL_submit_20 ?_
  obtain ⟨N7, hn, hN, hb8, hc8, hs8, h⟩ := h
  refine kz_newaI (pc := 22) N7 kw_98 hn hN hb8 hc8 hs8 dL_submit_22 ?_
  refine kz_astore (pc := 24) (i := 6) (v := .ref ((M4).2)) (ls' := [(5, .int (r5 - r5 / 3 * 3)), (4, .int (r2 - r2 / 3 * 3)), (0, .ref a0), (1, .ref p1), (2, .int p2), (3, .int p3)]) rfl (by decide) rfl dL_submit_24 ?_
  refine kz_iconst (pc := 26) (v := 0) (by decide) dL_submit_26 ?_
  refine kz_istore (pc := 27) (i := 7) (ls' := [(6, .ref ((M4).2)), (5, .int (r5 - r5 / 3 * 3)), (4, .int (r2 - r2 / 3 * 3)), (0, .ref a0), (1, .ref p1), (2, .int p2), (3, .int p3)]) (by decide) rfl dL_submit_27 ?_
  obtain ⟨hc9, hs9, h⟩ := h
  refine kz_newc (pc := 29) kcJ4 rfl kw_482 kw_483 kw_5 hc9 hs9 dL_submit_29 ?_
  refine kz_dup (pc := 32) rfl dL_submit_32 ?_
  obtain ⟨mc12, ms12, hc12, hs12, h⟩ := h
  refine kz_callI (pc := 33) (μ' := mJ4_init_da8c8) (b := (kz_nw M4 (.inr (.int, N7, .inl (fun _ => 0)))).2) (d' := d + 9) (mc' := mc12) (ms' := ms12) (As := []) (st := [.ref ((kz_nw M4 (.inr (.int, N7, .inl (fun _ => 0)))).2)]) (c := 0 + 1 + 1) (sl := 0 + N7 + 4) kmJ4_init_da8c8 kw_484 (by omega) rfl (Nat.le_of_ble_eq_true rfl) hc12 hs12 dL_submit_33 (fun E M9 hx => kz_Tout rfl hc12 hs12 hx) (kz_Cmono (fun v M10 h => ?_) (fun _ _ h => h) h)
  obtain ⟨rfl, h⟩ := h
  show kz_Z G (d + 10) mc ms mL_submit Qr Qx 36 [(7, .int 0), (6, .ref ((M4).2)), (5, .int (r5 - r5 / 3 * 3)), (4, .int (r2 - r2 / 3 * 3)), (0, .ref a0), (1, .ref p1), (2, .int p2), (3, .int p3)] [.ref ((kz_nw M4 (.inr (.int, N7, .inl (fun _ => 0)))).2)] M10 (0 + 1 + 1 + mc12) (0 + N7 + 4 + ms12)
  refine kz_astore (pc := 36) (i := 8) (v := .ref ((kz_nw M4 (.inr (.int, N7, .inl (fun _ => 0)))).2)) (ls' := [(7, .int 0), (6, .ref ((M4).2)), (5, .int (r5 - r5 / 3 * 3)), (4, .int (r2 - r2 / 3 * 3)), (0, .ref a0), (1, .ref p1), (2, .int p2), (3, .int p3)]) rfl (by decide) rfl dL_submit_36 ?_
  refine kz_iconst (pc := 38) (v := 1) (by decide) dL_submit_38 ?_
  refine kz_iload_n (pc := 39) 7 (i := 2) rfl rfl dL_submit_39 ?_
  refine kz_bipush (pc := 40) (v := 7) (by decide) dL_submit_40 ?_
  refine kz_iconst (pc := 42) (v := 4) (by decide) dL_submit_42 ?_
  refine kz_callS (pc := 43) (μ' := mL_bits) (d' := d + 9) (mc' := 0) (ms' := 0) (As := [.int p2, .int 7, .int 4]) (st := [.int 1]) (c := 0 + 1 + 1 + mc12) (sl := 0 + N7 + 4 + ms12) kmL_bits kw_512 (by omega) rfl (Nat.le_of_ble_eq_true rfl) hc12 hs12 dL_submit_43 (fun E M9 hx => kz_Tout rfl hc12 hs12 hx) (kz_Cmono (fun v M13 h => ?_) (fun _ _ h => h) h)
  obtain ⟨r14, rfl, h⟩ := h
  show kz_Z G (d + 10) mc ms mL_submit Qr Qx 46 [(8, .ref ((kz_nw M4 (.inr (.int, N7, .inl (fun _ => 0)))).2)), (7, .int 0), (6, .ref ((M4).2)), (5, .int (r5 - r5 / 3 * 3)), (4, .int (r2 - r2 / 3 * 3)), (0, .ref a0), (1, .ref p1), (2, .int p2), (3, .int p3)] [.int r14, .int 1] M13 (0 + 1 + 1 + mc12) (0 + N7 + 4 + ms12)
  refine kz_iadd (pc := 46) dL_submit_46 ?_
  refine kz_istore (pc := 47) (i := 9) (ls' := [(8, .ref ((kz_nw M4 (.inr (.int, N7, .inl (fun _ => 0)))).2)), (7, .int 0), (6, .ref ((M4).2)), (5, .int (r5 - r5 / 3 * 3)), (4, .int (r2 - r2 / 3 * 3)), (0, .ref a0), (1, .ref p1), (2, .int p2), (3, .int p3)]) (by decide) rfl dL_submit_47 ?_
  refine kz_iconst (pc := 49) (v := 0) (by decide) dL_submit_49 ?_
  refine kz_istore (pc := 50) (i := 10) (ls' := [(9, .int (1 + r14)), (8, .ref ((kz_nw M4 (.inr (.int, N7, .inl (fun _ => 0)))).2)), (7, .int 0), (6, .ref ((M4).2)), (5, .int (r5 - r5 / 3 * 3)), (4, .int (r2 - r2 / 3 * 3)), (0, .ref a0), (1, .ref p1), (2, .int p2), (3, .int p3)]) (by decide) rfl dL_submit_50 ?_
  refine kz_sub [7, 8, 9, 10, 6, 5, 4, 3, 2, 1, 0] rfl ?_
  exact h
theorem rL_submit_52 {G : kz_G} {d : Nat} {mc ms : Nat} {Qr : Option Value → kz_M → Prop} {Qx : String → kz_M → Prop} {x0 : Nat} {x1 : Nat} {x2 : Int32} {x3 : Int32} {x4 : Int32} {x5 : Int32} {x6 : Nat} {x7 : Int32} {x8 : Nat} {x9 : Int32} {x10 : Int32}  {M : kz_M} {c sl : Nat} (hc : c ≤ mc) (hs : sl ≤ ms) (h : (x9 ≤ x10 → zL_submit_181 G d mc ms Qr Qx x0 x1 x4 x5 x6 x7 x8 M c sl) ∧ (¬ x9 ≤ x10 → zL_submit_59 G d mc ms Qr Qx x0 x1 x2 x3 x4 x5 x6 x7 x8 x9 x10 M c sl)) : zL_submit_52 G d mc ms Qr Qx x0 x1 x2 x3 x4 x5 x6 x7 x8 x9 x10  M c sl := by
  show kz_Z G (d + 10) mc ms mL_submit Qr Qx 52 [(0, .ref x0), (1, .ref x1), (2, .int x2), (3, .int x3), (4, .int x4), (5, .int x5), (6, .ref x6), (7, .int x7), (8, .ref x8), (9, .int x9), (10, .int x10)] [] M c sl
  refine kz_iload (pc := 52) 10 (i := 10) rfl dL_submit_52 ?_
  refine kz_iload (pc := 54) 9 (i := 9) rfl dL_submit_54 ?_
  refine kz_icmp_ge (pc := 56) (tgt := 181) (by decide) dL_submit_56 (fun hb => ?_) (fun hb => ?_)
  · replace h := h.1 hb
    refine kz_sub [0, 1, 4, 5, 6, 7, 8] rfl ?_
    exact h
  · replace h := h.2 hb
    exact h
theorem rL_submit_59 {G : kz_G} {d : Nat} {mc ms : Nat} {Qr : Option Value → kz_M → Prop} {Qx : String → kz_M → Prop} {x0 : Nat} {x1 : Nat} {x2 : Int32} {x3 : Int32} {x4 : Int32} {x5 : Int32} {x6 : Nat} {x7 : Int32} {x8 : Nat} {x9 : Int32} {x10 : Int32}  {M : kz_M} {c sl : Nat} (hc : c ≤ mc) (hs : sl ≤ ms) (h : kz_C G (d + 9) 0 0 mL_bits [.int x3, .int (2 * x10), .int 2] M (fun v M1 => ∃ r2 : Int32, v = some (.int r2) ∧ ((x10 ≤ 0 → zL_submit_83 G d mc ms Qr Qx x0 x1 x2 x3 x4 x5 x6 x7 x8 x9 x10 r2 M1 c sl) ∧ (¬ x10 ≤ 0 → (∃ fs7, (M1).1 x8 = some (.inl (15, fs7))) ∧ ∃ mc6 ms6, c + mc6 ≤ mc ∧ sl + ms6 ≤ ms ∧ kz_C G (d + 9) mc6 ms6 mJ4_append_cf468 [.ref x8, .int 32] M1 (fun v M4 => ∃ r5 : Nat, v = some (.ref r5) ∧ (zL_submit_83 G d mc ms Qr Qx x0 x1 x2 x3 x4 x5 x6 x7 x8 x9 x10 r2 M4 (c + mc6) (sl + ms6))) Qx))) Qx) : zL_submit_59 G d mc ms Qr Qx x0 x1 x2 x3 x4 x5 x6 x7 x8 x9 x10  M c sl := by
  show kz_Z G (d + 10) mc ms mL_submit Qr Qx 59 [(0, .ref x0), (1, .ref x1), (2, .int x2), (3, .int x3), (4, .int x4), (5, .int x5), (6, .ref x6), (7, .int x7), (8, .ref x8), (9, .int x9), (10, .int x10)] [] M c sl
  refine kz_iload_n (pc := 59) 3 (i := 3) rfl rfl dL_submit_59 ?_
  refine kz_iconst (pc := 60) (v := 2) (by decide) dL_submit_60 ?_
  refine kz_iload (pc := 61) 10 (i := 10) rfl dL_submit_61 ?_
  refine kz_imul (pc := 63) dL_submit_63 ?_
  refine kz_iconst (pc := 64) (v := 2) (by decide) dL_submit_64 ?_
  refine kz_callS (pc := 65) (μ' := mL_bits) (d' := d + 9) (mc' := 0) (ms' := 0) (As := [.int x3, .int (2 * x10), .int 2]) (st := []) (c := c) (sl := sl) kmL_bits kw_512 (by omega) rfl (Nat.le_of_ble_eq_true rfl) hc hs dL_submit_65 (fun E M9 hx => kz_Tout rfl hc hs hx) (kz_Cmono (fun v M1 h => ?_) (fun _ _ h => h) h)
  obtain ⟨r2, rfl, h⟩ := h
  show kz_Z G (d + 10) mc ms mL_submit Qr Qx 68 [(0, .ref x0), (1, .ref x1), (2, .int x2), (3, .int x3), (4, .int x4), (5, .int x5), (6, .ref x6), (7, .int x7), (8, .ref x8), (9, .int x9), (10, .int x10)] [.int r2] M1 c sl
  refine kz_istore (pc := 68) (i := 11) (ls' := [(0, .ref x0), (1, .ref x1), (2, .int x2), (3, .int x3), (4, .int x4), (5, .int x5), (6, .ref x6), (7, .int x7), (8, .ref x8), (9, .int x9), (10, .int x10)]) (by decide) rfl dL_submit_68 ?_
  refine kz_iload (pc := 70) 11 (i := 10) rfl dL_submit_70 ?_
  refine kz_if_le (pc := 72) (tgt := 83) (by decide) dL_submit_72 (fun hb => ?_) (fun hb => ?_)
  · replace h := h.1 hb
    refine kz_sub [1, 2, 3, 4, 5, 6, 7, 8, 9, 10, 11, 0] rfl ?_
    exact h
  · replace h := h.2 hb
    refine kz_aload (pc := 75) 9 (v := .ref x8) (i := 8) rfl rfl dL_submit_75 ?_
    refine kz_bipush (pc := 77) (v := 32) (by decide) dL_submit_77 ?_
    obtain ⟨⟨fs7, he⟩, h⟩ := h
    obtain ⟨mc6, ms6, hc6, hs6, h⟩ := h
    refine kz_callV (pc := 79) (μ' := mJ4_append_cf468) (ci := 15) (q := (RJ4, TJ4, 4)) (b := x8) (d' := d + 9) (mc' := mc6) (ms' := ms6) (As := [.int 32]) (st := []) (c := c) (sl := sl) kmJ4_append_cf468 kw_647 (by omega) rfl (Nat.le_of_ble_eq_true rfl) he rfl rfl hc6 hs6 dL_submit_79 (fun E M9 hx => kz_Tout rfl hc6 hs6 hx) (kz_Cmono (fun v M4 h => ?_) (fun _ _ h => h) h)
    obtain ⟨r5, rfl, h⟩ := h
    show kz_Z G (d + 10) mc ms mL_submit Qr Qx 82 [(11, .int r2), (0, .ref x0), (1, .ref x1), (2, .int x2), (3, .int x3), (4, .int x4), (5, .int x5), (6, .ref x6), (7, .int x7), (8, .ref x8), (9, .int x9), (10, .int x10)] [.ref r5] M4 (c + mc6) (sl + ms6)
    refine kz_pop (pc := 82) rfl dL_submit_82 ?_
    refine kz_sub [1, 2, 3, 4, 5, 6, 7, 8, 9, 10, 11, 0] rfl ?_
    exact h
theorem rL_submit_83 {G : kz_G} {d : Nat} {mc ms : Nat} {Qr : Option Value → kz_M → Prop} {Qx : String → kz_M → Prop} {x0 : Nat} {x1 : Nat} {x2 : Int32} {x3 : Int32} {x4 : Int32} {x5 : Int32} {x6 : Nat} {x7 : Int32} {x8 : Nat} {x9 : Int32} {x10 : Int32} {x11 : Int32}  {M : kz_M} {c sl : Nat} (hc : c ≤ mc) (hs : sl ≤ ms) (h : (x10 ≤ 0 → zL_submit_125 G d mc ms Qr Qx x0 x1 x2 x3 x4 x5 x6 x7 x8 x9 x10 x11 M c sl) ∧ (¬ x10 ≤ 0 → (¬ x5 = (1 : Int32) → zL_submit_125 G d mc ms Qr Qx x0 x1 x2 x3 x4 x5 x6 x7 x8 x9 x10 x11 M c sl) ∧ (x5 = (1 : Int32) → kz_C G (d + 9) 0 0 mL_bits [.int x2, .int (11 + x10), .int 1] M (fun v M1 => ∃ r2 : Int32, v = some (.int r2) ∧ ((¬ r2 = (1 : Int32) → zL_submit_125 G d mc ms Qr Qx x0 x1 x2 x3 x4 x5 x6 x7 x8 x9 x10 x11 M1 c sl) ∧ (r2 = (1 : Int32) → (∃ fs9, (M1).1 x8 = some (.inl (15, fs9))) ∧ ∃ mc6 ms6, c + mc6 ≤ mc ∧ sl + ms6 ≤ ms ∧ kz_C G (d + 9) mc6 ms6 mJ4_append_15ec4 [.ref x8, .retAddr 1044] M1 (fun v M4 => ∃ r5 : Nat, v = some (.ref r5) ∧ (∃ n7 f8, (M4).1 x6 = some (.inr (.int, n7, .inl f8)) ∧ vp_in x7 n7 ∧ (zL_submit_125 G d mc ms Qr Qx x0 x1 x2 x3 x4 x5 x6 (x7 + 1) x8 x9 x10 x11 (kz_up M4 x6 (.inr (.int, n7, .inl (upd f8 (x7 : Int32).toNatClampNeg ((-1)))))) (c + mc6) (sl + ms6)))) Qx))) Qx))) : zL_submit_83 G d mc ms Qr Qx x0 x1 x2 x3 x4 x5 x6 x7 x8 x9 x10 x11  M c sl := by
  show kz_Z G (d + 10) mc ms mL_submit Qr Qx 83 [(0, .ref x0), (1, .ref x1), (2, .int x2), (3, .int x3), (4, .int x4), (5, .int x5), (6, .ref x6), (7, .int x7), (8, .ref x8), (9, .int x9), (10, .int x10), (11, .int x11)] [] M c sl
  refine kz_iload (pc := 83) 10 (i := 10) rfl dL_submit_83 ?_
  refine kz_if_le (pc := 85) (tgt := 125) (by decide) dL_submit_85 (fun hb => ?_) (fun hb => ?_)
  · replace h := h.1 hb
    exact h
  · replace h := h.2 hb
    refine kz_iload (pc := 88) 5 (i := 5) rfl dL_submit_88 ?_
    refine kz_iconst (pc := 90) (v := 1) (by decide) dL_submit_90 ?_
    refine kz_icmp_ne (pc := 91) (tgt := 125) (by decide) dL_submit_91 (fun hb => ?_) (fun hb => ?_)
    · replace h := h.1 hb
      exact h
    · replace h := h.2 hb
      refine kz_iload_n (pc := 94) 2 (i := 2) rfl rfl dL_submit_94 ?_
      refine kz_bipush (pc := 95) (v := 11) (by decide) dL_submit_95 ?_
      refine kz_iload (pc := 97) 10 (i := 10) rfl dL_submit_97 ?_
      refine kz_iadd (pc := 99) dL_submit_99 ?_
      refine kz_iconst (pc := 100) (v := 1) (by decide) dL_submit_100 ?_
      refine kz_callS (pc := 101) (μ' := mL_bits) (d' := d + 9) (mc' := 0) (ms' := 0) (As := [.int x2, .int (11 + x10), .int 1]) (st := []) (c := c) (sl := sl) kmL_bits kw_512 (by omega) rfl (Nat.le_of_ble_eq_true rfl) hc hs dL_submit_101 (fun E M9 hx => kz_Tout rfl hc hs hx) (kz_Cmono (fun v M1 h => ?_) (fun _ _ h => h) h)
      obtain ⟨r2, rfl, h⟩ := h
      show kz_Z G (d + 10) mc ms mL_submit Qr Qx 104 [(0, .ref x0), (1, .ref x1), (2, .int x2), (3, .int x3), (4, .int x4), (5, .int x5), (6, .ref x6), (7, .int x7), (8, .ref x8), (9, .int x9), (10, .int x10), (11, .int x11)] [.int r2] M1 c sl
      refine kz_iconst (pc := 104) (v := 1) (by decide) dL_submit_104 ?_
      refine kz_icmp_ne (pc := 105) (tgt := 125) (by decide) dL_submit_105 (fun hb => ?_) (fun hb => ?_)
      · replace h := h.1 hb
        exact h
      · replace h := h.2 hb
        refine kz_aload (pc := 108) 8 (v := .ref x8) (i := 8) rfl rfl dL_submit_108 ?_
        refine kz_ldcS (pc := 110) (j := 1044) (tx := "/ ") (List.mem_of_getElem? (i := 44) rfl) dL_submit_110 ?_
        obtain ⟨⟨fs9, he⟩, h⟩ := h
        obtain ⟨mc6, ms6, hc6, hs6, h⟩ := h
        refine kz_callV (pc := 112) (μ' := mJ4_append_15ec4) (ci := 15) (q := (RJ4, TJ4, 4)) (b := x8) (d' := d + 9) (mc' := mc6) (ms' := ms6) (As := [.retAddr 1044]) (st := []) (c := c) (sl := sl) kmJ4_append_15ec4 kw_516 (by omega) rfl (Nat.le_of_ble_eq_true rfl) he rfl rfl hc6 hs6 dL_submit_112 (fun E M9 hx => kz_Tout rfl hc6 hs6 hx) (kz_Cmono (fun v M4 h => ?_) (fun _ _ h => h) h)
        obtain ⟨r5, rfl, h⟩ := h
        show kz_Z G (d + 10) mc ms mL_submit Qr Qx 115 [(0, .ref x0), (1, .ref x1), (2, .int x2), (3, .int x3), (4, .int x4), (5, .int x5), (6, .ref x6), (7, .int x7), (8, .ref x8), (9, .int x9), (10, .int x10), (11, .int x11)] [.ref r5] M4 (c + mc6) (sl + ms6)
        refine kz_pop (pc := 115) rfl dL_submit_115 ?_
        refine kz_aload (pc := 116) 6 (v := .ref x6) (i := 6) rfl rfl dL_submit_116 ?_
        refine kz_iload (pc := 118) 7 (i := 7) rfl dL_submit_118 ?_
        refine kz_iconst (pc := 120) (v := (-1)) (by decide) dL_submit_120 ?_
        obtain ⟨n7, f8, hM, hi, h⟩ := h
        refine kz_iast (pc := 121) hM hi dL_submit_121 ?_
        refine kz_iinc (pc := 122) 7 (i := 7) (v := x7 + 1) (ls' := [(0, .ref x0), (1, .ref x1), (2, .int x2), (3, .int x3), (4, .int x4), (5, .int x5), (6, .ref x6), (8, .ref x8), (9, .int x9), (10, .int x10), (11, .int x11)]) rfl (congrArg (fun z => x7 + z) (by decide)) (by decide) rfl dL_submit_122 ?_
        refine kz_sub [1, 2, 3, 4, 5, 6, 7, 0, 8, 9, 10, 11] rfl ?_
        exact h
theorem rL_submit_125 {G : kz_G} {d : Nat} {mc ms : Nat} {Qr : Option Value → kz_M → Prop} {Qx : String → kz_M → Prop} {x0 : Nat} {x1 : Nat} {x2 : Int32} {x3 : Int32} {x4 : Int32} {x5 : Int32} {x6 : Nat} {x7 : Int32} {x8 : Nat} {x9 : Int32} {x10 : Int32} {x11 : Int32}  {M : kz_M} {c sl : Nat} (hc : c ≤ mc) (hs : sl ≤ ms) (h : ∃ n1 f2, (M).1 x6 = some (.inr (.int, n1, .inl f2)) ∧ vp_in x7 n1 ∧ ((¬ x11 = 0 → (¬ x11 = (1 : Int32) → (¬ x11 = (2 : Int32) → zL_submit_171 G d mc ms Qr Qx x0 x1 x2 x3 x4 x5 x6 (x7 + 1) x8 x9 x10 1048 x8 (kz_up M x6 (.inr (.int, n1, .inl (upd f2 (x7 : Int32).toNatClampNeg x11)))) c sl) ∧ (x11 = (2 : Int32) → zL_submit_171 G d mc ms Qr Qx x0 x1 x2 x3 x4 x5 x6 (x7 + 1) x8 x9 x10 1047 x8 (kz_up M x6 (.inr (.int, n1, .inl (upd f2 (x7 : Int32).toNatClampNeg x11)))) c sl)) ∧ (x11 = (1 : Int32) → zL_submit_171 G d mc ms Qr Qx x0 x1 x2 x3 x4 x5 x6 (x7 + 1) x8 x9 x10 1046 x8 (kz_up M x6 (.inr (.int, n1, .inl (upd f2 (x7 : Int32).toNatClampNeg x11)))) c sl)) ∧ (x11 = 0 → zL_submit_171 G d mc ms Qr Qx x0 x1 x2 x3 x4 x5 x6 (x7 + 1) x8 x9 x10 1045 x8 (kz_up M x6 (.inr (.int, n1, .inl (upd f2 (x7 : Int32).toNatClampNeg x11)))) c sl))) : zL_submit_125 G d mc ms Qr Qx x0 x1 x2 x3 x4 x5 x6 x7 x8 x9 x10 x11  M c sl := by
  show kz_Z G (d + 10) mc ms mL_submit Qr Qx 125 [(0, .ref x0), (1, .ref x1), (2, .int x2), (3, .int x3), (4, .int x4), (5, .int x5), (6, .ref x6), (7, .int x7), (8, .ref x8), (9, .int x9), (10, .int x10), (11, .int x11)] [] M c sl
  refine kz_aload (pc := 125) 6 (v := .ref x6) (i := 6) rfl rfl dL_submit_125 ?_
  refine kz_iload (pc := 127) 7 (i := 7) rfl dL_submit_127 ?_
  refine kz_iload (pc := 129) 11 (i := 11) rfl dL_submit_129 ?_
  obtain ⟨n1, f2, hM, hi, h⟩ := h
  refine kz_iast (pc := 131) hM hi dL_submit_131 ?_
  refine kz_iinc (pc := 132) 7 (i := 7) (v := x7 + 1) (ls' := [(0, .ref x0), (1, .ref x1), (2, .int x2), (3, .int x3), (4, .int x4), (5, .int x5), (6, .ref x6), (8, .ref x8), (9, .int x9), (10, .int x10), (11, .int x11)]) rfl (congrArg (fun z => x7 + z) (by decide)) (by decide) rfl dL_submit_132 ?_
  refine kz_aload (pc := 135) 8 (v := .ref x8) (i := 8) rfl rfl dL_submit_135 ?_
  refine kz_iload (pc := 137) 11 (i := 11) rfl dL_submit_137 ?_
  refine kz_if_ne (pc := 139) (tgt := 147) (by decide) dL_submit_139 (fun hb => ?_) (fun hb => ?_)
  · replace h := h.1 hb
    refine kz_iload (pc := 147) 11 (i := 11) rfl dL_submit_147 ?_
    refine kz_iconst (pc := 149) (v := 1) (by decide) dL_submit_149 ?_
    refine kz_icmp_ne (pc := 150) (tgt := 158) (by decide) dL_submit_150 (fun hb => ?_) (fun hb => ?_)
    · replace h := h.1 hb
      refine kz_iload (pc := 158) 11 (i := 11) rfl dL_submit_158 ?_
      refine kz_iconst (pc := 160) (v := 2) (by decide) dL_submit_160 ?_
      refine kz_icmp_ne (pc := 161) (tgt := 169) (by decide) dL_submit_161 (fun hb => ?_) (fun hb => ?_)
      · replace h := h.1 hb
        refine kz_ldcS (pc := 169) (j := 1048) (tx := "abcdefghi") (List.mem_of_getElem? (i := 48) rfl) dL_submit_169 ?_
        refine kz_sub [1, 2, 3, 4, 5, 6, 7, 0, 8, 9, 10] rfl ?_
        exact h
      · replace h := h.2 hb
        refine kz_ldcS (pc := 164) (j := 1047) (tx := "d") (List.mem_of_getElem? (i := 47) rfl) dL_submit_164 ?_
        refine kz_goto (pc := 166) (tgt := 171) (by decide) dL_submit_166 ?_
        refine kz_sub [1, 2, 3, 4, 5, 6, 7, 0, 8, 9, 10] rfl ?_
        exact h
    · replace h := h.2 hb
      refine kz_ldcS (pc := 153) (j := 1046) (tx := "abc") (List.mem_of_getElem? (i := 46) rfl) dL_submit_153 ?_
      refine kz_goto (pc := 155) (tgt := 171) (by decide) dL_submit_155 ?_
      refine kz_sub [1, 2, 3, 4, 5, 6, 7, 0, 8, 9, 10] rfl ?_
      exact h
  · replace h := h.2 hb
    refine kz_ldcS (pc := 142) (j := 1045) (tx := "ab") (List.mem_of_getElem? (i := 45) rfl) dL_submit_142 ?_
    refine kz_goto (pc := 144) (tgt := 171) (by decide) dL_submit_144 ?_
    refine kz_sub [1, 2, 3, 4, 5, 6, 7, 0, 8, 9, 10] rfl ?_
    exact h
theorem rL_submit_171 {G : kz_G} {d : Nat} {mc ms : Nat} {Qr : Option Value → kz_M → Prop} {Qx : String → kz_M → Prop} {x0 : Nat} {x1 : Nat} {x2 : Int32} {x3 : Int32} {x4 : Int32} {x5 : Int32} {x6 : Nat} {x7 : Int32} {x8 : Nat} {x9 : Int32} {x10 : Int32} {s0 : Nat} {s1 : Nat} {M : kz_M} {c sl : Nat} (hc : c ≤ mc) (hs : sl ≤ ms) (h : (∃ fs4, (M).1 s1 = some (.inl (15, fs4))) ∧ ∃ mc3 ms3, c + mc3 ≤ mc ∧ sl + ms3 ≤ ms ∧ kz_C G (d + 9) mc3 ms3 mJ4_append_15ec4 [.ref s1, .retAddr s0] M (fun v M1 => ∃ r2 : Nat, v = some (.ref r2) ∧ (zL_submit_175 G d mc ms Qr Qx x0 x1 x2 x3 x4 x5 x6 x7 x8 x9 x10 M1 (c + mc3) (sl + ms3))) Qx) : zL_submit_171 G d mc ms Qr Qx x0 x1 x2 x3 x4 x5 x6 x7 x8 x9 x10 s0 s1 M c sl := by
  show kz_Z G (d + 10) mc ms mL_submit Qr Qx 171 [(0, .ref x0), (1, .ref x1), (2, .int x2), (3, .int x3), (4, .int x4), (5, .int x5), (6, .ref x6), (7, .int x7), (8, .ref x8), (9, .int x9), (10, .int x10)] [.retAddr s0, .ref s1] M c sl
  obtain ⟨⟨fs4, he⟩, h⟩ := h
  obtain ⟨mc3, ms3, hc3, hs3, h⟩ := h
  refine kz_callV (pc := 171) (μ' := mJ4_append_15ec4) (ci := 15) (q := (RJ4, TJ4, 4)) (b := s1) (d' := d + 9) (mc' := mc3) (ms' := ms3) (As := [.retAddr s0]) (st := []) (c := c) (sl := sl) kmJ4_append_15ec4 kw_516 (by omega) rfl (Nat.le_of_ble_eq_true rfl) he rfl rfl hc3 hs3 dL_submit_171 (fun E M9 hx => kz_Tout rfl hc3 hs3 hx) (kz_Cmono (fun v M1 h => ?_) (fun _ _ h => h) h)
  obtain ⟨r2, rfl, h⟩ := h
  show kz_Z G (d + 10) mc ms mL_submit Qr Qx 174 [(0, .ref x0), (1, .ref x1), (2, .int x2), (3, .int x3), (4, .int x4), (5, .int x5), (6, .ref x6), (7, .int x7), (8, .ref x8), (9, .int x9), (10, .int x10)] [.ref r2] M1 (c + mc3) (sl + ms3)
  refine kz_pop (pc := 174) rfl dL_submit_174 ?_
  exact h
theorem rL_submit_175 {G : kz_G} {d : Nat} {mc ms : Nat} {Qr : Option Value → kz_M → Prop} {Qx : String → kz_M → Prop} {x0 : Nat} {x1 : Nat} {x2 : Int32} {x3 : Int32} {x4 : Int32} {x5 : Int32} {x6 : Nat} {x7 : Int32} {x8 : Nat} {x9 : Int32} {x10 : Int32}  {M : kz_M} {c sl : Nat} (hc : c ≤ mc) (hs : sl ≤ ms) (h : zL_submit_52 G d mc ms Qr Qx x0 x1 x2 x3 x4 x5 x6 x7 x8 x9 (x10 + 1) M c sl) : zL_submit_175 G d mc ms Qr Qx x0 x1 x2 x3 x4 x5 x6 x7 x8 x9 x10  M c sl := by
  show kz_Z G (d + 10) mc ms mL_submit Qr Qx 175 [(0, .ref x0), (1, .ref x1), (2, .int x2), (3, .int x3), (4, .int x4), (5, .int x5), (6, .ref x6), (7, .int x7), (8, .ref x8), (9, .int x9), (10, .int x10)] [] M c sl
  refine kz_iinc (pc := 175) 10 (i := 10) (v := x10 + 1) (ls' := [(0, .ref x0), (1, .ref x1), (2, .int x2), (3, .int x3), (4, .int x4), (5, .int x5), (6, .ref x6), (7, .int x7), (8, .ref x8), (9, .int x9)]) rfl (congrArg (fun z => x10 + z) (by decide)) (by decide) rfl dL_submit_175 ?_
  refine kz_goto (pc := 178) (tgt := 52) (by decide) dL_submit_178 ?_
  refine kz_sub [1, 2, 3, 4, 5, 6, 7, 8, 9, 10, 0] rfl ?_
  exact h
theorem rL_submit_181 {G : kz_G} {d : Nat} {mc ms : Nat} {Qr : Option Value → kz_M → Prop} {Qx : String → kz_M → Prop} {x0 : Nat} {x1 : Nat} {x4 : Int32} {x5 : Int32} {x6 : Nat} {x7 : Int32} {x8 : Nat}  {M : kz_M} {c sl : Nat} (hc : c ≤ mc) (hs : sl ≤ ms) (h : (∃ fs12, (M).1 x8 = some (.inl (15, fs12))) ∧ ∃ mc3 ms3, c + mc3 ≤ mc ∧ sl + ms3 ≤ ms ∧ kz_C G (d + 9) mc3 ms3 mJ4_toString_0e30d [.ref x8] M (fun v M1 => ∃ r2 : Nat, v = some (.ref r2) ∧ (∃ mc6 ms6, c + mc3 + mc6 ≤ mc ∧ sl + ms3 + ms6 ≤ ms ∧ kz_C G (d + 9) mc6 ms6 mL_told [.ref x1, .ref r2] M1 (fun v M4 => v = none ∧ (∃ fs7 v8, (M4).1 x0 = some (.inl (13, fs7)) ∧ fs7[1]? = some (.ref v8) ∧ (∃ n9 f10, (M4).1 v8 = some (.inr (.int, n9, .inl f10)) ∧ vp_in x4 n9 ∧ (zL_submit_199 G d mc ms Qr Qx x0 x1 x4 x5 x6 x7 x8 (f10 x4.toNatClampNeg) M4 (c + mc3 + mc6) (sl + ms3 + ms6))))) Qx)) Qx) : zL_submit_181 G d mc ms Qr Qx x0 x1 x4 x5 x6 x7 x8  M c sl := by
  show kz_Z G (d + 10) mc ms mL_submit Qr Qx 181 [(0, .ref x0), (1, .ref x1), (4, .int x4), (5, .int x5), (6, .ref x6), (7, .int x7), (8, .ref x8)] [] M c sl
  refine kz_aload_n (pc := 181) 1 (v := .ref x1) (i := 1) rfl rfl rfl dL_submit_181 ?_
  refine kz_aload (pc := 182) 6 (v := .ref x8) (i := 8) rfl rfl dL_submit_182 ?_
  obtain ⟨⟨fs12, he⟩, h⟩ := h
  obtain ⟨mc3, ms3, hc3, hs3, h⟩ := h
  refine kz_callV (pc := 184) (μ' := mJ4_toString_0e30d) (ci := 15) (q := (RJ4, TJ4, 4)) (b := x8) (d' := d + 9) (mc' := mc3) (ms' := ms3) (As := []) (st := [.ref x1]) (c := c) (sl := sl) kmJ4_toString_0e30d kw_1014 (by omega) rfl (Nat.le_of_ble_eq_true rfl) he rfl rfl hc3 hs3 dL_submit_184 (fun E M9 hx => kz_Tout rfl hc3 hs3 hx) (kz_Cmono (fun v M1 h => ?_) (fun _ _ h => h) h)
  obtain ⟨r2, rfl, h⟩ := h
  show kz_Z G (d + 10) mc ms mL_submit Qr Qx 187 [(0, .ref x0), (1, .ref x1), (4, .int x4), (5, .int x5), (6, .ref x6), (7, .int x7), (8, .ref x8)] [.ref r2, .ref x1] M1 (c + mc3) (sl + ms3)
  obtain ⟨mc6, ms6, hc6, hs6, h⟩ := h
  refine kz_callS (pc := 187) (μ' := mL_told) (d' := d + 9) (mc' := mc6) (ms' := ms6) (As := [.ref x1, .ref r2]) (st := []) (c := c + mc3) (sl := sl + ms3) kmL_told kw_422 (by omega) rfl (Nat.le_of_ble_eq_true rfl) hc6 hs6 dL_submit_187 (fun E M9 hx => kz_Tout rfl hc6 hs6 hx) (kz_Cmono (fun v M4 h => ?_) (fun _ _ h => h) h)
  obtain ⟨rfl, h⟩ := h
  show kz_Z G (d + 10) mc ms mL_submit Qr Qx 190 [(0, .ref x0), (1, .ref x1), (4, .int x4), (5, .int x5), (6, .ref x6), (7, .int x7), (8, .ref x8)] [] M4 (c + mc3 + mc6) (sl + ms3 + ms6)
  refine kz_aload_n (pc := 190) 0 (v := .ref x0) (i := 0) rfl rfl rfl dL_submit_190 ?_
  obtain ⟨fs7, v8, hM, hv, h⟩ := h
  refine kz_getf (pc := 191) (k := 1) kcL hM hv (by decide) kw_661 dL_submit_191 ?_
  refine kz_iload (pc := 194) 2 (i := 4) rfl dL_submit_194 ?_
  obtain ⟨n9, f10, hM, hi, h⟩ := h
  refine kz_iald (pc := 196) hM hi dL_submit_196 ?_
  refine kz_istore (pc := 197) (i := 10) (ls' := [(0, .ref x0), (1, .ref x1), (4, .int x4), (5, .int x5), (6, .ref x6), (7, .int x7), (8, .ref x8)]) (by decide) rfl dL_submit_197 ?_
  refine kz_sub [1, 2, 3, 4, 5, 6, 7, 0] rfl ?_
  exact h
theorem rL_submit_199 {G : kz_G} {d : Nat} {mc ms : Nat} {Qr : Option Value → kz_M → Prop} {Qx : String → kz_M → Prop} {x0 : Nat} {x1 : Nat} {x4 : Int32} {x5 : Int32} {x6 : Nat} {x7 : Int32} {x8 : Nat} {x10 : Int32}  {M : kz_M} {c sl : Nat} (hc : c ≤ mc) (hs : sl ≤ ms) (h : (∃ fs8, (M).1 x8 = some (.inl (15, fs8))) ∧ kz_C G (d + 9) 0 0 mJ4_length_8abf5 [.ref x8] M (fun v M1 => ∃ r2 : Int32, v = some (.int r2) ∧ ((∃ fs7, (M1).1 x1 = some (.inl (10, fs7))) ∧ ∃ mc6 ms6, c + mc6 ≤ mc ∧ sl + ms6 ≤ ms ∧ kz_C G (d + 9) mc6 ms6 mX11_wouldPay [.ref x1, .int x4, .int x5, .int r2] M1 (fun v M4 => ∃ r5 : Int32, v = some (.int r5) ∧ (zL_submit_214 G d mc ms Qr Qx x0 x1 x4 x5 x6 x7 x8 x10 r5 M4 (c + mc6) (sl + ms6))) Qx)) Qx) : zL_submit_199 G d mc ms Qr Qx x0 x1 x4 x5 x6 x7 x8 x10  M c sl := by
  show kz_Z G (d + 10) mc ms mL_submit Qr Qx 199 [(0, .ref x0), (1, .ref x1), (4, .int x4), (5, .int x5), (6, .ref x6), (7, .int x7), (8, .ref x8), (10, .int x10)] [] M c sl
  refine kz_aload_n (pc := 199) 1 (v := .ref x1) (i := 1) rfl rfl rfl dL_submit_199 ?_
  refine kz_iload (pc := 200) 2 (i := 4) rfl dL_submit_200 ?_
  refine kz_iload (pc := 202) 3 (i := 5) rfl dL_submit_202 ?_
  refine kz_aload (pc := 204) 6 (v := .ref x8) (i := 8) rfl rfl dL_submit_204 ?_
  obtain ⟨⟨fs8, he⟩, h⟩ := h
  refine kz_callV (pc := 206) (μ' := mJ4_length_8abf5) (ci := 15) (q := (RJ4, TJ4, 4)) (b := x8) (d' := d + 9) (mc' := 0) (ms' := 0) (As := []) (st := [.int x5, .int x4, .ref x1]) (c := c) (sl := sl) kmJ4_length_8abf5 kw_1071 (by omega) rfl (Nat.le_of_ble_eq_true rfl) he rfl rfl hc hs dL_submit_206 (fun E M9 hx => kz_Tout rfl hc hs hx) (kz_Cmono (fun v M1 h => ?_) (fun _ _ h => h) h)
  obtain ⟨r2, rfl, h⟩ := h
  show kz_Z G (d + 10) mc ms mL_submit Qr Qx 209 [(0, .ref x0), (1, .ref x1), (4, .int x4), (5, .int x5), (6, .ref x6), (7, .int x7), (8, .ref x8), (10, .int x10)] [.int r2, .int x5, .int x4, .ref x1] M1 c sl
  obtain ⟨⟨fs7, he⟩, h⟩ := h
  obtain ⟨mc6, ms6, hc6, hs6, h⟩ := h
  refine kz_callV (pc := 209) (μ' := mX11_wouldPay) (ci := 10) (q := (RX11, TX11, 10)) (b := x1) (d' := d + 9) (mc' := mc6) (ms' := ms6) (As := [.int x4, .int x5, .int r2]) (st := []) (c := c) (sl := sl) kmX11_wouldPay kw_1072 (by omega) rfl (Nat.le_of_ble_eq_true rfl) he rfl rfl hc6 hs6 dL_submit_209 (fun E M9 hx => kz_Tout rfl hc6 hs6 hx) (kz_Cmono (fun v M4 h => ?_) (fun _ _ h => h) h)
  obtain ⟨r5, rfl, h⟩ := h
  show kz_Z G (d + 10) mc ms mL_submit Qr Qx 212 [(0, .ref x0), (1, .ref x1), (4, .int x4), (5, .int x5), (6, .ref x6), (7, .int x7), (8, .ref x8), (10, .int x10)] [.int r5] M4 (c + mc6) (sl + ms6)
  refine kz_istore (pc := 212) (i := 11) (ls' := [(0, .ref x0), (1, .ref x1), (4, .int x4), (5, .int x5), (6, .ref x6), (7, .int x7), (8, .ref x8), (10, .int x10)]) (by decide) rfl dL_submit_212 ?_
  refine kz_sub [1, 2, 3, 4, 5, 6, 7, 8, 0] rfl ?_
  exact h
theorem rL_submit_214 {G : kz_G} {d : Nat} {mc ms : Nat} {Qr : Option Value → kz_M → Prop} {Qx : String → kz_M → Prop} {x0 : Nat} {x1 : Nat} {x4 : Int32} {x5 : Int32} {x6 : Nat} {x7 : Int32} {x8 : Nat} {x10 : Int32} {x11 : Int32}  {M : kz_M} {c sl : Nat} (hc : c ≤ mc) (hs : sl ≤ ms) (h : (∃ fs4, (M).1 x0 = some (.inl (13, fs4))) ∧ ∃ mc3 ms3, c + mc3 ≤ mc ∧ sl + ms3 ≤ ms ∧ kz_C G (d + 9) mc3 ms3 mL_handsIn [.ref x0, .int x4, .int x5, .ref x6, .int x7] M (fun v M1 => ∃ r2 : Nat, v = some (.ref r2) ∧ (zL_submit_231 G d mc ms Qr Qx x0 x1 x4 x5 x8 x10 x11 r2 0 M1 (c + mc3) (sl + ms3))) Qx) : zL_submit_214 G d mc ms Qr Qx x0 x1 x4 x5 x6 x7 x8 x10 x11  M c sl := by
  show kz_Z G (d + 10) mc ms mL_submit Qr Qx 214 [(0, .ref x0), (1, .ref x1), (4, .int x4), (5, .int x5), (6, .ref x6), (7, .int x7), (8, .ref x8), (10, .int x10), (11, .int x11)] [] M c sl
  refine kz_aload_n (pc := 214) 0 (v := .ref x0) (i := 0) rfl rfl rfl dL_submit_214 ?_
  refine kz_iload (pc := 215) 2 (i := 4) rfl dL_submit_215 ?_
  refine kz_iload (pc := 217) 3 (i := 5) rfl dL_submit_217 ?_
  refine kz_aload (pc := 219) 4 (v := .ref x6) (i := 6) rfl rfl dL_submit_219 ?_
  refine kz_iload (pc := 221) 5 (i := 7) rfl dL_submit_221 ?_
  obtain ⟨⟨fs4, he⟩, h⟩ := h
  obtain ⟨mc3, ms3, hc3, hs3, h⟩ := h
  refine kz_callV (pc := 223) (μ' := mL_handsIn) (ci := 13) (q := (RL, TL, 15)) (b := x0) (d' := d + 9) (mc' := mc3) (ms' := ms3) (As := [.int x4, .int x5, .ref x6, .int x7]) (st := []) (c := c) (sl := sl) kmL_handsIn kw_1240 (by omega) rfl (Nat.le_of_ble_eq_true rfl) he rfl rfl hc3 hs3 dL_submit_223 (fun E M9 hx => kz_Tout rfl hc3 hs3 hx) (kz_Cmono (fun v M1 h => ?_) (fun _ _ h => h) h)
  obtain ⟨r2, rfl, h⟩ := h
  show kz_Z G (d + 10) mc ms mL_submit Qr Qx 226 [(0, .ref x0), (1, .ref x1), (4, .int x4), (5, .int x5), (6, .ref x6), (7, .int x7), (8, .ref x8), (10, .int x10), (11, .int x11)] [.ref r2] M1 (c + mc3) (sl + ms3)
  refine kz_astore (pc := 226) (i := 12) (v := .ref r2) (ls' := [(0, .ref x0), (1, .ref x1), (4, .int x4), (5, .int x5), (6, .ref x6), (7, .int x7), (8, .ref x8), (10, .int x10), (11, .int x11)]) rfl (by decide) rfl dL_submit_226 ?_
  refine kz_iconst (pc := 228) (v := 0) (by decide) dL_submit_228 ?_
  refine kz_istore (pc := 229) (i := 13) (ls' := [(12, .ref r2), (0, .ref x0), (1, .ref x1), (4, .int x4), (5, .int x5), (6, .ref x6), (7, .int x7), (8, .ref x8), (10, .int x10), (11, .int x11)]) (by decide) rfl dL_submit_229 ?_
  refine kz_sub [2, 3, 4, 5, 8, 9, 10, 1, 0] rfl ?_
  exact h
theorem rL_submit_231 {G : kz_G} {d : Nat} {mc ms : Nat} {Qr : Option Value → kz_M → Prop} {Qx : String → kz_M → Prop} {x0 : Nat} {x1 : Nat} {x4 : Int32} {x5 : Int32} {x8 : Nat} {x10 : Int32} {x11 : Int32} {x12 : Nat} {x13 : Int32}  {M : kz_M} {c sl : Nat} (hc : c ≤ mc) (hs : sl ≤ ms) (h : ∃ fs1 v2, (M).1 x12 = some (.inl (12, fs1)) ∧ fs1[2]? = some (.ref v2) ∧ ((∃ fs6, (M).1 v2 = some (.inl (16, fs6))) ∧ ∃ mc5 ms5, c + mc5 ≤ mc ∧ sl + ms5 ≤ ms ∧ kz_C G (d + 9) mc5 ms5 mJx4a65c_iterator_32c93 [.ref v2] M (fun v M3 => ∃ r4 : Nat, v = some (.ref r4) ∧ (zL_submit_243 G d mc ms Qr Qx x0 x1 x4 x5 x8 x10 x11 x13 r4 M3 (c + mc5) (sl + ms5))) (fun _ _ => False))) : zL_submit_231 G d mc ms Qr Qx x0 x1 x4 x5 x8 x10 x11 x12 x13  M c sl := by
  show kz_Z G (d + 10) mc ms mL_submit Qr Qx 231 [(0, .ref x0), (1, .ref x1), (4, .int x4), (5, .int x5), (8, .ref x8), (10, .int x10), (11, .int x11), (12, .ref x12), (13, .int x13)] [] M c sl
  refine kz_aload (pc := 231) 7 (v := .ref x12) (i := 12) rfl rfl dL_submit_231 ?_
  obtain ⟨fs1, v2, hM, hv, h⟩ := h
  refine kz_getfN (pc := 233) (k := 2) kcX13 hM hv (by decide) kw_1254 dL_submit_233 ?_
  obtain ⟨⟨fs6, he⟩, h⟩ := h
  obtain ⟨mc5, ms5, hc5, hs5, h⟩ := h
  refine kz_callF (pc := 236) (μ' := mJx4a65c_iterator_32c93) (x := ⟨"java/util/List", "iterator", "()Ljava/util/Iterator;"⟩) (ci := 16) (q := (RJx4a65c, TJx4a65c, 3)) (b := v2) (d' := d + 9) (mc' := mc5) (ms' := ms5) (As := []) (st := []) (c := c) (sl := sl) kmJx4a65c_iterator_32c93 rfl kw_1303 (List.mem_of_getElem? (i := 3) rfl) (by decide +kernel) kw_1301 kw_1298 (by omega) rfl (Nat.le_of_ble_eq_true rfl) he rfl hc5 hs5 dL_submit_236 (kz_Cmono (fun v M3 h => ?_) (fun _ _ h => h) h)
  obtain ⟨r4, rfl, h⟩ := h
  show kz_Z G (d + 10) mc ms mL_submit Qr Qx 241 [(0, .ref x0), (1, .ref x1), (4, .int x4), (5, .int x5), (8, .ref x8), (10, .int x10), (11, .int x11), (12, .ref x12), (13, .int x13)] [.ref r4] M3 (c + mc5) (sl + ms5)
  refine kz_astore (pc := 241) (i := 14) (v := .ref r4) (ls' := [(0, .ref x0), (1, .ref x1), (4, .int x4), (5, .int x5), (8, .ref x8), (10, .int x10), (11, .int x11), (12, .ref x12), (13, .int x13)]) rfl (by decide) rfl dL_submit_241 ?_
  refine kz_sub [1, 2, 3, 4, 5, 6, 7, 9, 0] rfl ?_
  exact h
theorem rL_submit_243 {G : kz_G} {d : Nat} {mc ms : Nat} {Qr : Option Value → kz_M → Prop} {Qx : String → kz_M → Prop} {x0 : Nat} {x1 : Nat} {x4 : Int32} {x5 : Int32} {x8 : Nat} {x10 : Int32} {x11 : Int32} {x13 : Int32} {x14 : Nat}  {M : kz_M} {c sl : Nat} (hc : c ≤ mc) (hs : sl ≤ ms) (h : (∃ fs11, (M).1 x14 = some (.inl (17, fs11))) ∧ kz_C G (d + 9) 0 0 mJx35411_hasNext_aae02 [.ref x14] M (fun v M1 => ∃ r2 : Int32, v = some (.int r2) ∧ ((r2 = 0 → zL_submit_286 G d mc ms Qr Qx x0 x1 x4 x5 x8 x10 x11 x13 M1 c sl) ∧ (¬ r2 = 0 → (∃ fs10, (M1).1 x14 = some (.inl (17, fs10))) ∧ kz_C G (d + 9) 0 0 mJx35411_next_0502b [.ref x14] M1 (fun v M4 => ∃ r5 : Nat, v = some (.ref r5) ∧ ((∃ fs7, (M4).1 r5 = some (.inl (11, fs7))) ∧ (∃ fs8 v9, (M4).1 r5 = some (.inl (11, fs8)) ∧ fs8[4]? = some (.int v9) ∧ ((¬ v9 = 0 → zL_submit_280 G d mc ms Qr Qx x0 x1 x4 x5 x8 x10 x11 x14 0 x13 M4 c sl) ∧ (v9 = 0 → zL_submit_280 G d mc ms Qr Qx x0 x1 x4 x5 x8 x10 x11 x14 1 x13 M4 c sl))))) (fun _ _ => False)))) (fun _ _ => False)) : zL_submit_243 G d mc ms Qr Qx x0 x1 x4 x5 x8 x10 x11 x13 x14  M c sl := by
  show kz_Z G (d + 10) mc ms mL_submit Qr Qx 243 [(0, .ref x0), (1, .ref x1), (4, .int x4), (5, .int x5), (8, .ref x8), (10, .int x10), (11, .int x11), (13, .int x13), (14, .ref x14)] [] M c sl
  refine kz_aload (pc := 243) 8 (v := .ref x14) (i := 14) rfl rfl dL_submit_243 ?_
  obtain ⟨⟨fs11, he⟩, h⟩ := h
  refine kz_callF (pc := 245) (μ' := mJx35411_hasNext_aae02) (x := ⟨"java/util/Iterator", "hasNext", "()Z"⟩) (ci := 17) (q := (RJx35411, TJx35411, 4)) (b := x14) (d' := d + 9) (mc' := 0) (ms' := 0) (As := []) (st := []) (c := c) (sl := sl) kmJx35411_hasNext_aae02 rfl kw_1332 (List.mem_of_getElem? (i := 5) rfl) (by decide +kernel) kw_1330 kw_1326 (by omega) rfl (Nat.le_of_ble_eq_true rfl) he rfl hc hs dL_submit_245 (kz_Cmono (fun v M1 h => ?_) (fun _ _ h => h) h)
  obtain ⟨r2, rfl, h⟩ := h
  show kz_Z G (d + 10) mc ms mL_submit Qr Qx 250 [(0, .ref x0), (1, .ref x1), (4, .int x4), (5, .int x5), (8, .ref x8), (10, .int x10), (11, .int x11), (13, .int x13), (14, .ref x14)] [.int r2] M1 c sl
  refine kz_if_eq (pc := 250) (tgt := 286) (by decide) dL_submit_250 (fun hb => ?_) (fun hb => ?_)
  · replace h := h.1 hb
    refine kz_sub [0, 1, 2, 3, 4, 5, 6, 7] rfl ?_
    exact h
  · replace h := h.2 hb
    refine kz_aload (pc := 253) 8 (v := .ref x14) (i := 14) rfl rfl dL_submit_253 ?_
    obtain ⟨⟨fs10, he⟩, h⟩ := h
    refine kz_callF (pc := 255) (μ' := mJx35411_next_0502b) (x := ⟨"java/util/Iterator", "next", "()Ljava/lang/Object;"⟩) (ci := 17) (q := (RJx35411, TJx35411, 4)) (b := x14) (d' := d + 9) (mc' := 0) (ms' := 0) (As := []) (st := []) (c := c) (sl := sl) kmJx35411_next_0502b rfl kw_1341 (List.mem_of_getElem? (i := 6) rfl) (by decide +kernel) kw_1339 kw_1336 (by omega) rfl (Nat.le_of_ble_eq_true rfl) he rfl hc hs dL_submit_255 (kz_Cmono (fun v M4 h => ?_) (fun _ _ h => h) h)
    obtain ⟨r5, rfl, h⟩ := h
    show kz_Z G (d + 10) mc ms mL_submit Qr Qx 260 [(0, .ref x0), (1, .ref x1), (4, .int x4), (5, .int x5), (8, .ref x8), (10, .int x10), (11, .int x11), (13, .int x13), (14, .ref x14)] [.ref r5] M4 c sl
    obtain ⟨⟨fs7, hM⟩, h⟩ := h
    refine kz_castS (pc := 260) (ci := 11) (q := (RX12, TX12, 6)) rfl kw_978 hM dL_submit_260 ?_
    refine kz_astore (pc := 263) (i := 15) (v := .ref r5) (ls' := [(0, .ref x0), (1, .ref x1), (4, .int x4), (5, .int x5), (8, .ref x8), (10, .int x10), (11, .int x11), (13, .int x13), (14, .ref x14)]) rfl (by decide) rfl dL_submit_263 ?_
    refine kz_iload (pc := 265) 8 (i := 13) rfl dL_submit_265 ?_
    refine kz_aload (pc := 267) 0 (v := .ref r5) (i := 15) rfl rfl dL_submit_267 ?_
    obtain ⟨fs8, v9, hM, hv, h⟩ := h
    refine kz_getfN (pc := 269) (k := 4) kcX12 hM hv (by decide) kw_1272 dL_submit_269 ?_
    refine kz_if_ne (pc := 272) (tgt := 279) (by decide) dL_submit_272 (fun hb => ?_) (fun hb => ?_)
    · replace h := h.1 hb
      refine kz_iconst (pc := 279) (v := 0) (by decide) dL_submit_279 ?_
      refine kz_sub [1, 2, 3, 4, 5, 6, 7, 9] rfl ?_
      exact h
    · replace h := h.2 hb
      refine kz_iconst (pc := 275) (v := 1) (by decide) dL_submit_275 ?_
      refine kz_goto (pc := 276) (tgt := 280) (by decide) dL_submit_276 ?_
      refine kz_sub [1, 2, 3, 4, 5, 6, 7, 9] rfl ?_
      exact h
theorem rL_submit_280 {G : kz_G} {d : Nat} {mc ms : Nat} {Qr : Option Value → kz_M → Prop} {Qx : String → kz_M → Prop} {x0 : Nat} {x1 : Nat} {x4 : Int32} {x5 : Int32} {x8 : Nat} {x10 : Int32} {x11 : Int32} {x14 : Nat} {s0 : Int32} {s1 : Int32} {M : kz_M} {c sl : Nat} (hc : c ≤ mc) (hs : sl ≤ ms) (h : zL_submit_243 G d mc ms Qr Qx x0 x1 x4 x5 x8 x10 x11 (s1 + s0) x14 M c sl) : zL_submit_280 G d mc ms Qr Qx x0 x1 x4 x5 x8 x10 x11 x14 s0 s1 M c sl := by
  show kz_Z G (d + 10) mc ms mL_submit Qr Qx 280 [(0, .ref x0), (1, .ref x1), (4, .int x4), (5, .int x5), (8, .ref x8), (10, .int x10), (11, .int x11), (14, .ref x14)] [.int s0, .int s1] M c sl
  refine kz_iadd (pc := 280) dL_submit_280 ?_
  refine kz_istore (pc := 281) (i := 13) (ls' := [(0, .ref x0), (1, .ref x1), (4, .int x4), (5, .int x5), (8, .ref x8), (10, .int x10), (11, .int x11), (14, .ref x14)]) (by decide) rfl dL_submit_281 ?_
  refine kz_goto (pc := 283) (tgt := 243) (by decide) dL_submit_283 ?_
  refine kz_sub [1, 2, 3, 4, 5, 6, 7, 0, 8] rfl ?_
  exact h
theorem rL_submit_286 {G : kz_G} {d : Nat} {mc ms : Nat} {Qr : Option Value → kz_M → Prop} {Qx : String → kz_M → Prop} {x0 : Nat} {x1 : Nat} {x4 : Int32} {x5 : Int32} {x8 : Nat} {x10 : Int32} {x11 : Int32} {x13 : Int32}  {M : kz_M} {c sl : Nat} (hc : c ≤ mc) (hs : sl ≤ ms) (h : ∃ fs1 v2, (M).1 x0 = some (.inl (13, fs1)) ∧ fs1[1]? = some (.ref v2) ∧ (∃ n3 f4, (M).1 v2 = some (.inr (.int, n3, .inl f4)) ∧ vp_in x4 n3 ∧ ((¬ x11 = ((f4 x4.toNatClampNeg) - x10) → Qr (some (.int 0)) M) ∧ (x11 = ((f4 x4.toNatClampNeg) - x10) → zL_submit_301 G d mc ms Qr Qx x0 x1 x4 x5 x8 x13 M c sl)))) : zL_submit_286 G d mc ms Qr Qx x0 x1 x4 x5 x8 x10 x11 x13  M c sl := by
  show kz_Z G (d + 10) mc ms mL_submit Qr Qx 286 [(0, .ref x0), (1, .ref x1), (4, .int x4), (5, .int x5), (8, .ref x8), (10, .int x10), (11, .int x11), (13, .int x13)] [] M c sl
  refine kz_iload (pc := 286) 6 (i := 11) rfl dL_submit_286 ?_
  refine kz_aload_n (pc := 288) 0 (v := .ref x0) (i := 0) rfl rfl rfl dL_submit_288 ?_
  obtain ⟨fs1, v2, hM, hv, h⟩ := h
  refine kz_getf (pc := 289) (k := 1) kcL hM hv (by decide) kw_661 dL_submit_289 ?_
  refine kz_iload (pc := 292) 2 (i := 4) rfl dL_submit_292 ?_
  obtain ⟨n3, f4, hM, hi, h⟩ := h
  refine kz_iald (pc := 294) hM hi dL_submit_294 ?_
  refine kz_iload (pc := 295) 5 (i := 10) rfl dL_submit_295 ?_
  refine kz_isub (pc := 297) dL_submit_297 ?_
  refine kz_icmp_ne (pc := 298) (tgt := 350) (by decide) dL_submit_298 (fun hb => ?_) (fun hb => ?_)
  · replace h := h.1 hb
    refine kz_iconst (pc := 350) (v := 0) (by decide) dL_submit_350 ?_
    exact kz_zret (pc := 351) (ty := .boolean) rfl (by decide) hc hs dL_submit_351 h
  · replace h := h.2 hb
    refine kz_sub [0, 1, 2, 3, 4, 7] rfl ?_
    exact h
theorem rL_submit_301 {G : kz_G} {d : Nat} {mc ms : Nat} {Qr : Option Value → kz_M → Prop} {Qx : String → kz_M → Prop} {x0 : Nat} {x1 : Nat} {x4 : Int32} {x5 : Int32} {x8 : Nat} {x13 : Int32}  {M : kz_M} {c sl : Nat} (hc : c ≤ mc) (hs : sl ≤ ms) (h : (∃ fs8, (M).1 x8 = some (.inl (15, fs8))) ∧ kz_C G (d + 9) 0 0 mJ4_length_8abf5 [.ref x8] M (fun v M1 => ∃ r2 : Int32, v = some (.int r2) ∧ ((∃ fs7, (M1).1 x1 = some (.inl (10, fs7))) ∧ ∃ mc6 ms6, c + mc6 ≤ mc ∧ sl + ms6 ≤ ms ∧ kz_C G (d + 9) mc6 ms6 mX11_wouldCount [.ref x1, .int x4, .int x5, .int r2] M1 (fun v M4 => ∃ r5 : Int32, v = some (.int r5) ∧ ((¬ r5 = x13 → Qr (some (.int 0)) M4) ∧ (r5 = x13 → zL_submit_319 G d mc ms Qr Qx x0 x1 x4 x5 x8 M4 (c + mc6) (sl + ms6)))) Qx)) Qx) : zL_submit_301 G d mc ms Qr Qx x0 x1 x4 x5 x8 x13  M c sl := by
  show kz_Z G (d + 10) mc ms mL_submit Qr Qx 301 [(0, .ref x0), (1, .ref x1), (4, .int x4), (5, .int x5), (8, .ref x8), (13, .int x13)] [] M c sl
  refine kz_aload_n (pc := 301) 1 (v := .ref x1) (i := 1) rfl rfl rfl dL_submit_301 ?_
  refine kz_iload (pc := 302) 2 (i := 4) rfl dL_submit_302 ?_
  refine kz_iload (pc := 304) 3 (i := 5) rfl dL_submit_304 ?_
  refine kz_aload (pc := 306) 4 (v := .ref x8) (i := 8) rfl rfl dL_submit_306 ?_
  obtain ⟨⟨fs8, he⟩, h⟩ := h
  refine kz_callV (pc := 308) (μ' := mJ4_length_8abf5) (ci := 15) (q := (RJ4, TJ4, 4)) (b := x8) (d' := d + 9) (mc' := 0) (ms' := 0) (As := []) (st := [.int x5, .int x4, .ref x1]) (c := c) (sl := sl) kmJ4_length_8abf5 kw_1071 (by omega) rfl (Nat.le_of_ble_eq_true rfl) he rfl rfl hc hs dL_submit_308 (fun E M9 hx => kz_Tout rfl hc hs hx) (kz_Cmono (fun v M1 h => ?_) (fun _ _ h => h) h)
  obtain ⟨r2, rfl, h⟩ := h
  show kz_Z G (d + 10) mc ms mL_submit Qr Qx 311 [(0, .ref x0), (1, .ref x1), (4, .int x4), (5, .int x5), (8, .ref x8), (13, .int x13)] [.int r2, .int x5, .int x4, .ref x1] M1 c sl
  obtain ⟨⟨fs7, he⟩, h⟩ := h
  obtain ⟨mc6, ms6, hc6, hs6, h⟩ := h
  refine kz_callV (pc := 311) (μ' := mX11_wouldCount) (ci := 10) (q := (RX11, TX11, 10)) (b := x1) (d' := d + 9) (mc' := mc6) (ms' := ms6) (As := [.int x4, .int x5, .int r2]) (st := []) (c := c) (sl := sl) kmX11_wouldCount kw_1414 (by omega) rfl (Nat.le_of_ble_eq_true rfl) he rfl rfl hc6 hs6 dL_submit_311 (fun E M9 hx => kz_Tout rfl hc6 hs6 hx) (kz_Cmono (fun v M4 h => ?_) (fun _ _ h => h) h)
  obtain ⟨r5, rfl, h⟩ := h
  show kz_Z G (d + 10) mc ms mL_submit Qr Qx 314 [(0, .ref x0), (1, .ref x1), (4, .int x4), (5, .int x5), (8, .ref x8), (13, .int x13)] [.int r5] M4 (c + mc6) (sl + ms6)
  refine kz_iload (pc := 314) 5 (i := 13) rfl dL_submit_314 ?_
  refine kz_icmp_ne (pc := 316) (tgt := 350) (by decide) dL_submit_316 (fun hb => ?_) (fun hb => ?_)
  · replace h := h.1 hb
    refine kz_iconst (pc := 350) (v := 0) (by decide) dL_submit_350 ?_
    exact kz_zret (pc := 351) (ty := .boolean) rfl (by decide) hc6 hs6 dL_submit_351 h
  · replace h := h.2 hb
    refine kz_sub [0, 1, 2, 3, 4] rfl ?_
    exact h
theorem rL_submit_319 {G : kz_G} {d : Nat} {mc ms : Nat} {Qr : Option Value → kz_M → Prop} {Qx : String → kz_M → Prop} {x0 : Nat} {x1 : Nat} {x4 : Int32} {x5 : Int32} {x8 : Nat}  {M : kz_M} {c sl : Nat} (hc : c ≤ mc) (hs : sl ≤ ms) (h : (∃ fs14, (M).1 x8 = some (.inl (15, fs14))) ∧ kz_C G (d + 9) 0 0 mJ4_length_8abf5 [.ref x8] M (fun v M1 => ∃ r2 : Int32, v = some (.int r2) ∧ ((∃ fs13, (M1).1 x1 = some (.inl (10, fs13))) ∧ ∃ mc6 ms6, c + mc6 ≤ mc ∧ sl + ms6 ≤ ms ∧ kz_C G (d + 9) mc6 ms6 mX11_submit [.ref x1, .int x4, .int x5, .int r2] M1 (fun v M4 => ∃ r5 : Int32, v = some (.int r5) ∧ (∃ fs7 v8, (M4).1 x0 = some (.inl (13, fs7)) ∧ fs7[0]? = some (.ref v8) ∧ ((∃ fs12, (M4).1 v8 = some (.inl (16, fs12))) ∧ kz_C G (d + 9) 0 0 mJx4a65c_size_8abf5 [.ref v8] M4 (fun v M9 => ∃ r10 : Int32, v = some (.int r10) ∧ ((¬ r5 = (r10 - 1) → Qr (some (.int 0)) M9) ∧ (r5 = (r10 - 1) → Qr (some (.int 1)) M9))) (fun _ _ => False)))) Qx)) Qx) : zL_submit_319 G d mc ms Qr Qx x0 x1 x4 x5 x8  M c sl := by
  show kz_Z G (d + 10) mc ms mL_submit Qr Qx 319 [(0, .ref x0), (1, .ref x1), (4, .int x4), (5, .int x5), (8, .ref x8)] [] M c sl
  refine kz_aload_n (pc := 319) 1 (v := .ref x1) (i := 1) rfl rfl rfl dL_submit_319 ?_
  refine kz_iload (pc := 320) 2 (i := 4) rfl dL_submit_320 ?_
  refine kz_iload (pc := 322) 3 (i := 5) rfl dL_submit_322 ?_
  refine kz_aload (pc := 324) 4 (v := .ref x8) (i := 8) rfl rfl dL_submit_324 ?_
  obtain ⟨⟨fs14, he⟩, h⟩ := h
  refine kz_callV (pc := 326) (μ' := mJ4_length_8abf5) (ci := 15) (q := (RJ4, TJ4, 4)) (b := x8) (d' := d + 9) (mc' := 0) (ms' := 0) (As := []) (st := [.int x5, .int x4, .ref x1]) (c := c) (sl := sl) kmJ4_length_8abf5 kw_1071 (by omega) rfl (Nat.le_of_ble_eq_true rfl) he rfl rfl hc hs dL_submit_326 (fun E M9 hx => kz_Tout rfl hc hs hx) (kz_Cmono (fun v M1 h => ?_) (fun _ _ h => h) h)
  obtain ⟨r2, rfl, h⟩ := h
  show kz_Z G (d + 10) mc ms mL_submit Qr Qx 329 [(0, .ref x0), (1, .ref x1), (4, .int x4), (5, .int x5), (8, .ref x8)] [.int r2, .int x5, .int x4, .ref x1] M1 c sl
  obtain ⟨⟨fs13, he⟩, h⟩ := h
  obtain ⟨mc6, ms6, hc6, hs6, h⟩ := h
  refine kz_callV (pc := 329) (μ' := mX11_submit) (ci := 10) (q := (RX11, TX11, 10)) (b := x1) (d' := d + 9) (mc' := mc6) (ms' := ms6) (As := [.int x4, .int x5, .int r2]) (st := []) (c := c) (sl := sl) kmX11_submit kw_1418 (by omega) rfl (Nat.le_of_ble_eq_true rfl) he rfl rfl hc6 hs6 dL_submit_329 (fun E M9 hx => kz_Tout rfl hc6 hs6 hx) (kz_Cmono (fun v M4 h => ?_) (fun _ _ h => h) h)
  obtain ⟨r5, rfl, h⟩ := h
  show kz_Z G (d + 10) mc ms mL_submit Qr Qx 332 [(0, .ref x0), (1, .ref x1), (4, .int x4), (5, .int x5), (8, .ref x8)] [.int r5] M4 (c + mc6) (sl + ms6)
  refine kz_aload_n (pc := 332) 0 (v := .ref x0) (i := 0) rfl rfl rfl dL_submit_332 ?_
  obtain ⟨fs7, v8, hM, hv, h⟩ := h
  refine kz_getf (pc := 333) (k := 0) kcL hM hv (by decide) kw_660 dL_submit_333 ?_
  obtain ⟨⟨fs12, he⟩, h⟩ := h
  refine kz_callF (pc := 336) (μ' := mJx4a65c_size_8abf5) (x := ⟨"java/util/List", "size", "()I"⟩) (ci := 16) (q := (RJx4a65c, TJx4a65c, 3)) (b := v8) (d' := d + 9) (mc' := 0) (ms' := 0) (As := []) (st := [.int r5]) (c := c + mc6) (sl := sl + ms6) kmJx4a65c_size_8abf5 rfl kw_820 (List.mem_of_getElem? (i := 0) rfl) (by decide +kernel) kw_818 kw_814 (by omega) rfl (Nat.le_of_ble_eq_true rfl) he rfl hc6 hs6 dL_submit_336 (kz_Cmono (fun v M9 h => ?_) (fun _ _ h => h) h)
  obtain ⟨r10, rfl, h⟩ := h
  show kz_Z G (d + 10) mc ms mL_submit Qr Qx 341 [(0, .ref x0), (1, .ref x1), (4, .int x4), (5, .int x5), (8, .ref x8)] [.int r10, .int r5] M9 (c + mc6) (sl + ms6)
  refine kz_iconst (pc := 341) (v := 1) (by decide) dL_submit_341 ?_
  refine kz_isub (pc := 342) dL_submit_342 ?_
  refine kz_icmp_ne (pc := 343) (tgt := 350) (by decide) dL_submit_343 (fun hb => ?_) (fun hb => ?_)
  · replace h := h.1 hb
    refine kz_iconst (pc := 350) (v := 0) (by decide) dL_submit_350 ?_
    exact kz_zret (pc := 351) (ty := .boolean) rfl (by decide) hc6 hs6 dL_submit_351 h
  · replace h := h.2 hb
    refine kz_iconst (pc := 346) (v := 1) (by decide) dL_submit_346 ?_
    refine kz_goto (pc := 347) (tgt := 351) (by decide) dL_submit_347 ?_
    exact kz_zret (pc := 351) (ty := .boolean) rfl (by decide) hc6 hs6 dL_submit_351 h
theorem dL_appeal_0 : decode cL_appeal 0 = .ok (.iload_n 2, 1) := by decide +kernel
theorem dL_appeal_1 : decode cL_appeal 1 = .ok (.iconst 3, 1) := by decide +kernel
theorem dL_appeal_2 : decode cL_appeal 2 = .ok (.iconst 4, 1) := by decide +kernel
theorem dL_appeal_3 : decode cL_appeal 3 = .ok (.invokestatic 76, 3) := by decide +kernel
theorem dL_appeal_6 : decode cL_appeal 6 = .ok (.aload_n 0, 1) := by decide +kernel
theorem dL_appeal_7 : decode cL_appeal 7 = .ok (.getfield 30, 3) := by decide +kernel
theorem dL_appeal_10 : decode cL_appeal 10 = .ok (.invokeinterface 195 1, 5) := by decide +kernel
theorem dL_appeal_15 : decode cL_appeal 15 = .ok (.irem, 1) := by decide +kernel
theorem dL_appeal_16 : decode cL_appeal 16 = .ok (.istore_n 3, 1) := by decide +kernel
theorem dL_appeal_17 : decode cL_appeal 17 = .ok (.aload_n 0, 1) := by decide +kernel
theorem dL_appeal_18 : decode cL_appeal 18 = .ok (.getfield 30, 3) := by decide +kernel
theorem dL_appeal_21 : decode cL_appeal 21 = .ok (.iload_n 3, 1) := by decide +kernel
theorem dL_appeal_22 : decode cL_appeal 22 = .ok (.invokeinterface 204 2, 5) := by decide +kernel
theorem dL_appeal_27 : decode cL_appeal 27 = .ok (.checkcast 139, 3) := by decide +kernel
theorem dL_appeal_30 : decode cL_appeal 30 = .ok (.astore 4, 2) := by decide +kernel
theorem dL_appeal_32 : decode cL_appeal 32 = .ok (.iload_n 2, 1) := by decide +kernel
theorem dL_appeal_33 : decode cL_appeal 33 = .ok (.bipush 7, 2) := by decide +kernel
theorem dL_appeal_35 : decode cL_appeal 35 = .ok (.iconst 5, 1) := by decide +kernel
theorem dL_appeal_36 : decode cL_appeal 36 = .ok (.invokestatic 76, 3) := by decide +kernel
theorem dL_appeal_39 : decode cL_appeal 39 = .ok (.aload 4, 2) := by decide +kernel
theorem dL_appeal_41 : decode cL_appeal 41 = .ok (.getfield 144, 3) := by decide +kernel
theorem dL_appeal_44 : decode cL_appeal 44 = .ok (.invokeinterface 195 1, 5) := by decide +kernel
theorem dL_appeal_49 : decode cL_appeal 49 = .ok (.irem, 1) := by decide +kernel
theorem dL_appeal_50 : decode cL_appeal 50 = .ok (.istore 5, 2) := by decide +kernel
theorem dL_appeal_52 : decode cL_appeal 52 = .ok (.aload 4, 2) := by decide +kernel
theorem dL_appeal_54 : decode cL_appeal 54 = .ok (.getfield 144, 3) := by decide +kernel
theorem dL_appeal_57 : decode cL_appeal 57 = .ok (.iload 5, 2) := by decide +kernel
theorem dL_appeal_59 : decode cL_appeal 59 = .ok (.invokeinterface 204 2, 5) := by decide +kernel
theorem dL_appeal_64 : decode cL_appeal 64 = .ok (.checkcast 116, 3) := by decide +kernel
theorem dL_appeal_67 : decode cL_appeal 67 = .ok (.astore 6, 2) := by decide +kernel
theorem dL_appeal_69 : decode cL_appeal 69 = .ok (.aload 6, 2) := by decide +kernel
theorem dL_appeal_71 : decode cL_appeal 71 = .ok (.getfield 147, 3) := by decide +kernel
theorem dL_appeal_74 : decode cL_appeal 74 = .ok (.iconst 1, 1) := by decide +kernel
theorem dL_appeal_75 : decode cL_appeal 75 = .ok (.if_icmp .eq 7, 3) := by decide +kernel
theorem dL_appeal_78 : decode cL_appeal 78 = .ok (.iconst 1, 1) := by decide +kernel
theorem dL_appeal_79 : decode cL_appeal 79 = .ok (.goto 43, 3) := by decide +kernel
theorem dL_appeal_82 : decode cL_appeal 82 = .ok (.aload_n 0, 1) := by decide +kernel
theorem dL_appeal_83 : decode cL_appeal 83 = .ok (.getfield 173, 3) := by decide +kernel
theorem dL_appeal_86 : decode cL_appeal 86 = .ok (.aload 4, 2) := by decide +kernel
theorem dL_appeal_88 : decode cL_appeal 88 = .ok (.getfield 176, 3) := by decide +kernel
theorem dL_appeal_91 : decode cL_appeal 91 = .ok (.aload_n 0, 1) := by decide +kernel
theorem dL_appeal_92 : decode cL_appeal 92 = .ok (.getfield 56, 3) := by decide +kernel
theorem dL_appeal_95 : decode cL_appeal 95 = .ok (.iadd, 1) := by decide +kernel
theorem dL_appeal_96 : decode cL_appeal 96 = .ok (.if_icmp .le 7, 3) := by decide +kernel
theorem dL_appeal_99 : decode cL_appeal 99 = .ok (.iconst 2, 1) := by decide +kernel
theorem dL_appeal_100 : decode cL_appeal 100 = .ok (.goto 22, 3) := by decide +kernel
theorem dL_appeal_103 : decode cL_appeal 103 = .ok (.aload_n 0, 1) := by decide +kernel
theorem dL_appeal_104 : decode cL_appeal 104 = .ok (.getfield 43, 3) := by decide +kernel
theorem dL_appeal_107 : decode cL_appeal 107 = .ok (.aload 4, 2) := by decide +kernel
theorem dL_appeal_109 : decode cL_appeal 109 = .ok (.getfield 141, 3) := by decide +kernel
theorem dL_appeal_112 : decode cL_appeal 112 = .ok (.iaload, 1) := by decide +kernel
theorem dL_appeal_113 : decode cL_appeal 113 = .ok (.iconst 2, 1) := by decide +kernel
theorem dL_appeal_114 : decode cL_appeal 114 = .ok (.if_icmp .le 7, 3) := by decide +kernel
theorem dL_appeal_117 : decode cL_appeal 117 = .ok (.iconst 3, 1) := by decide +kernel
theorem dL_appeal_118 : decode cL_appeal 118 = .ok (.goto 4, 3) := by decide +kernel
theorem dL_appeal_121 : decode cL_appeal 121 = .ok (.iconst 0, 1) := by decide +kernel
theorem dL_appeal_122 : decode cL_appeal 122 = .ok (.istore 7, 2) := by decide +kernel
theorem dL_appeal_124 : decode cL_appeal 124 = .ok (.aload_n 1, 1) := by decide +kernel
theorem dL_appeal_125 : decode cL_appeal 125 = .ok (.iload_n 3, 1) := by decide +kernel
theorem dL_appeal_126 : decode cL_appeal 126 = .ok (.iload 5, 2) := by decide +kernel
theorem dL_appeal_128 : decode cL_appeal 128 = .ok (.invokevirtual 250, 3) := by decide +kernel
theorem dL_appeal_131 : decode cL_appeal 131 = .ok (.istore 8, 2) := by decide +kernel
theorem dL_appeal_133 : decode cL_appeal 133 = .ok (.iload 7, 2) := by decide +kernel
theorem dL_appeal_135 : decode cL_appeal 135 = .ok (.ifCond .le 17, 3) := by decide +kernel
theorem dL_appeal_138 : decode cL_appeal 138 = .ok (.iload 8, 2) := by decide +kernel
theorem dL_appeal_140 : decode cL_appeal 140 = .ok (.iload 7, 2) := by decide +kernel
theorem dL_appeal_142 : decode cL_appeal 142 = .ok (.ineg, 1) := by decide +kernel
theorem dL_appeal_143 : decode cL_appeal 143 = .ok (.if_icmp .ne 7, 3) := by decide +kernel
theorem dL_appeal_146 : decode cL_appeal 146 = .ok (.iconst 1, 1) := by decide +kernel
theorem dL_appeal_147 : decode cL_appeal 147 = .ok (.goto 4, 3) := by decide +kernel
theorem dL_appeal_150 : decode cL_appeal 150 = .ok (.iconst 0, 1) := by decide +kernel
theorem dL_appeal_151 : decode cL_appeal 151 = .ok (.ireturn, 1) := by decide +kernel
theorem dL_appeal_152 : decode cL_appeal 152 = .ok (.aload 6, 2) := by decide +kernel
theorem dL_appeal_154 : decode cL_appeal 154 = .ok (.invokestatic 214, 3) := by decide +kernel
theorem dL_appeal_157 : decode cL_appeal 157 = .ok (.aload_n 0, 1) := by decide +kernel
theorem dL_appeal_158 : decode cL_appeal 158 = .ok (.getfield 59, 3) := by decide +kernel
theorem dL_appeal_161 : decode cL_appeal 161 = .ok (.if_icmp .lt 44, 3) := by decide +kernel
theorem dL_appeal_164 : decode cL_appeal 164 = .ok (.aload 6, 2) := by decide +kernel
theorem dL_appeal_166 : decode cL_appeal 166 = .ok (.iconst 2, 1) := by decide +kernel
theorem dL_appeal_167 : decode cL_appeal 167 = .ok (.putfield 147, 3) := by decide +kernel
theorem dL_appeal_170 : decode cL_appeal 170 = .ok (.aload_n 0, 1) := by decide +kernel
theorem dL_appeal_171 : decode cL_appeal 171 = .ok (.getfield 36, 3) := by decide +kernel
theorem dL_appeal_174 : decode cL_appeal 174 = .ok (.aload 4, 2) := by decide +kernel
theorem dL_appeal_176 : decode cL_appeal 176 = .ok (.getfield 141, 3) := by decide +kernel
theorem dL_appeal_179 : decode cL_appeal 179 = .ok (.dup2, 1) := by decide +kernel
theorem dL_appeal_180 : decode cL_appeal 180 = .ok (.iaload, 1) := by decide +kernel
theorem dL_appeal_181 : decode cL_appeal 181 = .ok (.aload 6, 2) := by decide +kernel
theorem dL_appeal_183 : decode cL_appeal 183 = .ok (.getfield 182, 3) := by decide +kernel
theorem dL_appeal_186 : decode cL_appeal 186 = .ok (.aload_n 0, 1) := by decide +kernel
theorem dL_appeal_187 : decode cL_appeal 187 = .ok (.getfield 83, 3) := by decide +kernel
theorem dL_appeal_190 : decode cL_appeal 190 = .ok (.iadd, 1) := by decide +kernel
theorem dL_appeal_191 : decode cL_appeal 191 = .ok (.iadd, 1) := by decide +kernel
theorem dL_appeal_192 : decode cL_appeal 192 = .ok (.iastore, 1) := by decide +kernel
theorem dL_appeal_193 : decode cL_appeal 193 = .ok (.iload 8, 2) := by decide +kernel
theorem dL_appeal_195 : decode cL_appeal 195 = .ok (.iconst 1, 1) := by decide +kernel
theorem dL_appeal_196 : decode cL_appeal 196 = .ok (.if_icmp .ne 7, 3) := by decide +kernel
theorem dL_appeal_199 : decode cL_appeal 199 = .ok (.iconst 1, 1) := by decide +kernel
theorem dL_appeal_200 : decode cL_appeal 200 = .ok (.goto 4, 3) := by decide +kernel
theorem dL_appeal_203 : decode cL_appeal 203 = .ok (.iconst 0, 1) := by decide +kernel
theorem dL_appeal_204 : decode cL_appeal 204 = .ok (.ireturn, 1) := by decide +kernel
theorem dL_appeal_205 : decode cL_appeal 205 = .ok (.aload 6, 2) := by decide +kernel
theorem dL_appeal_207 : decode cL_appeal 207 = .ok (.iconst 3, 1) := by decide +kernel
theorem dL_appeal_208 : decode cL_appeal 208 = .ok (.putfield 147, 3) := by decide +kernel
theorem dL_appeal_211 : decode cL_appeal 211 = .ok (.aload_n 0, 1) := by decide +kernel
theorem dL_appeal_212 : decode cL_appeal 212 = .ok (.getfield 43, 3) := by decide +kernel
theorem dL_appeal_215 : decode cL_appeal 215 = .ok (.aload 4, 2) := by decide +kernel
theorem dL_appeal_217 : decode cL_appeal 217 = .ok (.getfield 141, 3) := by decide +kernel
theorem dL_appeal_220 : decode cL_appeal 220 = .ok (.dup2, 1) := by decide +kernel
theorem dL_appeal_221 : decode cL_appeal 221 = .ok (.iaload, 1) := by decide +kernel
theorem dL_appeal_222 : decode cL_appeal 222 = .ok (.iconst 1, 1) := by decide +kernel
theorem dL_appeal_223 : decode cL_appeal 223 = .ok (.iadd, 1) := by decide +kernel
theorem dL_appeal_224 : decode cL_appeal 224 = .ok (.iastore, 1) := by decide +kernel
theorem dL_appeal_225 : decode cL_appeal 225 = .ok (.aload_n 0, 1) := by decide +kernel
theorem dL_appeal_226 : decode cL_appeal 226 = .ok (.getfield 36, 3) := by decide +kernel
theorem dL_appeal_229 : decode cL_appeal 229 = .ok (.aload 4, 2) := by decide +kernel
theorem dL_appeal_231 : decode cL_appeal 231 = .ok (.getfield 141, 3) := by decide +kernel
theorem dL_appeal_234 : decode cL_appeal 234 = .ok (.dup2, 1) := by decide +kernel
theorem dL_appeal_235 : decode cL_appeal 235 = .ok (.iaload, 1) := by decide +kernel
theorem dL_appeal_236 : decode cL_appeal 236 = .ok (.aload_n 0, 1) := by decide +kernel
theorem dL_appeal_237 : decode cL_appeal 237 = .ok (.getfield 86, 3) := by decide +kernel
theorem dL_appeal_240 : decode cL_appeal 240 = .ok (.isub, 1) := by decide +kernel
theorem dL_appeal_241 : decode cL_appeal 241 = .ok (.iastore, 1) := by decide +kernel
theorem dL_appeal_242 : decode cL_appeal 242 = .ok (.iload 8, 2) := by decide +kernel
theorem dL_appeal_244 : decode cL_appeal 244 = .ok (.ifCond .ne 7, 3) := by decide +kernel
theorem dL_appeal_247 : decode cL_appeal 247 = .ok (.iconst 1, 1) := by decide +kernel
theorem dL_appeal_248 : decode cL_appeal 248 = .ok (.goto 4, 3) := by decide +kernel
theorem dL_appeal_251 : decode cL_appeal 251 = .ok (.iconst 0, 1) := by decide +kernel
theorem dL_appeal_252 : decode cL_appeal 252 = .ok (.ireturn, 1) := by decide +kernel
def zL_appeal_32 (G : kz_G) (d mc ms : Nat) (Qr : Option Value → kz_M → Prop) (Qx : String → kz_M → Prop) (x0 : Nat) (x1 : Nat) (x2 : Int32) (x3 : Int32) (x4 : Nat)  (M : kz_M) (c sl : Nat) : Prop := kz_Z G (d + 10) mc ms mL_appeal Qr Qx 32 [(0, .ref x0), (1, .ref x1), (2, .int x2), (3, .int x3), (4, .ref x4)] [] M c sl
def zL_appeal_52 (G : kz_G) (d mc ms : Nat) (Qr : Option Value → kz_M → Prop) (Qx : String → kz_M → Prop) (x0 : Nat) (x1 : Nat) (x3 : Int32) (x4 : Nat) (x5 : Int32)  (M : kz_M) (c sl : Nat) : Prop := kz_Z G (d + 10) mc ms mL_appeal Qr Qx 52 [(0, .ref x0), (1, .ref x1), (3, .int x3), (4, .ref x4), (5, .int x5)] [] M c sl
def zL_appeal_69 (G : kz_G) (d mc ms : Nat) (Qr : Option Value → kz_M → Prop) (Qx : String → kz_M → Prop) (x0 : Nat) (x1 : Nat) (x3 : Int32) (x4 : Nat) (x5 : Int32) (x6 : Nat)  (M : kz_M) (c sl : Nat) : Prop := kz_Z G (d + 10) mc ms mL_appeal Qr Qx 69 [(0, .ref x0), (1, .ref x1), (3, .int x3), (4, .ref x4), (5, .int x5), (6, .ref x6)] [] M c sl
def zL_appeal_124 (G : kz_G) (d mc ms : Nat) (Qr : Option Value → kz_M → Prop) (Qx : String → kz_M → Prop) (x0 : Nat) (x1 : Nat) (x3 : Int32) (x4 : Nat) (x5 : Int32) (x6 : Nat) (x7 : Int32)  (M : kz_M) (c sl : Nat) : Prop := kz_Z G (d + 10) mc ms mL_appeal Qr Qx 124 [(0, .ref x0), (1, .ref x1), (3, .int x3), (4, .ref x4), (5, .int x5), (6, .ref x6), (7, .int x7)] [] M c sl
def zL_appeal_152 (G : kz_G) (d mc ms : Nat) (Qr : Option Value → kz_M → Prop) (Qx : String → kz_M → Prop) (x0 : Nat) (x4 : Nat) (x6 : Nat) (x8 : Int32)  (M : kz_M) (c sl : Nat) : Prop := kz_Z G (d + 10) mc ms mL_appeal Qr Qx 152 [(0, .ref x0), (4, .ref x4), (6, .ref x6), (8, .int x8)] [] M c sl
def zL_appeal_164 (G : kz_G) (d mc ms : Nat) (Qr : Option Value → kz_M → Prop) (Qx : String → kz_M → Prop) (x0 : Nat) (x4 : Nat) (x6 : Nat) (x8 : Int32)  (M : kz_M) (c sl : Nat) : Prop := kz_Z G (d + 10) mc ms mL_appeal Qr Qx 164 [(0, .ref x0), (4, .ref x4), (6, .ref x6), (8, .int x8)] [] M c sl
def zL_appeal_193 (G : kz_G) (d mc ms : Nat) (Qr : Option Value → kz_M → Prop) (Qx : String → kz_M → Prop) (x8 : Int32)  (M : kz_M) (c sl : Nat) : Prop := kz_Z G (d + 10) mc ms mL_appeal Qr Qx 193 [(8, .int x8)] [] M c sl
def zL_appeal_205 (G : kz_G) (d mc ms : Nat) (Qr : Option Value → kz_M → Prop) (Qx : String → kz_M → Prop) (x0 : Nat) (x4 : Nat) (x6 : Nat) (x8 : Int32)  (M : kz_M) (c sl : Nat) : Prop := kz_Z G (d + 10) mc ms mL_appeal Qr Qx 205 [(0, .ref x0), (4, .ref x4), (6, .ref x6), (8, .int x8)] [] M c sl
def zL_appeal_225 (G : kz_G) (d mc ms : Nat) (Qr : Option Value → kz_M → Prop) (Qx : String → kz_M → Prop) (x0 : Nat) (x4 : Nat) (x8 : Int32)  (M : kz_M) (c sl : Nat) : Prop := kz_Z G (d + 10) mc ms mL_appeal Qr Qx 225 [(0, .ref x0), (4, .ref x4), (8, .int x8)] [] M c sl
def zL_appeal_242 (G : kz_G) (d mc ms : Nat) (Qr : Option Value → kz_M → Prop) (Qx : String → kz_M → Prop) (x8 : Int32)  (M : kz_M) (c sl : Nat) : Prop := kz_Z G (d + 10) mc ms mL_appeal Qr Qx 242 [(8, .int x8)] [] M c sl
theorem rL_appeal_0 {G : kz_G} {d : Nat} {mc ms : Nat} {Qr : Option Value → kz_M → Prop} {Qx : String → kz_M → Prop} {a0 : Nat} {p1 : Nat} {p2 : Int32}  {M : kz_M} (h : kz_C G (d + 9) 0 0 mL_bits [.int p2, .int 3, .int 4] M (fun v M1 => ∃ r2 : Int32, v = some (.int r2) ∧ (∃ fs4 v5, (M1).1 a0 = some (.inl (13, fs4)) ∧ fs4[0]? = some (.ref v5) ∧ ((∃ fs16, (M1).1 v5 = some (.inl (16, fs16))) ∧ kz_C G (d + 9) 0 0 mJx4a65c_size_8abf5 [.ref v5] M1 (fun v M6 => ∃ r7 : Int32, v = some (.int r7) ∧ (¬ r7 = 0 ∧ (∃ fs9 v10, (M6).1 a0 = some (.inl (13, fs9)) ∧ fs9[0]? = some (.ref v10) ∧ ((∃ fs15, (M6).1 v10 = some (.inl (16, fs15))) ∧ kz_C G (d + 9) 0 0 mJx4a65c_get_915e3 [.ref v10, .int (r2 - r2 / r7 * r7)] M6 (fun v M11 => ∃ r12 : Nat, v = some (.ref r12) ∧ ((∃ fs14, (M11).1 r12 = some (.inl (12, fs14))) ∧ (zL_appeal_32 G d mc ms Qr Qx a0 p1 p2 (r2 - r2 / r7 * r7) r12 M11 0 0))) (fun _ _ => False))))) (fun _ _ => False)))) Qx) : kz_C G (d + 10) mc ms mL_appeal [.ref a0, .ref p1, .int p2] M Qr Qx := by
  refine kz_enter (n := 2) kmL_appeal.1 (Nat.le_of_ble_eq_true rfl) (ls := [(0, .ref a0), (1, .ref p1), (2, .int p2)]) rfl ?_
  refine kz_iload_n (pc := 0) 2 (i := 2) rfl rfl dL_appeal_0 ?_
  refine kz_iconst (pc := 1) (v := 3) (by decide) dL_appeal_1 ?_
  refine kz_iconst (pc := 2) (v := 4) (by decide) dL_appeal_2 ?_
  refine kz_callS (pc := 3) (μ' := mL_bits) (d' := d + 9) (mc' := 0) (ms' := 0) (As := [.int p2, .int 3, .int 4]) (st := []) (c := 0) (sl := 0) kmL_bits kw_512 (by omega) rfl (Nat.le_of_ble_eq_true rfl) (Nat.zero_le _) (Nat.zero_le _) dL_appeal_3 (fun E M9 hx => kz_Tout rfl (Nat.zero_le _) (Nat.zero_le _) hx) (kz_Cmono (fun v M1 h => ?_) (fun _ _ h => h) h)
  obtain ⟨r2, rfl, h⟩ := h
  show kz_Z G (d + 10) mc ms mL_appeal Qr Qx 6 [(0, .ref a0), (1, .ref p1), (2, .int p2)] [.int r2] M1 0 0
  refine kz_aload_n (pc := 6) 0 (v := .ref a0) (i := 0) rfl rfl rfl dL_appeal_6 ?_
  obtain ⟨fs4, v5, hM, hv, h⟩ := h
  refine kz_getf (pc := 7) (k := 0) kcL hM hv (by decide) kw_660 dL_appeal_7 ?_
  obtain ⟨⟨fs16, he⟩, h⟩ := h
  refine kz_callF (pc := 10) (μ' := mJx4a65c_size_8abf5) (x := ⟨"java/util/List", "size", "()I"⟩) (ci := 16) (q := (RJx4a65c, TJx4a65c, 3)) (b := v5) (d' := d + 9) (mc' := 0) (ms' := 0) (As := []) (st := [.int r2]) (c := 0) (sl := 0) kmJx4a65c_size_8abf5 rfl kw_820 (List.mem_of_getElem? (i := 0) rfl) (by decide +kernel) kw_818 kw_814 (by omega) rfl (Nat.le_of_ble_eq_true rfl) he rfl (Nat.zero_le _) (Nat.zero_le _) dL_appeal_10 (kz_Cmono (fun v M6 h => ?_) (fun _ _ h => h) h)
  obtain ⟨r7, rfl, h⟩ := h
  show kz_Z G (d + 10) mc ms mL_appeal Qr Qx 15 [(0, .ref a0), (1, .ref p1), (2, .int p2)] [.int r7, .int r2] M6 0 0
  obtain ⟨hz, h⟩ := h
  refine kz_irem (pc := 15) hz dL_appeal_15 ?_
  refine kz_istore_n (pc := 16) (i := 3) (ls' := [(0, .ref a0), (1, .ref p1), (2, .int p2)]) rfl (by decide) rfl dL_appeal_16 ?_
  refine kz_aload_n (pc := 17) 1 (v := .ref a0) (i := 0) rfl rfl rfl dL_appeal_17 ?_
  obtain ⟨fs9, v10, hM, hv, h⟩ := h
  refine kz_getf (pc := 18) (k := 0) kcL hM hv (by decide) kw_660 dL_appeal_18 ?_
  refine kz_iload_n (pc := 21) 0 (i := 3) rfl rfl dL_appeal_21 ?_
  obtain ⟨⟨fs15, he⟩, h⟩ := h
  refine kz_callF (pc := 22) (μ' := mJx4a65c_get_915e3) (x := ⟨"java/util/List", "get", "(I)Ljava/lang/Object;"⟩) (ci := 16) (q := (RJx4a65c, TJx4a65c, 3)) (b := v10) (d' := d + 9) (mc' := 0) (ms' := 0) (As := [.int (r2 - r2 / r7 * r7)]) (st := []) (c := 0) (sl := 0) kmJx4a65c_get_915e3 rfl kw_943 (List.mem_of_getElem? (i := 2) rfl) (by decide +kernel) kw_941 kw_938 (by omega) rfl (Nat.le_of_ble_eq_true rfl) he rfl (Nat.zero_le _) (Nat.zero_le _) dL_appeal_22 (kz_Cmono (fun v M11 h => ?_) (fun _ _ h => h) h)
  obtain ⟨r12, rfl, h⟩ := h
  show kz_Z G (d + 10) mc ms mL_appeal Qr Qx 27 [(3, .int (r2 - r2 / r7 * r7)), (0, .ref a0), (1, .ref p1), (2, .int p2)] [.ref r12] M11 0 0
  obtain ⟨⟨fs14, hM⟩, h⟩ := h
  refine kz_castS (pc := 27) (ci := 12) (q := (RX13, TX13, 3)) rfl kw_954 hM dL_appeal_27 ?_
  refine kz_astore (pc := 30) (i := 4) (v := .ref r12) (ls' := [(3, .int (r2 - r2 / r7 * r7)), (0, .ref a0), (1, .ref p1), (2, .int p2)]) rfl (by decide) rfl dL_appeal_30 ?_
  refine kz_sub [2, 3, 4, 1, 0] rfl ?_
  exact h
theorem rL_appeal_32 {G : kz_G} {d : Nat} {mc ms : Nat} {Qr : Option Value → kz_M → Prop} {Qx : String → kz_M → Prop} {x0 : Nat} {x1 : Nat} {x2 : Int32} {x3 : Int32} {x4 : Nat}  {M : kz_M} {c sl : Nat} (hc : c ≤ mc) (hs : sl ≤ ms) (h : kz_C G (d + 9) 0 0 mL_bits [.int x2, .int 7, .int 5] M (fun v M1 => ∃ r2 : Int32, v = some (.int r2) ∧ (∃ fs4 v5, (M1).1 x4 = some (.inl (12, fs4)) ∧ fs4[2]? = some (.ref v5) ∧ ((∃ fs9, (M1).1 v5 = some (.inl (16, fs9))) ∧ kz_C G (d + 9) 0 0 mJx4a65c_size_8abf5 [.ref v5] M1 (fun v M6 => ∃ r7 : Int32, v = some (.int r7) ∧ (¬ r7 = 0 ∧ (zL_appeal_52 G d mc ms Qr Qx x0 x1 x3 x4 (r2 - r2 / r7 * r7) M6 c sl))) (fun _ _ => False)))) Qx) : zL_appeal_32 G d mc ms Qr Qx x0 x1 x2 x3 x4  M c sl := by
  show kz_Z G (d + 10) mc ms mL_appeal Qr Qx 32 [(0, .ref x0), (1, .ref x1), (2, .int x2), (3, .int x3), (4, .ref x4)] [] M c sl
  refine kz_iload_n (pc := 32) 2 (i := 2) rfl rfl dL_appeal_32 ?_
  refine kz_bipush (pc := 33) (v := 7) (by decide) dL_appeal_33 ?_
  refine kz_iconst (pc := 35) (v := 5) (by decide) dL_appeal_35 ?_
  refine kz_callS (pc := 36) (μ' := mL_bits) (d' := d + 9) (mc' := 0) (ms' := 0) (As := [.int x2, .int 7, .int 5]) (st := []) (c := c) (sl := sl) kmL_bits kw_512 (by omega) rfl (Nat.le_of_ble_eq_true rfl) hc hs dL_appeal_36 (fun E M9 hx => kz_Tout rfl hc hs hx) (kz_Cmono (fun v M1 h => ?_) (fun _ _ h => h) h)
  obtain ⟨r2, rfl, h⟩ := h
  show kz_Z G (d + 10) mc ms mL_appeal Qr Qx 39 [(0, .ref x0), (1, .ref x1), (2, .int x2), (3, .int x3), (4, .ref x4)] [.int r2] M1 c sl
  refine kz_aload (pc := 39) 4 (v := .ref x4) (i := 4) rfl rfl dL_appeal_39 ?_
  obtain ⟨fs4, v5, hM, hv, h⟩ := h
  refine kz_getfN (pc := 41) (k := 2) kcX13 hM hv (by decide) kw_1254 dL_appeal_41 ?_
  obtain ⟨⟨fs9, he⟩, h⟩ := h
  refine kz_callF (pc := 44) (μ' := mJx4a65c_size_8abf5) (x := ⟨"java/util/List", "size", "()I"⟩) (ci := 16) (q := (RJx4a65c, TJx4a65c, 3)) (b := v5) (d' := d + 9) (mc' := 0) (ms' := 0) (As := []) (st := [.int r2]) (c := c) (sl := sl) kmJx4a65c_size_8abf5 rfl kw_820 (List.mem_of_getElem? (i := 0) rfl) (by decide +kernel) kw_818 kw_814 (by omega) rfl (Nat.le_of_ble_eq_true rfl) he rfl hc hs dL_appeal_44 (kz_Cmono (fun v M6 h => ?_) (fun _ _ h => h) h)
  obtain ⟨r7, rfl, h⟩ := h
  show kz_Z G (d + 10) mc ms mL_appeal Qr Qx 49 [(0, .ref x0), (1, .ref x1), (2, .int x2), (3, .int x3), (4, .ref x4)] [.int r7, .int r2] M6 c sl
  obtain ⟨hz, h⟩ := h
  refine kz_irem (pc := 49) hz dL_appeal_49 ?_
  refine kz_istore (pc := 50) (i := 5) (ls' := [(0, .ref x0), (1, .ref x1), (2, .int x2), (3, .int x3), (4, .ref x4)]) (by decide) rfl dL_appeal_50 ?_
  refine kz_sub [1, 2, 4, 5, 0] rfl ?_
  exact h
theorem rL_appeal_52 {G : kz_G} {d : Nat} {mc ms : Nat} {Qr : Option Value → kz_M → Prop} {Qx : String → kz_M → Prop} {x0 : Nat} {x1 : Nat} {x3 : Int32} {x4 : Nat} {x5 : Int32}  {M : kz_M} {c sl : Nat} (hc : c ≤ mc) (hs : sl ≤ ms) (h : ∃ fs1 v2, (M).1 x4 = some (.inl (12, fs1)) ∧ fs1[2]? = some (.ref v2) ∧ ((∃ fs7, (M).1 v2 = some (.inl (16, fs7))) ∧ kz_C G (d + 9) 0 0 mJx4a65c_get_915e3 [.ref v2, .int x5] M (fun v M3 => ∃ r4 : Nat, v = some (.ref r4) ∧ ((∃ fs6, (M3).1 r4 = some (.inl (11, fs6))) ∧ (zL_appeal_69 G d mc ms Qr Qx x0 x1 x3 x4 x5 r4 M3 c sl))) (fun _ _ => False))) : zL_appeal_52 G d mc ms Qr Qx x0 x1 x3 x4 x5  M c sl := by
  show kz_Z G (d + 10) mc ms mL_appeal Qr Qx 52 [(0, .ref x0), (1, .ref x1), (3, .int x3), (4, .ref x4), (5, .int x5)] [] M c sl
  refine kz_aload (pc := 52) 3 (v := .ref x4) (i := 4) rfl rfl dL_appeal_52 ?_
  obtain ⟨fs1, v2, hM, hv, h⟩ := h
  refine kz_getfN (pc := 54) (k := 2) kcX13 hM hv (by decide) kw_1254 dL_appeal_54 ?_
  refine kz_iload (pc := 57) 4 (i := 5) rfl dL_appeal_57 ?_
  obtain ⟨⟨fs7, he⟩, h⟩ := h
  refine kz_callF (pc := 59) (μ' := mJx4a65c_get_915e3) (x := ⟨"java/util/List", "get", "(I)Ljava/lang/Object;"⟩) (ci := 16) (q := (RJx4a65c, TJx4a65c, 3)) (b := v2) (d' := d + 9) (mc' := 0) (ms' := 0) (As := [.int x5]) (st := []) (c := c) (sl := sl) kmJx4a65c_get_915e3 rfl kw_943 (List.mem_of_getElem? (i := 2) rfl) (by decide +kernel) kw_941 kw_938 (by omega) rfl (Nat.le_of_ble_eq_true rfl) he rfl hc hs dL_appeal_59 (kz_Cmono (fun v M3 h => ?_) (fun _ _ h => h) h)
  obtain ⟨r4, rfl, h⟩ := h
  show kz_Z G (d + 10) mc ms mL_appeal Qr Qx 64 [(0, .ref x0), (1, .ref x1), (3, .int x3), (4, .ref x4), (5, .int x5)] [.ref r4] M3 c sl
  obtain ⟨⟨fs6, hM⟩, h⟩ := h
  refine kz_castS (pc := 64) (ci := 11) (q := (RX12, TX12, 6)) rfl kw_978 hM dL_appeal_64 ?_
  refine kz_astore (pc := 67) (i := 6) (v := .ref r4) (ls' := [(0, .ref x0), (1, .ref x1), (3, .int x3), (4, .ref x4), (5, .int x5)]) rfl (by decide) rfl dL_appeal_67 ?_
  refine kz_sub [1, 2, 3, 4, 5, 0] rfl ?_
  exact h
theorem rL_appeal_69 {G : kz_G} {d : Nat} {mc ms : Nat} {Qr : Option Value → kz_M → Prop} {Qx : String → kz_M → Prop} {x0 : Nat} {x1 : Nat} {x3 : Int32} {x4 : Nat} {x5 : Int32} {x6 : Nat}  {M : kz_M} {c sl : Nat} (hc : c ≤ mc) (hs : sl ≤ ms) (h : ∃ fs1 v2, (M).1 x6 = some (.inl (11, fs1)) ∧ fs1[5]? = some (.int v2) ∧ ((v2 = (1 : Int32) → ∃ fs3 v4, (M).1 x0 = some (.inl (13, fs3)) ∧ fs3[5]? = some (.int v4) ∧ (∃ fs5 v6, (M).1 x4 = some (.inl (12, fs5)) ∧ fs5[1]? = some (.int v6) ∧ (∃ fs7 v8, (M).1 x0 = some (.inl (13, fs7)) ∧ fs7[10]? = some (.int v8) ∧ ((v4 ≤ (v6 + v8) → ∃ fs9 v10, (M).1 x0 = some (.inl (13, fs9)) ∧ fs9[3]? = some (.ref v10) ∧ (∃ fs11 v12, (M).1 x4 = some (.inl (12, fs11)) ∧ fs11[0]? = some (.int v12) ∧ (∃ n13 f14, (M).1 v10 = some (.inr (.int, n13, .inl f14)) ∧ vp_in v12 n13 ∧ (((f14 v12.toNatClampNeg) ≤ (2 : Int32) → zL_appeal_124 G d mc ms Qr Qx x0 x1 x3 x4 x5 x6 0 M c sl) ∧ (¬ (f14 v12.toNatClampNeg) ≤ (2 : Int32) → zL_appeal_124 G d mc ms Qr Qx x0 x1 x3 x4 x5 x6 3 M c sl))))) ∧ (¬ v4 ≤ (v6 + v8) → zL_appeal_124 G d mc ms Qr Qx x0 x1 x3 x4 x5 x6 2 M c sl))))) ∧ (¬ v2 = (1 : Int32) → zL_appeal_124 G d mc ms Qr Qx x0 x1 x3 x4 x5 x6 1 M c sl))) : zL_appeal_69 G d mc ms Qr Qx x0 x1 x3 x4 x5 x6  M c sl := by
  show kz_Z G (d + 10) mc ms mL_appeal Qr Qx 69 [(0, .ref x0), (1, .ref x1), (3, .int x3), (4, .ref x4), (5, .int x5), (6, .ref x6)] [] M c sl
  refine kz_aload (pc := 69) 5 (v := .ref x6) (i := 6) rfl rfl dL_appeal_69 ?_
  obtain ⟨fs1, v2, hM, hv, h⟩ := h
  refine kz_getfN (pc := 71) (k := 5) kcX12 hM hv (by decide) kw_1273 dL_appeal_71 ?_
  refine kz_iconst (pc := 74) (v := 1) (by decide) dL_appeal_74 ?_
  refine kz_icmp_eq (pc := 75) (tgt := 82) (by decide) dL_appeal_75 (fun hb => ?_) (fun hb => ?_)
  · replace h := h.1 hb
    refine kz_aload_n (pc := 82) 0 (v := .ref x0) (i := 0) rfl rfl rfl dL_appeal_82 ?_
    obtain ⟨fs3, v4, hM, hv, h⟩ := h
    refine kz_getf (pc := 83) (k := 5) kcL hM hv (by decide) kw_665 dL_appeal_83 ?_
    refine kz_aload (pc := 86) 3 (v := .ref x4) (i := 4) rfl rfl dL_appeal_86 ?_
    obtain ⟨fs5, v6, hM, hv, h⟩ := h
    refine kz_getfN (pc := 88) (k := 1) kcX13 hM hv (by decide) kw_1252 dL_appeal_88 ?_
    refine kz_aload_n (pc := 91) 0 (v := .ref x0) (i := 0) rfl rfl rfl dL_appeal_91 ?_
    obtain ⟨fs7, v8, hM, hv, h⟩ := h
    refine kz_getf (pc := 92) (k := 10) kcL hM hv (by decide) kw_670 dL_appeal_92 ?_
    refine kz_iadd (pc := 95) dL_appeal_95 ?_
    refine kz_icmp_le (pc := 96) (tgt := 103) (by decide) dL_appeal_96 (fun hb => ?_) (fun hb => ?_)
    · replace h := h.1 hb
      refine kz_aload_n (pc := 103) 0 (v := .ref x0) (i := 0) rfl rfl rfl dL_appeal_103 ?_
      obtain ⟨fs9, v10, hM, hv, h⟩ := h
      refine kz_getf (pc := 104) (k := 3) kcL hM hv (by decide) kw_663 dL_appeal_104 ?_
      refine kz_aload (pc := 107) 3 (v := .ref x4) (i := 4) rfl rfl dL_appeal_107 ?_
      obtain ⟨fs11, v12, hM, hv, h⟩ := h
      refine kz_getfN (pc := 109) (k := 0) kcX13 hM hv (by decide) kw_1251 dL_appeal_109 ?_
      obtain ⟨n13, f14, hM, hi, h⟩ := h
      refine kz_iald (pc := 112) hM hi dL_appeal_112 ?_
      refine kz_iconst (pc := 113) (v := 2) (by decide) dL_appeal_113 ?_
      refine kz_icmp_le (pc := 114) (tgt := 121) (by decide) dL_appeal_114 (fun hb => ?_) (fun hb => ?_)
      · replace h := h.1 hb
        refine kz_iconst (pc := 121) (v := 0) (by decide) dL_appeal_121 ?_
        refine kz_istore (pc := 122) (i := 7) (ls' := [(0, .ref x0), (1, .ref x1), (3, .int x3), (4, .ref x4), (5, .int x5), (6, .ref x6)]) (by decide) rfl dL_appeal_122 ?_
        refine kz_sub [1, 2, 3, 4, 5, 6, 0] rfl ?_
        exact h
      · replace h := h.2 hb
        refine kz_iconst (pc := 117) (v := 3) (by decide) dL_appeal_117 ?_
        refine kz_goto (pc := 118) (tgt := 122) (by decide) dL_appeal_118 ?_
        refine kz_istore (pc := 122) (i := 7) (ls' := [(0, .ref x0), (1, .ref x1), (3, .int x3), (4, .ref x4), (5, .int x5), (6, .ref x6)]) (by decide) rfl dL_appeal_122 ?_
        refine kz_sub [1, 2, 3, 4, 5, 6, 0] rfl ?_
        exact h
    · replace h := h.2 hb
      refine kz_iconst (pc := 99) (v := 2) (by decide) dL_appeal_99 ?_
      refine kz_goto (pc := 100) (tgt := 122) (by decide) dL_appeal_100 ?_
      refine kz_istore (pc := 122) (i := 7) (ls' := [(0, .ref x0), (1, .ref x1), (3, .int x3), (4, .ref x4), (5, .int x5), (6, .ref x6)]) (by decide) rfl dL_appeal_122 ?_
      refine kz_sub [1, 2, 3, 4, 5, 6, 0] rfl ?_
      exact h
  · replace h := h.2 hb
    refine kz_iconst (pc := 78) (v := 1) (by decide) dL_appeal_78 ?_
    refine kz_goto (pc := 79) (tgt := 122) (by decide) dL_appeal_79 ?_
    refine kz_istore (pc := 122) (i := 7) (ls' := [(0, .ref x0), (1, .ref x1), (3, .int x3), (4, .ref x4), (5, .int x5), (6, .ref x6)]) (by decide) rfl dL_appeal_122 ?_
    refine kz_sub [1, 2, 3, 4, 5, 6, 0] rfl ?_
    exact h
theorem rL_appeal_124 {G : kz_G} {d : Nat} {mc ms : Nat} {Qr : Option Value → kz_M → Prop} {Qx : String → kz_M → Prop} {x0 : Nat} {x1 : Nat} {x3 : Int32} {x4 : Nat} {x5 : Int32} {x6 : Nat} {x7 : Int32}  {M : kz_M} {c sl : Nat} (hc : c ≤ mc) (hs : sl ≤ ms) (h : (∃ fs4, (M).1 x1 = some (.inl (10, fs4))) ∧ ∃ mc3 ms3, c + mc3 ≤ mc ∧ sl + ms3 ≤ ms ∧ kz_C G (d + 9) mc3 ms3 mX11_appeal [.ref x1, .int x3, .int x5] M (fun v M1 => ∃ r2 : Int32, v = some (.int r2) ∧ ((x7 ≤ 0 → zL_appeal_152 G d mc ms Qr Qx x0 x4 x6 r2 M1 (c + mc3) (sl + ms3)) ∧ (¬ x7 ≤ 0 → (¬ r2 = (-x7) → Qr (some (.int 0)) M1) ∧ (r2 = (-x7) → Qr (some (.int 1)) M1)))) Qx) : zL_appeal_124 G d mc ms Qr Qx x0 x1 x3 x4 x5 x6 x7  M c sl := by
  show kz_Z G (d + 10) mc ms mL_appeal Qr Qx 124 [(0, .ref x0), (1, .ref x1), (3, .int x3), (4, .ref x4), (5, .int x5), (6, .ref x6), (7, .int x7)] [] M c sl
  refine kz_aload_n (pc := 124) 1 (v := .ref x1) (i := 1) rfl rfl rfl dL_appeal_124 ?_
  refine kz_iload_n (pc := 125) 2 (i := 3) rfl rfl dL_appeal_125 ?_
  refine kz_iload (pc := 126) 4 (i := 5) rfl dL_appeal_126 ?_
  obtain ⟨⟨fs4, he⟩, h⟩ := h
  obtain ⟨mc3, ms3, hc3, hs3, h⟩ := h
  refine kz_callV (pc := 128) (μ' := mX11_appeal) (ci := 10) (q := (RX11, TX11, 10)) (b := x1) (d' := d + 9) (mc' := mc3) (ms' := ms3) (As := [.int x3, .int x5]) (st := []) (c := c) (sl := sl) kmX11_appeal kw_1454 (by omega) rfl (Nat.le_of_ble_eq_true rfl) he rfl rfl hc3 hs3 dL_appeal_128 (fun E M9 hx => kz_Tout rfl hc3 hs3 hx) (kz_Cmono (fun v M1 h => ?_) (fun _ _ h => h) h)
  obtain ⟨r2, rfl, h⟩ := h
  show kz_Z G (d + 10) mc ms mL_appeal Qr Qx 131 [(0, .ref x0), (1, .ref x1), (3, .int x3), (4, .ref x4), (5, .int x5), (6, .ref x6), (7, .int x7)] [.int r2] M1 (c + mc3) (sl + ms3)
  refine kz_istore (pc := 131) (i := 8) (ls' := [(0, .ref x0), (1, .ref x1), (3, .int x3), (4, .ref x4), (5, .int x5), (6, .ref x6), (7, .int x7)]) (by decide) rfl dL_appeal_131 ?_
  refine kz_iload (pc := 133) 7 (i := 7) rfl dL_appeal_133 ?_
  refine kz_if_le (pc := 135) (tgt := 152) (by decide) dL_appeal_135 (fun hb => ?_) (fun hb => ?_)
  · replace h := h.1 hb
    refine kz_sub [1, 4, 6, 0] rfl ?_
    exact h
  · replace h := h.2 hb
    refine kz_iload (pc := 138) 0 (i := 8) rfl dL_appeal_138 ?_
    refine kz_iload (pc := 140) 7 (i := 7) rfl dL_appeal_140 ?_
    refine kz_ineg (pc := 142) dL_appeal_142 ?_
    refine kz_icmp_ne (pc := 143) (tgt := 150) (by decide) dL_appeal_143 (fun hb => ?_) (fun hb => ?_)
    · replace h := h.1 hb
      refine kz_iconst (pc := 150) (v := 0) (by decide) dL_appeal_150 ?_
      exact kz_zret (pc := 151) (ty := .boolean) rfl (by decide) hc3 hs3 dL_appeal_151 h
    · replace h := h.2 hb
      refine kz_iconst (pc := 146) (v := 1) (by decide) dL_appeal_146 ?_
      refine kz_goto (pc := 147) (tgt := 151) (by decide) dL_appeal_147 ?_
      exact kz_zret (pc := 151) (ty := .boolean) rfl (by decide) hc3 hs3 dL_appeal_151 h
theorem rL_appeal_152 {G : kz_G} {d : Nat} {mc ms : Nat} {Qr : Option Value → kz_M → Prop} {Qx : String → kz_M → Prop} {x0 : Nat} {x4 : Nat} {x6 : Nat} {x8 : Int32}  {M : kz_M} {c sl : Nat} (hc : c ≤ mc) (hs : sl ≤ ms) (h : kz_C G (d + 9) 0 0 mL_distinctOf [.ref x6] M (fun v M1 => ∃ r2 : Int32, v = some (.int r2) ∧ (∃ fs4 v5, (M1).1 x0 = some (.inl (13, fs4)) ∧ fs4[11]? = some (.int v5) ∧ ((r2 < v5 → zL_appeal_205 G d mc ms Qr Qx x0 x4 x6 x8 M1 c sl) ∧ (¬ r2 < v5 → zL_appeal_164 G d mc ms Qr Qx x0 x4 x6 x8 M1 c sl)))) Qx) : zL_appeal_152 G d mc ms Qr Qx x0 x4 x6 x8  M c sl := by
  show kz_Z G (d + 10) mc ms mL_appeal Qr Qx 152 [(0, .ref x0), (4, .ref x4), (6, .ref x6), (8, .int x8)] [] M c sl
  refine kz_aload (pc := 152) 2 (v := .ref x6) (i := 6) rfl rfl dL_appeal_152 ?_
  refine kz_callS (pc := 154) (μ' := mL_distinctOf) (d' := d + 9) (mc' := 0) (ms' := 0) (As := [.ref x6]) (st := []) (c := c) (sl := sl) kmL_distinctOf kw_995 (by omega) rfl (Nat.le_of_ble_eq_true rfl) hc hs dL_appeal_154 (fun E M9 hx => kz_Tout rfl hc hs hx) (kz_Cmono (fun v M1 h => ?_) (fun _ _ h => h) h)
  obtain ⟨r2, rfl, h⟩ := h
  show kz_Z G (d + 10) mc ms mL_appeal Qr Qx 157 [(0, .ref x0), (4, .ref x4), (6, .ref x6), (8, .int x8)] [.int r2] M1 c sl
  refine kz_aload_n (pc := 157) 0 (v := .ref x0) (i := 0) rfl rfl rfl dL_appeal_157 ?_
  obtain ⟨fs4, v5, hM, hv, h⟩ := h
  refine kz_getf (pc := 158) (k := 11) kcL hM hv (by decide) kw_671 dL_appeal_158 ?_
  refine kz_icmp_lt (pc := 161) (tgt := 205) (by decide) dL_appeal_161 (fun hb => ?_) (fun hb => ?_)
  · replace h := h.1 hb
    exact h
  · replace h := h.2 hb
    exact h
theorem rL_appeal_164 {G : kz_G} {d : Nat} {mc ms : Nat} {Qr : Option Value → kz_M → Prop} {Qx : String → kz_M → Prop} {x0 : Nat} {x4 : Nat} {x6 : Nat} {x8 : Int32}  {M : kz_M} {c sl : Nat} (hc : c ≤ mc) (hs : sl ≤ ms) (h : ∃ fs1, (M).1 x6 = some (.inl (11, fs1)) ∧ 5 < fs1.length ∧ (∃ fs2 v3, ((kz_up M x6 (.inl (11, fs1.set 5 (.int 2))))).1 x0 = some (.inl (13, fs2)) ∧ fs2[1]? = some (.ref v3) ∧ (∃ fs4 v5, ((kz_up M x6 (.inl (11, fs1.set 5 (.int 2))))).1 x4 = some (.inl (12, fs4)) ∧ fs4[0]? = some (.int v5) ∧ (∃ n6 f7, ((kz_up M x6 (.inl (11, fs1.set 5 (.int 2))))).1 v3 = some (.inr (.int, n6, .inl f7)) ∧ vp_in v5 n6 ∧ (∃ fs8 v9, ((kz_up M x6 (.inl (11, fs1.set 5 (.int 2))))).1 x6 = some (.inl (11, fs8)) ∧ fs8[3]? = some (.int v9) ∧ (∃ fs10 v11, ((kz_up M x6 (.inl (11, fs1.set 5 (.int 2))))).1 x0 = some (.inl (13, fs10)) ∧ fs10[9]? = some (.int v11) ∧ (∃ n12 f13, ((kz_up M x6 (.inl (11, fs1.set 5 (.int 2))))).1 v3 = some (.inr (.int, n12, .inl f13)) ∧ vp_in v5 n12 ∧ (∀ M14, M14 = kz_up (kz_up M x6 (.inl (11, fs1.set 5 (.int 2)))) v3 (.inr (.int, n12, .inl (upd f13 (v5 : Int32).toNatClampNeg ((f7 v5.toNatClampNeg) + (v9 + v11))))) → zL_appeal_193 G d mc ms Qr Qx x8 M14 c sl)))))))) : zL_appeal_164 G d mc ms Qr Qx x0 x4 x6 x8  M c sl := by
  show kz_Z G (d + 10) mc ms mL_appeal Qr Qx 164 [(0, .ref x0), (4, .ref x4), (6, .ref x6), (8, .int x8)] [] M c sl
  refine kz_aload (pc := 164) 2 (v := .ref x6) (i := 6) rfl rfl dL_appeal_164 ?_
  refine kz_iconst (pc := 166) (v := 2) (by decide) dL_appeal_166 ?_
  obtain ⟨fs1, hM, hlen, h⟩ := h
  refine kz_putfN (pc := 167) (k := 5) kcX12 hM (by decide) hlen kw_1273 rfl rfl rfl dL_appeal_167 ?_
  refine kz_aload_n (pc := 170) 0 (v := .ref x0) (i := 0) rfl rfl rfl dL_appeal_170 ?_
  obtain ⟨fs2, v3, hM, hv, h⟩ := h
  refine kz_getf (pc := 171) (k := 1) kcL hM hv (by decide) kw_661 dL_appeal_171 ?_
  refine kz_aload (pc := 174) 1 (v := .ref x4) (i := 4) rfl rfl dL_appeal_174 ?_
  obtain ⟨fs4, v5, hM, hv, h⟩ := h
  refine kz_getfN (pc := 176) (k := 0) kcX13 hM hv (by decide) kw_1251 dL_appeal_176 ?_
  refine kz_dup2_11 (pc := 179) rfl rfl dL_appeal_179 ?_
  obtain ⟨n6, f7, hM, hi, h⟩ := h
  refine kz_iald (pc := 180) hM hi dL_appeal_180 ?_
  refine kz_aload (pc := 181) 2 (v := .ref x6) (i := 6) rfl rfl dL_appeal_181 ?_
  obtain ⟨fs8, v9, hM, hv, h⟩ := h
  refine kz_getfN (pc := 183) (k := 3) kcX12 hM hv (by decide) kw_1271 dL_appeal_183 ?_
  refine kz_aload_n (pc := 186) 0 (v := .ref x0) (i := 0) rfl rfl rfl dL_appeal_186 ?_
  obtain ⟨fs10, v11, hM, hv, h⟩ := h
  refine kz_getf (pc := 187) (k := 9) kcL hM hv (by decide) kw_669 dL_appeal_187 ?_
  refine kz_iadd (pc := 190) dL_appeal_190 ?_
  refine kz_iadd (pc := 191) dL_appeal_191 ?_
  obtain ⟨n12, f13, hM, hi, h⟩ := h
  refine kz_iast (pc := 192) hM hi dL_appeal_192 ?_
  refine kz_nameM (fun M14 e9 => ?_)
  replace h := h M14 e9
  refine kz_sub [3] rfl ?_
  exact h
theorem rL_appeal_193 {G : kz_G} {d : Nat} {mc ms : Nat} {Qr : Option Value → kz_M → Prop} {Qx : String → kz_M → Prop} {x8 : Int32}  {M : kz_M} {c sl : Nat} (hc : c ≤ mc) (hs : sl ≤ ms) (h : (¬ x8 = (1 : Int32) → Qr (some (.int 0)) M) ∧ (x8 = (1 : Int32) → Qr (some (.int 1)) M)) : zL_appeal_193 G d mc ms Qr Qx x8  M c sl := by
  show kz_Z G (d + 10) mc ms mL_appeal Qr Qx 193 [(8, .int x8)] [] M c sl
  refine kz_iload (pc := 193) 0 (i := 8) rfl dL_appeal_193 ?_
  refine kz_iconst (pc := 195) (v := 1) (by decide) dL_appeal_195 ?_
  refine kz_icmp_ne (pc := 196) (tgt := 203) (by decide) dL_appeal_196 (fun hb => ?_) (fun hb => ?_)
  · replace h := h.1 hb
    refine kz_iconst (pc := 203) (v := 0) (by decide) dL_appeal_203 ?_
    exact kz_zret (pc := 204) (ty := .boolean) rfl (by decide) hc hs dL_appeal_204 h
  · replace h := h.2 hb
    refine kz_iconst (pc := 199) (v := 1) (by decide) dL_appeal_199 ?_
    refine kz_goto (pc := 200) (tgt := 204) (by decide) dL_appeal_200 ?_
    exact kz_zret (pc := 204) (ty := .boolean) rfl (by decide) hc hs dL_appeal_204 h
theorem rL_appeal_205 {G : kz_G} {d : Nat} {mc ms : Nat} {Qr : Option Value → kz_M → Prop} {Qx : String → kz_M → Prop} {x0 : Nat} {x4 : Nat} {x6 : Nat} {x8 : Int32}  {M : kz_M} {c sl : Nat} (hc : c ≤ mc) (hs : sl ≤ ms) (h : ∃ fs1, (M).1 x6 = some (.inl (11, fs1)) ∧ 5 < fs1.length ∧ (∃ fs2 v3, ((kz_up M x6 (.inl (11, fs1.set 5 (.int 3))))).1 x0 = some (.inl (13, fs2)) ∧ fs2[3]? = some (.ref v3) ∧ (∃ fs4 v5, ((kz_up M x6 (.inl (11, fs1.set 5 (.int 3))))).1 x4 = some (.inl (12, fs4)) ∧ fs4[0]? = some (.int v5) ∧ (∃ n6 f7, ((kz_up M x6 (.inl (11, fs1.set 5 (.int 3))))).1 v3 = some (.inr (.int, n6, .inl f7)) ∧ vp_in v5 n6 ∧ (∃ n8 f9, ((kz_up M x6 (.inl (11, fs1.set 5 (.int 3))))).1 v3 = some (.inr (.int, n8, .inl f9)) ∧ vp_in v5 n8 ∧ (zL_appeal_225 G d mc ms Qr Qx x0 x4 x8 (kz_up (kz_up M x6 (.inl (11, fs1.set 5 (.int 3)))) v3 (.inr (.int, n8, .inl (upd f9 (v5 : Int32).toNatClampNeg ((f7 v5.toNatClampNeg) + 1))))) c sl)))))) : zL_appeal_205 G d mc ms Qr Qx x0 x4 x6 x8  M c sl := by
  show kz_Z G (d + 10) mc ms mL_appeal Qr Qx 205 [(0, .ref x0), (4, .ref x4), (6, .ref x6), (8, .int x8)] [] M c sl
  refine kz_aload (pc := 205) 2 (v := .ref x6) (i := 6) rfl rfl dL_appeal_205 ?_
  refine kz_iconst (pc := 207) (v := 3) (by decide) dL_appeal_207 ?_
  obtain ⟨fs1, hM, hlen, h⟩ := h
  refine kz_putfN (pc := 208) (k := 5) kcX12 hM (by decide) hlen kw_1273 rfl rfl rfl dL_appeal_208 ?_
  refine kz_aload_n (pc := 211) 0 (v := .ref x0) (i := 0) rfl rfl rfl dL_appeal_211 ?_
  obtain ⟨fs2, v3, hM, hv, h⟩ := h
  refine kz_getf (pc := 212) (k := 3) kcL hM hv (by decide) kw_663 dL_appeal_212 ?_
  refine kz_aload (pc := 215) 1 (v := .ref x4) (i := 4) rfl rfl dL_appeal_215 ?_
  obtain ⟨fs4, v5, hM, hv, h⟩ := h
  refine kz_getfN (pc := 217) (k := 0) kcX13 hM hv (by decide) kw_1251 dL_appeal_217 ?_
  refine kz_dup2_11 (pc := 220) rfl rfl dL_appeal_220 ?_
  obtain ⟨n6, f7, hM, hi, h⟩ := h
  refine kz_iald (pc := 221) hM hi dL_appeal_221 ?_
  refine kz_iconst (pc := 222) (v := 1) (by decide) dL_appeal_222 ?_
  refine kz_iadd (pc := 223) dL_appeal_223 ?_
  obtain ⟨n8, f9, hM, hi, h⟩ := h
  refine kz_iast (pc := 224) hM hi dL_appeal_224 ?_
  refine kz_sub [0, 1, 3] rfl ?_
  exact h
theorem rL_appeal_225 {G : kz_G} {d : Nat} {mc ms : Nat} {Qr : Option Value → kz_M → Prop} {Qx : String → kz_M → Prop} {x0 : Nat} {x4 : Nat} {x8 : Int32}  {M : kz_M} {c sl : Nat} (hc : c ≤ mc) (hs : sl ≤ ms) (h : ∃ fs1 v2, (M).1 x0 = some (.inl (13, fs1)) ∧ fs1[1]? = some (.ref v2) ∧ (∃ fs3 v4, (M).1 x4 = some (.inl (12, fs3)) ∧ fs3[0]? = some (.int v4) ∧ (∃ n5 f6, (M).1 v2 = some (.inr (.int, n5, .inl f6)) ∧ vp_in v4 n5 ∧ (∃ fs7 v8, (M).1 x0 = some (.inl (13, fs7)) ∧ fs7[12]? = some (.int v8) ∧ (∃ n9 f10, (M).1 v2 = some (.inr (.int, n9, .inl f10)) ∧ vp_in v4 n9 ∧ (zL_appeal_242 G d mc ms Qr Qx x8 (kz_up M v2 (.inr (.int, n9, .inl (upd f10 (v4 : Int32).toNatClampNeg ((f6 v4.toNatClampNeg) - v8))))) c sl)))))) : zL_appeal_225 G d mc ms Qr Qx x0 x4 x8  M c sl := by
  show kz_Z G (d + 10) mc ms mL_appeal Qr Qx 225 [(0, .ref x0), (4, .ref x4), (8, .int x8)] [] M c sl
  refine kz_aload_n (pc := 225) 0 (v := .ref x0) (i := 0) rfl rfl rfl dL_appeal_225 ?_
  obtain ⟨fs1, v2, hM, hv, h⟩ := h
  refine kz_getf (pc := 226) (k := 1) kcL hM hv (by decide) kw_661 dL_appeal_226 ?_
  refine kz_aload (pc := 229) 1 (v := .ref x4) (i := 4) rfl rfl dL_appeal_229 ?_
  obtain ⟨fs3, v4, hM, hv, h⟩ := h
  refine kz_getfN (pc := 231) (k := 0) kcX13 hM hv (by decide) kw_1251 dL_appeal_231 ?_
  refine kz_dup2_11 (pc := 234) rfl rfl dL_appeal_234 ?_
  obtain ⟨n5, f6, hM, hi, h⟩ := h
  refine kz_iald (pc := 235) hM hi dL_appeal_235 ?_
  refine kz_aload_n (pc := 236) 0 (v := .ref x0) (i := 0) rfl rfl rfl dL_appeal_236 ?_
  obtain ⟨fs7, v8, hM, hv, h⟩ := h
  refine kz_getf (pc := 237) (k := 12) kcL hM hv (by decide) kw_672 dL_appeal_237 ?_
  refine kz_isub (pc := 240) dL_appeal_240 ?_
  obtain ⟨n9, f10, hM, hi, h⟩ := h
  refine kz_iast (pc := 241) hM hi dL_appeal_241 ?_
  refine kz_sub [2] rfl ?_
  exact h
theorem rL_appeal_242 {G : kz_G} {d : Nat} {mc ms : Nat} {Qr : Option Value → kz_M → Prop} {Qx : String → kz_M → Prop} {x8 : Int32}  {M : kz_M} {c sl : Nat} (hc : c ≤ mc) (hs : sl ≤ ms) (h : (¬ x8 = 0 → Qr (some (.int 0)) M) ∧ (x8 = 0 → Qr (some (.int 1)) M)) : zL_appeal_242 G d mc ms Qr Qx x8  M c sl := by
  show kz_Z G (d + 10) mc ms mL_appeal Qr Qx 242 [(8, .int x8)] [] M c sl
  refine kz_iload (pc := 242) 0 (i := 8) rfl dL_appeal_242 ?_
  refine kz_if_ne (pc := 244) (tgt := 251) (by decide) dL_appeal_244 (fun hb => ?_) (fun hb => ?_)
  · replace h := h.1 hb
    refine kz_iconst (pc := 251) (v := 0) (by decide) dL_appeal_251 ?_
    exact kz_zret (pc := 252) (ty := .boolean) rfl (by decide) hc hs dL_appeal_252 h
  · replace h := h.2 hb
    refine kz_iconst (pc := 247) (v := 1) (by decide) dL_appeal_247 ?_
    refine kz_goto (pc := 248) (tgt := 252) (by decide) dL_appeal_248 ?_
    exact kz_zret (pc := 252) (ty := .boolean) rfl (by decide) hc hs dL_appeal_252 h
theorem dL_act_0 : decode cL_act 0 = .ok (.iload_n 2, 1) := by decide +kernel
theorem dL_act_1 : decode cL_act 1 = .ok (.iconst 0, 1) := by decide +kernel
theorem dL_act_2 : decode cL_act 2 = .ok (.iconst 3, 1) := by decide +kernel
theorem dL_act_3 : decode cL_act 3 = .ok (.invokestatic 76, 3) := by decide +kernel
theorem dL_act_6 : decode cL_act 6 = .ok (.tableswitch 223 0 6 #[42, 42, 42, 72, 72, 99, 181], 42) := by decide +kernel
theorem dL_act_48 : decode cL_act 48 = .ok (.aload_n 0, 1) := by decide +kernel
theorem dL_act_49 : decode cL_act 49 = .ok (.getfield 30, 3) := by decide +kernel
theorem dL_act_52 : decode cL_act 52 = .ok (.invokeinterface 195 1, 5) := by decide +kernel
theorem dL_act_57 : decode cL_act 57 = .ok (.bipush 12, 2) := by decide +kernel
theorem dL_act_59 : decode cL_act 59 = .ok (.if_icmp .eq 13, 3) := by decide +kernel
theorem dL_act_62 : decode cL_act 62 = .ok (.aload_n 0, 1) := by decide +kernel
theorem dL_act_63 : decode cL_act 63 = .ok (.aload_n 1, 1) := by decide +kernel
theorem dL_act_64 : decode cL_act 64 = .ok (.iload_n 2, 1) := by decide +kernel
theorem dL_act_65 : decode cL_act 65 = .ok (.iload_n 3, 1) := by decide +kernel
theorem dL_act_66 : decode cL_act 66 = .ok (.invokevirtual 253, 3) := by decide +kernel
theorem dL_act_69 : decode cL_act 69 = .ok (.ifCond .eq 7, 3) := by decide +kernel
theorem dL_act_72 : decode cL_act 72 = .ok (.iconst 1, 1) := by decide +kernel
theorem dL_act_73 : decode cL_act 73 = .ok (.goto 4, 3) := by decide +kernel
theorem dL_act_76 : decode cL_act 76 = .ok (.iconst 0, 1) := by decide +kernel
theorem dL_act_77 : decode cL_act 77 = .ok (.ireturn, 1) := by decide +kernel
theorem dL_act_78 : decode cL_act 78 = .ok (.aload_n 0, 1) := by decide +kernel
theorem dL_act_79 : decode cL_act 79 = .ok (.getfield 30, 3) := by decide +kernel
theorem dL_act_82 : decode cL_act 82 = .ok (.invokeinterface 201 1, 5) := by decide +kernel
theorem dL_act_87 : decode cL_act 87 = .ok (.ifCond .ne 12, 3) := by decide +kernel
theorem dL_act_90 : decode cL_act 90 = .ok (.aload_n 0, 1) := by decide +kernel
theorem dL_act_91 : decode cL_act 91 = .ok (.aload_n 1, 1) := by decide +kernel
theorem dL_act_92 : decode cL_act 92 = .ok (.iload_n 2, 1) := by decide +kernel
theorem dL_act_93 : decode cL_act 93 = .ok (.invokevirtual 256, 3) := by decide +kernel
theorem dL_act_96 : decode cL_act 96 = .ok (.ifCond .eq 7, 3) := by decide +kernel
theorem dL_act_99 : decode cL_act 99 = .ok (.iconst 1, 1) := by decide +kernel
theorem dL_act_100 : decode cL_act 100 = .ok (.goto 4, 3) := by decide +kernel
theorem dL_act_103 : decode cL_act 103 = .ok (.iconst 0, 1) := by decide +kernel
theorem dL_act_104 : decode cL_act 104 = .ok (.ireturn, 1) := by decide +kernel
theorem dL_act_105 : decode cL_act 105 = .ok (.iload_n 2, 1) := by decide +kernel
theorem dL_act_106 : decode cL_act 106 = .ok (.iconst 3, 1) := by decide +kernel
theorem dL_act_107 : decode cL_act 107 = .ok (.iconst 2, 1) := by decide +kernel
theorem dL_act_108 : decode cL_act 108 = .ok (.invokestatic 76, 3) := by decide +kernel
theorem dL_act_111 : decode cL_act 111 = .ok (.iconst 3, 1) := by decide +kernel
theorem dL_act_112 : decode cL_act 112 = .ok (.irem, 1) := by decide +kernel
theorem dL_act_113 : decode cL_act 113 = .ok (.istore 4, 2) := by decide +kernel
theorem dL_act_115 : decode cL_act 115 = .ok (.iconst 0, 1) := by decide +kernel
theorem dL_act_116 : decode cL_act 116 = .ok (.aload_n 0, 1) := by decide +kernel
theorem dL_act_117 : decode cL_act 117 = .ok (.getfield 80, 3) := by decide +kernel
theorem dL_act_120 : decode cL_act 120 = .ok (.aload_n 0, 1) := by decide +kernel
theorem dL_act_121 : decode cL_act 121 = .ok (.getfield 36, 3) := by decide +kernel
theorem dL_act_124 : decode cL_act 124 = .ok (.iload 4, 2) := by decide +kernel
theorem dL_act_126 : decode cL_act 126 = .ok (.iaload, 1) := by decide +kernel
theorem dL_act_127 : decode cL_act 127 = .ok (.invokestatic 259, 3) := by decide +kernel
theorem dL_act_130 : decode cL_act 130 = .ok (.invokestatic 264, 3) := by decide +kernel
theorem dL_act_133 : decode cL_act 133 = .ok (.istore 5, 2) := by decide +kernel
theorem dL_act_135 : decode cL_act 135 = .ok (.aload_n 0, 1) := by decide +kernel
theorem dL_act_136 : decode cL_act 136 = .ok (.dup, 1) := by decide +kernel
theorem dL_act_137 : decode cL_act 137 = .ok (.getfield 80, 3) := by decide +kernel
theorem dL_act_140 : decode cL_act 140 = .ok (.iload 5, 2) := by decide +kernel
theorem dL_act_142 : decode cL_act 142 = .ok (.isub, 1) := by decide +kernel
theorem dL_act_143 : decode cL_act 143 = .ok (.putfield 80, 3) := by decide +kernel
theorem dL_act_146 : decode cL_act 146 = .ok (.aload_n 0, 1) := by decide +kernel
theorem dL_act_147 : decode cL_act 147 = .ok (.getfield 36, 3) := by decide +kernel
theorem dL_act_150 : decode cL_act 150 = .ok (.iload 4, 2) := by decide +kernel
theorem dL_act_152 : decode cL_act 152 = .ok (.dup2, 1) := by decide +kernel
theorem dL_act_153 : decode cL_act 153 = .ok (.iaload, 1) := by decide +kernel
theorem dL_act_154 : decode cL_act 154 = .ok (.iload 5, 2) := by decide +kernel
theorem dL_act_156 : decode cL_act 156 = .ok (.isub, 1) := by decide +kernel
theorem dL_act_157 : decode cL_act 157 = .ok (.iastore, 1) := by decide +kernel
theorem dL_act_158 : decode cL_act 158 = .ok (.aload_n 0, 1) := by decide +kernel
theorem dL_act_159 : decode cL_act 159 = .ok (.getfield 40, 3) := by decide +kernel
theorem dL_act_162 : decode cL_act 162 = .ok (.iload 4, 2) := by decide +kernel
theorem dL_act_164 : decode cL_act 164 = .ok (.dup2, 1) := by decide +kernel
theorem dL_act_165 : decode cL_act 165 = .ok (.iaload, 1) := by decide +kernel
theorem dL_act_166 : decode cL_act 166 = .ok (.iload 5, 2) := by decide +kernel
theorem dL_act_168 : decode cL_act 168 = .ok (.iadd, 1) := by decide +kernel
theorem dL_act_169 : decode cL_act 169 = .ok (.iastore, 1) := by decide +kernel
theorem dL_act_170 : decode cL_act 170 = .ok (.aload_n 1, 1) := by decide +kernel
theorem dL_act_171 : decode cL_act 171 = .ok (.iload 4, 2) := by decide +kernel
theorem dL_act_173 : decode cL_act 173 = .ok (.invokevirtual 267, 3) := by decide +kernel
theorem dL_act_176 : decode cL_act 176 = .ok (.iload 5, 2) := by decide +kernel
theorem dL_act_178 : decode cL_act 178 = .ok (.if_icmp .ne 7, 3) := by decide +kernel
theorem dL_act_181 : decode cL_act 181 = .ok (.iconst 1, 1) := by decide +kernel
theorem dL_act_182 : decode cL_act 182 = .ok (.goto 4, 3) := by decide +kernel
theorem dL_act_185 : decode cL_act 185 = .ok (.iconst 0, 1) := by decide +kernel
theorem dL_act_186 : decode cL_act 186 = .ok (.ireturn, 1) := by decide +kernel
theorem dL_act_187 : decode cL_act 187 = .ok (.aload_n 0, 1) := by decide +kernel
theorem dL_act_188 : decode cL_act 188 = .ok (.dup, 1) := by decide +kernel
theorem dL_act_189 : decode cL_act 189 = .ok (.getfield 173, 3) := by decide +kernel
theorem dL_act_192 : decode cL_act 192 = .ok (.iconst 1, 1) := by decide +kernel
theorem dL_act_193 : decode cL_act 193 = .ok (.iload_n 2, 1) := by decide +kernel
theorem dL_act_194 : decode cL_act 194 = .ok (.iconst 3, 1) := by decide +kernel
theorem dL_act_195 : decode cL_act 195 = .ok (.iconst 1, 1) := by decide +kernel
theorem dL_act_196 : decode cL_act 196 = .ok (.invokestatic 76, 3) := by decide +kernel
theorem dL_act_199 : decode cL_act 199 = .ok (.iadd, 1) := by decide +kernel
theorem dL_act_200 : decode cL_act 200 = .ok (.iadd, 1) := by decide +kernel
theorem dL_act_201 : decode cL_act 201 = .ok (.putfield 173, 3) := by decide +kernel
theorem dL_act_204 : decode cL_act 204 = .ok (.aload_n 1, 1) := by decide +kernel
theorem dL_act_205 : decode cL_act 205 = .ok (.iconst 1, 1) := by decide +kernel
theorem dL_act_206 : decode cL_act 206 = .ok (.iload_n 2, 1) := by decide +kernel
theorem dL_act_207 : decode cL_act 207 = .ok (.iconst 3, 1) := by decide +kernel
theorem dL_act_208 : decode cL_act 208 = .ok (.iconst 1, 1) := by decide +kernel
theorem dL_act_209 : decode cL_act 209 = .ok (.invokestatic 76, 3) := by decide +kernel
theorem dL_act_212 : decode cL_act 212 = .ok (.iadd, 1) := by decide +kernel
theorem dL_act_213 : decode cL_act 213 = .ok (.invokevirtual 270, 3) := by decide +kernel
theorem dL_act_216 : decode cL_act 216 = .ok (.aload_n 0, 1) := by decide +kernel
theorem dL_act_217 : decode cL_act 217 = .ok (.getfield 173, 3) := by decide +kernel
theorem dL_act_220 : decode cL_act 220 = .ok (.if_icmp .ne 7, 3) := by decide +kernel
theorem dL_act_223 : decode cL_act 223 = .ok (.iconst 1, 1) := by decide +kernel
theorem dL_act_224 : decode cL_act 224 = .ok (.goto 4, 3) := by decide +kernel
theorem dL_act_227 : decode cL_act 227 = .ok (.iconst 0, 1) := by decide +kernel
theorem dL_act_228 : decode cL_act 228 = .ok (.ireturn, 1) := by decide +kernel
theorem dL_act_229 : decode cL_act 229 = .ok (.aload_n 0, 1) := by decide +kernel
theorem dL_act_230 : decode cL_act 230 = .ok (.getfield 46, 3) := by decide +kernel
theorem dL_act_233 : decode cL_act 233 = .ok (.istore 4, 2) := by decide +kernel
theorem dL_act_235 : decode cL_act 235 = .ok (.aload_n 0, 1) := by decide +kernel
theorem dL_act_236 : decode cL_act 236 = .ok (.bipush 6, 2) := by decide +kernel
theorem dL_act_238 : decode cL_act 238 = .ok (.iload_n 2, 1) := by decide +kernel
theorem dL_act_239 : decode cL_act 239 = .ok (.iconst 3, 1) := by decide +kernel
theorem dL_act_240 : decode cL_act 240 = .ok (.iconst 4, 1) := by decide +kernel
theorem dL_act_241 : decode cL_act 241 = .ok (.invokestatic 76, 3) := by decide +kernel
theorem dL_act_244 : decode cL_act 244 = .ok (.iadd, 1) := by decide +kernel
theorem dL_act_245 : decode cL_act 245 = .ok (.putfield 46, 3) := by decide +kernel
theorem dL_act_248 : decode cL_act 248 = .ok (.aload_n 1, 1) := by decide +kernel
theorem dL_act_249 : decode cL_act 249 = .ok (.iconst 0, 1) := by decide +kernel
theorem dL_act_250 : decode cL_act 250 = .ok (.aload_n 0, 1) := by decide +kernel
theorem dL_act_251 : decode cL_act 251 = .ok (.getfield 46, 3) := by decide +kernel
theorem dL_act_254 : decode cL_act 254 = .ok (.invokevirtual 273, 3) := by decide +kernel
theorem dL_act_257 : decode cL_act 257 = .ok (.iload 4, 2) := by decide +kernel
theorem dL_act_259 : decode cL_act 259 = .ok (.if_icmp .ne 7, 3) := by decide +kernel
theorem dL_act_262 : decode cL_act 262 = .ok (.iconst 1, 1) := by decide +kernel
theorem dL_act_263 : decode cL_act 263 = .ok (.goto 4, 3) := by decide +kernel
theorem dL_act_266 : decode cL_act 266 = .ok (.iconst 0, 1) := by decide +kernel
theorem dL_act_267 : decode cL_act 267 = .ok (.ireturn, 1) := by decide +kernel
def zL_act_48 (G : kz_G) (d mc ms : Nat) (Qr : Option Value → kz_M → Prop) (Qx : String → kz_M → Prop) (x0 : Nat) (x1 : Nat) (x2 : Int32) (x3 : Int32)  (M : kz_M) (c sl : Nat) : Prop := kz_Z G (d + 11) mc ms mL_act Qr Qx 48 [(0, .ref x0), (1, .ref x1), (2, .int x2), (3, .int x3)] [] M c sl
def zL_act_78 (G : kz_G) (d mc ms : Nat) (Qr : Option Value → kz_M → Prop) (Qx : String → kz_M → Prop) (x0 : Nat) (x1 : Nat) (x2 : Int32)  (M : kz_M) (c sl : Nat) : Prop := kz_Z G (d + 11) mc ms mL_act Qr Qx 78 [(0, .ref x0), (1, .ref x1), (2, .int x2)] [] M c sl
def zL_act_105 (G : kz_G) (d mc ms : Nat) (Qr : Option Value → kz_M → Prop) (Qx : String → kz_M → Prop) (x0 : Nat) (x1 : Nat) (x2 : Int32)  (M : kz_M) (c sl : Nat) : Prop := kz_Z G (d + 11) mc ms mL_act Qr Qx 105 [(0, .ref x0), (1, .ref x1), (2, .int x2)] [] M c sl
def zL_act_135 (G : kz_G) (d mc ms : Nat) (Qr : Option Value → kz_M → Prop) (Qx : String → kz_M → Prop) (x0 : Nat) (x1 : Nat) (x4 : Int32) (x5 : Int32)  (M : kz_M) (c sl : Nat) : Prop := kz_Z G (d + 11) mc ms mL_act Qr Qx 135 [(0, .ref x0), (1, .ref x1), (4, .int x4), (5, .int x5)] [] M c sl
def zL_act_146 (G : kz_G) (d mc ms : Nat) (Qr : Option Value → kz_M → Prop) (Qx : String → kz_M → Prop) (x0 : Nat) (x1 : Nat) (x4 : Int32) (x5 : Int32)  (M : kz_M) (c sl : Nat) : Prop := kz_Z G (d + 11) mc ms mL_act Qr Qx 146 [(0, .ref x0), (1, .ref x1), (4, .int x4), (5, .int x5)] [] M c sl
def zL_act_158 (G : kz_G) (d mc ms : Nat) (Qr : Option Value → kz_M → Prop) (Qx : String → kz_M → Prop) (x0 : Nat) (x1 : Nat) (x4 : Int32) (x5 : Int32)  (M : kz_M) (c sl : Nat) : Prop := kz_Z G (d + 11) mc ms mL_act Qr Qx 158 [(0, .ref x0), (1, .ref x1), (4, .int x4), (5, .int x5)] [] M c sl
def zL_act_170 (G : kz_G) (d mc ms : Nat) (Qr : Option Value → kz_M → Prop) (Qx : String → kz_M → Prop) (x1 : Nat) (x4 : Int32) (x5 : Int32)  (M : kz_M) (c sl : Nat) : Prop := kz_Z G (d + 11) mc ms mL_act Qr Qx 170 [(1, .ref x1), (4, .int x4), (5, .int x5)] [] M c sl
def zL_act_187 (G : kz_G) (d mc ms : Nat) (Qr : Option Value → kz_M → Prop) (Qx : String → kz_M → Prop) (x0 : Nat) (x1 : Nat) (x2 : Int32)  (M : kz_M) (c sl : Nat) : Prop := kz_Z G (d + 11) mc ms mL_act Qr Qx 187 [(0, .ref x0), (1, .ref x1), (2, .int x2)] [] M c sl
def zL_act_204 (G : kz_G) (d mc ms : Nat) (Qr : Option Value → kz_M → Prop) (Qx : String → kz_M → Prop) (x0 : Nat) (x1 : Nat) (x2 : Int32)  (M : kz_M) (c sl : Nat) : Prop := kz_Z G (d + 11) mc ms mL_act Qr Qx 204 [(0, .ref x0), (1, .ref x1), (2, .int x2)] [] M c sl
def zL_act_229 (G : kz_G) (d mc ms : Nat) (Qr : Option Value → kz_M → Prop) (Qx : String → kz_M → Prop) (x0 : Nat) (x1 : Nat) (x2 : Int32)  (M : kz_M) (c sl : Nat) : Prop := kz_Z G (d + 11) mc ms mL_act Qr Qx 229 [(0, .ref x0), (1, .ref x1), (2, .int x2)] [] M c sl
def zL_act_248 (G : kz_G) (d mc ms : Nat) (Qr : Option Value → kz_M → Prop) (Qx : String → kz_M → Prop) (x0 : Nat) (x1 : Nat) (x4 : Int32)  (M : kz_M) (c sl : Nat) : Prop := kz_Z G (d + 11) mc ms mL_act Qr Qx 248 [(0, .ref x0), (1, .ref x1), (4, .int x4)] [] M c sl
theorem rL_act_0 {G : kz_G} {d : Nat} {mc ms : Nat} {Qr : Option Value → kz_M → Prop} {Qx : String → kz_M → Prop} {a0 : Nat} {p1 : Nat} {p2 : Int32} {p3 : Int32}  {M : kz_M} (h : kz_C G (d + 10) 0 0 mL_bits [.int p2, .int 0, .int 3] M (fun v M1 => ∃ r2 : Int32, v = some (.int r2) ∧ ((r2 = 0 → zL_act_48 G d mc ms Qr Qx a0 p1 p2 p3 M1 0 0) ∧ (r2 = 1 → zL_act_48 G d mc ms Qr Qx a0 p1 p2 p3 M1 0 0) ∧ (r2 = 2 → zL_act_48 G d mc ms Qr Qx a0 p1 p2 p3 M1 0 0) ∧ (r2 = 3 → zL_act_78 G d mc ms Qr Qx a0 p1 p2 M1 0 0) ∧ (r2 = 4 → zL_act_78 G d mc ms Qr Qx a0 p1 p2 M1 0 0) ∧ (r2 = 5 → zL_act_105 G d mc ms Qr Qx a0 p1 p2 M1 0 0) ∧ (r2 = 6 → zL_act_187 G d mc ms Qr Qx a0 p1 p2 M1 0 0) ∧ (¬ r2 = 0 → ¬ r2 = 1 → ¬ r2 = 2 → ¬ r2 = 3 → ¬ r2 = 4 → ¬ r2 = 5 → ¬ r2 = 6 → zL_act_229 G d mc ms Qr Qx a0 p1 p2 M1 0 0))) Qx) : kz_C G (d + 11) mc ms mL_act [.ref a0, .ref p1, .int p2, .int p3] M Qr Qx := by
  refine kz_enter (n := 3) kmL_act.1 (Nat.le_of_ble_eq_true rfl) (ls := [(0, .ref a0), (1, .ref p1), (2, .int p2), (3, .int p3)]) rfl ?_
  refine kz_iload_n (pc := 0) 2 (i := 2) rfl rfl dL_act_0 ?_
  refine kz_iconst (pc := 1) (v := 0) (by decide) dL_act_1 ?_
  refine kz_iconst (pc := 2) (v := 3) (by decide) dL_act_2 ?_
  refine kz_callS (pc := 3) (μ' := mL_bits) (d' := d + 10) (mc' := 0) (ms' := 0) (As := [.int p2, .int 0, .int 3]) (st := []) (c := 0) (sl := 0) kmL_bits kw_512 (by omega) rfl (Nat.le_of_ble_eq_true rfl) (Nat.zero_le _) (Nat.zero_le _) dL_act_3 (fun E M9 hx => kz_Tout rfl (Nat.zero_le _) (Nat.zero_le _) hx) (kz_Cmono (fun v M1 h => ?_) (fun _ _ h => h) h)
  obtain ⟨r2, rfl, h⟩ := h
  show kz_Z G (d + 11) mc ms mL_act Qr Qx 6 [(0, .ref a0), (1, .ref p1), (2, .int p2), (3, .int p3)] [.int r2] M1 0 0
  by_cases hk0 : r2 = 0
  · replace h := h.1 hk0
    refine kz_tableIn (pc := 6) (off := 42) (tgt := 48) (by rw [hk0]; decide) (by rw [hk0]; decide) (by rw [hk0]; decide) (by decide) dL_act_6 ?_
    exact h
  by_cases hk1 : r2 = 1
  · replace h := h.2.1 hk1
    refine kz_tableIn (pc := 6) (off := 42) (tgt := 48) (by rw [hk1]; decide) (by rw [hk1]; decide) (by rw [hk1]; decide) (by decide) dL_act_6 ?_
    exact h
  by_cases hk2 : r2 = 2
  · replace h := h.2.2.1 hk2
    refine kz_tableIn (pc := 6) (off := 42) (tgt := 48) (by rw [hk2]; decide) (by rw [hk2]; decide) (by rw [hk2]; decide) (by decide) dL_act_6 ?_
    exact h
  by_cases hk3 : r2 = 3
  · replace h := h.2.2.2.1 hk3
    refine kz_tableIn (pc := 6) (off := 72) (tgt := 78) (by rw [hk3]; decide) (by rw [hk3]; decide) (by rw [hk3]; decide) (by decide) dL_act_6 ?_
    refine kz_sub [0, 1, 2] rfl ?_
    exact h
  by_cases hk4 : r2 = 4
  · replace h := h.2.2.2.2.1 hk4
    refine kz_tableIn (pc := 6) (off := 72) (tgt := 78) (by rw [hk4]; decide) (by rw [hk4]; decide) (by rw [hk4]; decide) (by decide) dL_act_6 ?_
    refine kz_sub [0, 1, 2] rfl ?_
    exact h
  by_cases hk5 : r2 = 5
  · replace h := h.2.2.2.2.2.1 hk5
    refine kz_tableIn (pc := 6) (off := 99) (tgt := 105) (by rw [hk5]; decide) (by rw [hk5]; decide) (by rw [hk5]; decide) (by decide) dL_act_6 ?_
    refine kz_sub [0, 1, 2] rfl ?_
    exact h
  by_cases hk6 : r2 = 6
  · replace h := h.2.2.2.2.2.2.1 hk6
    refine kz_tableIn (pc := 6) (off := 181) (tgt := 187) (by rw [hk6]; decide) (by rw [hk6]; decide) (by rw [hk6]; decide) (by decide) dL_act_6 ?_
    refine kz_sub [0, 1, 2] rfl ?_
    exact h
  replace h := h.2.2.2.2.2.2.2 hk0 hk1 hk2 hk3 hk4 hk5 hk6
  refine kz_tableOut (pc := 6) (tgt := 229) (kz_swout (lo := 0) (n := 7) (by decide) (by decide) (kz_all7 (kz_swne (by decide) hk0) (kz_swne (by decide) hk1) (kz_swne (by decide) hk2) (kz_swne (by decide) hk3) (kz_swne (by decide) hk4) (kz_swne (by decide) hk5) (kz_swne (by decide) hk6))) (by decide) dL_act_6 ?_
  refine kz_sub [0, 1, 2] rfl ?_
  exact h
theorem rL_act_48 {G : kz_G} {d : Nat} {mc ms : Nat} {Qr : Option Value → kz_M → Prop} {Qx : String → kz_M → Prop} {x0 : Nat} {x1 : Nat} {x2 : Int32} {x3 : Int32}  {M : kz_M} {c sl : Nat} (hc : c ≤ mc) (hs : sl ≤ ms) (h : ∃ fs1 v2, (M).1 x0 = some (.inl (13, fs1)) ∧ fs1[0]? = some (.ref v2) ∧ ((∃ fs10, (M).1 v2 = some (.inl (16, fs10))) ∧ kz_C G (d + 10) 0 0 mJx4a65c_size_8abf5 [.ref v2] M (fun v M3 => ∃ r4 : Int32, v = some (.int r4) ∧ ((r4 = (12 : Int32) → Qr (some (.int 1)) M3) ∧ (¬ r4 = (12 : Int32) → (∃ fs9, (M3).1 x0 = some (.inl (13, fs9))) ∧ ∃ mc8 ms8, c + mc8 ≤ mc ∧ sl + ms8 ≤ ms ∧ kz_C G (d + 10) mc8 ms8 mL_submit [.ref x0, .ref x1, .int x2, .int x3] M3 (fun v M6 => ∃ r7 : Int32, v = some (.int r7) ∧ ((r7 = 0 → Qr (some (.int 0)) M6) ∧ (¬ r7 = 0 → Qr (some (.int 1)) M6))) Qx))) (fun _ _ => False))) : zL_act_48 G d mc ms Qr Qx x0 x1 x2 x3  M c sl := by
  show kz_Z G (d + 11) mc ms mL_act Qr Qx 48 [(0, .ref x0), (1, .ref x1), (2, .int x2), (3, .int x3)] [] M c sl
  refine kz_aload_n (pc := 48) 0 (v := .ref x0) (i := 0) rfl rfl rfl dL_act_48 ?_
  obtain ⟨fs1, v2, hM, hv, h⟩ := h
  refine kz_getf (pc := 49) (k := 0) kcL hM hv (by decide) kw_660 dL_act_49 ?_
  obtain ⟨⟨fs10, he⟩, h⟩ := h
  refine kz_callF (pc := 52) (μ' := mJx4a65c_size_8abf5) (x := ⟨"java/util/List", "size", "()I"⟩) (ci := 16) (q := (RJx4a65c, TJx4a65c, 3)) (b := v2) (d' := d + 10) (mc' := 0) (ms' := 0) (As := []) (st := []) (c := c) (sl := sl) kmJx4a65c_size_8abf5 rfl kw_820 (List.mem_of_getElem? (i := 0) rfl) (by decide +kernel) kw_818 kw_814 (by omega) rfl (Nat.le_of_ble_eq_true rfl) he rfl hc hs dL_act_52 (kz_Cmono (fun v M3 h => ?_) (fun _ _ h => h) h)
  obtain ⟨r4, rfl, h⟩ := h
  show kz_Z G (d + 11) mc ms mL_act Qr Qx 57 [(0, .ref x0), (1, .ref x1), (2, .int x2), (3, .int x3)] [.int r4] M3 c sl
  refine kz_bipush (pc := 57) (v := 12) (by decide) dL_act_57 ?_
  refine kz_icmp_eq (pc := 59) (tgt := 72) (by decide) dL_act_59 (fun hb => ?_) (fun hb => ?_)
  · replace h := h.1 hb
    refine kz_iconst (pc := 72) (v := 1) (by decide) dL_act_72 ?_
    refine kz_goto (pc := 73) (tgt := 77) (by decide) dL_act_73 ?_
    exact kz_zret (pc := 77) (ty := .boolean) rfl (by decide) hc hs dL_act_77 h
  · replace h := h.2 hb
    refine kz_aload_n (pc := 62) 0 (v := .ref x0) (i := 0) rfl rfl rfl dL_act_62 ?_
    refine kz_aload_n (pc := 63) 1 (v := .ref x1) (i := 1) rfl rfl rfl dL_act_63 ?_
    refine kz_iload_n (pc := 64) 2 (i := 2) rfl rfl dL_act_64 ?_
    refine kz_iload_n (pc := 65) 3 (i := 3) rfl rfl dL_act_65 ?_
    obtain ⟨⟨fs9, he⟩, h⟩ := h
    obtain ⟨mc8, ms8, hc8, hs8, h⟩ := h
    refine kz_callV (pc := 66) (μ' := mL_submit) (ci := 13) (q := (RL, TL, 15)) (b := x0) (d' := d + 10) (mc' := mc8) (ms' := ms8) (As := [.ref x1, .int x2, .int x3]) (st := []) (c := c) (sl := sl) kmL_submit kw_1005 (by omega) rfl (Nat.le_of_ble_eq_true rfl) he rfl rfl hc8 hs8 dL_act_66 (fun E M9 hx => kz_Tout rfl hc8 hs8 hx) (kz_Cmono (fun v M6 h => ?_) (fun _ _ h => h) h)
    obtain ⟨r7, rfl, h⟩ := h
    show kz_Z G (d + 11) mc ms mL_act Qr Qx 69 [(0, .ref x0), (1, .ref x1), (2, .int x2), (3, .int x3)] [.int r7] M6 (c + mc8) (sl + ms8)
    refine kz_if_eq (pc := 69) (tgt := 76) (by decide) dL_act_69 (fun hb => ?_) (fun hb => ?_)
    · replace h := h.1 hb
      refine kz_iconst (pc := 76) (v := 0) (by decide) dL_act_76 ?_
      exact kz_zret (pc := 77) (ty := .boolean) rfl (by decide) hc8 hs8 dL_act_77 h
    · replace h := h.2 hb
      refine kz_iconst (pc := 72) (v := 1) (by decide) dL_act_72 ?_
      refine kz_goto (pc := 73) (tgt := 77) (by decide) dL_act_73 ?_
      exact kz_zret (pc := 77) (ty := .boolean) rfl (by decide) hc8 hs8 dL_act_77 h
theorem rL_act_78 {G : kz_G} {d : Nat} {mc ms : Nat} {Qr : Option Value → kz_M → Prop} {Qx : String → kz_M → Prop} {x0 : Nat} {x1 : Nat} {x2 : Int32}  {M : kz_M} {c sl : Nat} (hc : c ≤ mc) (hs : sl ≤ ms) (h : ∃ fs1 v2, (M).1 x0 = some (.inl (13, fs1)) ∧ fs1[0]? = some (.ref v2) ∧ ((∃ fs10, (M).1 v2 = some (.inl (16, fs10))) ∧ kz_C G (d + 10) 0 0 mJx4a65c_isEmpty_aae02 [.ref v2] M (fun v M3 => ∃ r4 : Int32, v = some (.int r4) ∧ ((¬ r4 = 0 → Qr (some (.int 1)) M3) ∧ (r4 = 0 → (∃ fs9, (M3).1 x0 = some (.inl (13, fs9))) ∧ ∃ mc8 ms8, c + mc8 ≤ mc ∧ sl + ms8 ≤ ms ∧ kz_C G (d + 10) mc8 ms8 mL_appeal [.ref x0, .ref x1, .int x2] M3 (fun v M6 => ∃ r7 : Int32, v = some (.int r7) ∧ ((r7 = 0 → Qr (some (.int 0)) M6) ∧ (¬ r7 = 0 → Qr (some (.int 1)) M6))) Qx))) (fun _ _ => False))) : zL_act_78 G d mc ms Qr Qx x0 x1 x2  M c sl := by
  show kz_Z G (d + 11) mc ms mL_act Qr Qx 78 [(0, .ref x0), (1, .ref x1), (2, .int x2)] [] M c sl
  refine kz_aload_n (pc := 78) 0 (v := .ref x0) (i := 0) rfl rfl rfl dL_act_78 ?_
  obtain ⟨fs1, v2, hM, hv, h⟩ := h
  refine kz_getf (pc := 79) (k := 0) kcL hM hv (by decide) kw_660 dL_act_79 ?_
  obtain ⟨⟨fs10, he⟩, h⟩ := h
  refine kz_callF (pc := 82) (μ' := mJx4a65c_isEmpty_aae02) (x := ⟨"java/util/List", "isEmpty", "()Z"⟩) (ci := 16) (q := (RJx4a65c, TJx4a65c, 3)) (b := v2) (d' := d + 10) (mc' := 0) (ms' := 0) (As := []) (st := []) (c := c) (sl := sl) kmJx4a65c_isEmpty_aae02 rfl kw_934 (List.mem_of_getElem? (i := 1) rfl) (by decide +kernel) kw_932 kw_929 (by omega) rfl (Nat.le_of_ble_eq_true rfl) he rfl hc hs dL_act_82 (kz_Cmono (fun v M3 h => ?_) (fun _ _ h => h) h)
  obtain ⟨r4, rfl, h⟩ := h
  show kz_Z G (d + 11) mc ms mL_act Qr Qx 87 [(0, .ref x0), (1, .ref x1), (2, .int x2)] [.int r4] M3 c sl
  refine kz_if_ne (pc := 87) (tgt := 99) (by decide) dL_act_87 (fun hb => ?_) (fun hb => ?_)
  · replace h := h.1 hb
    refine kz_iconst (pc := 99) (v := 1) (by decide) dL_act_99 ?_
    refine kz_goto (pc := 100) (tgt := 104) (by decide) dL_act_100 ?_
    exact kz_zret (pc := 104) (ty := .boolean) rfl (by decide) hc hs dL_act_104 h
  · replace h := h.2 hb
    refine kz_aload_n (pc := 90) 0 (v := .ref x0) (i := 0) rfl rfl rfl dL_act_90 ?_
    refine kz_aload_n (pc := 91) 1 (v := .ref x1) (i := 1) rfl rfl rfl dL_act_91 ?_
    refine kz_iload_n (pc := 92) 2 (i := 2) rfl rfl dL_act_92 ?_
    obtain ⟨⟨fs9, he⟩, h⟩ := h
    obtain ⟨mc8, ms8, hc8, hs8, h⟩ := h
    refine kz_callV (pc := 93) (μ' := mL_appeal) (ci := 13) (q := (RL, TL, 15)) (b := x0) (d' := d + 10) (mc' := mc8) (ms' := ms8) (As := [.ref x1, .int x2]) (st := []) (c := c) (sl := sl) kmL_appeal kw_1450 (by omega) rfl (Nat.le_of_ble_eq_true rfl) he rfl rfl hc8 hs8 dL_act_93 (fun E M9 hx => kz_Tout rfl hc8 hs8 hx) (kz_Cmono (fun v M6 h => ?_) (fun _ _ h => h) h)
    obtain ⟨r7, rfl, h⟩ := h
    show kz_Z G (d + 11) mc ms mL_act Qr Qx 96 [(0, .ref x0), (1, .ref x1), (2, .int x2)] [.int r7] M6 (c + mc8) (sl + ms8)
    refine kz_if_eq (pc := 96) (tgt := 103) (by decide) dL_act_96 (fun hb => ?_) (fun hb => ?_)
    · replace h := h.1 hb
      refine kz_iconst (pc := 103) (v := 0) (by decide) dL_act_103 ?_
      exact kz_zret (pc := 104) (ty := .boolean) rfl (by decide) hc8 hs8 dL_act_104 h
    · replace h := h.2 hb
      refine kz_iconst (pc := 99) (v := 1) (by decide) dL_act_99 ?_
      refine kz_goto (pc := 100) (tgt := 104) (by decide) dL_act_100 ?_
      exact kz_zret (pc := 104) (ty := .boolean) rfl (by decide) hc8 hs8 dL_act_104 h
theorem rL_act_105 {G : kz_G} {d : Nat} {mc ms : Nat} {Qr : Option Value → kz_M → Prop} {Qx : String → kz_M → Prop} {x0 : Nat} {x1 : Nat} {x2 : Int32}  {M : kz_M} {c sl : Nat} (hc : c ≤ mc) (hs : sl ≤ ms) (h : kz_C G (d + 10) 0 0 mL_bits [.int x2, .int 3, .int 2] M (fun v M1 => ∃ r2 : Int32, v = some (.int r2) ∧ (∃ fs4 v5, (M1).1 x0 = some (.inl (13, fs4)) ∧ fs4[4]? = some (.int v5) ∧ (∃ fs6 v7, (M1).1 x0 = some (.inl (13, fs6)) ∧ fs6[1]? = some (.ref v7) ∧ (∃ n8 f9, (M1).1 v7 = some (.inr (.int, n8, .inl f9)) ∧ vp_in (r2 - r2 / 3 * 3) n8 ∧ (zL_act_135 G d mc ms Qr Qx x0 x1 (r2 - r2 / 3 * 3) (if 0 < (if (f9 (r2 - r2 / 3 * 3).toNatClampNeg) < v5 then (f9 (r2 - r2 / 3 * 3).toNatClampNeg) else v5) then (if (f9 (r2 - r2 / 3 * 3).toNatClampNeg) < v5 then (f9 (r2 - r2 / 3 * 3).toNatClampNeg) else v5) else 0) M1 c sl))))) Qx) : zL_act_105 G d mc ms Qr Qx x0 x1 x2  M c sl := by
  show kz_Z G (d + 11) mc ms mL_act Qr Qx 105 [(0, .ref x0), (1, .ref x1), (2, .int x2)] [] M c sl
  refine kz_iload_n (pc := 105) 2 (i := 2) rfl rfl dL_act_105 ?_
  refine kz_iconst (pc := 106) (v := 3) (by decide) dL_act_106 ?_
  refine kz_iconst (pc := 107) (v := 2) (by decide) dL_act_107 ?_
  refine kz_callS (pc := 108) (μ' := mL_bits) (d' := d + 10) (mc' := 0) (ms' := 0) (As := [.int x2, .int 3, .int 2]) (st := []) (c := c) (sl := sl) kmL_bits kw_512 (by omega) rfl (Nat.le_of_ble_eq_true rfl) hc hs dL_act_108 (fun E M9 hx => kz_Tout rfl hc hs hx) (kz_Cmono (fun v M1 h => ?_) (fun _ _ h => h) h)
  obtain ⟨r2, rfl, h⟩ := h
  show kz_Z G (d + 11) mc ms mL_act Qr Qx 111 [(0, .ref x0), (1, .ref x1), (2, .int x2)] [.int r2] M1 c sl
  refine kz_iconst (pc := 111) (v := 3) (by decide) dL_act_111 ?_
  refine kz_irem (pc := 112) (by decide) dL_act_112 ?_
  refine kz_istore (pc := 113) (i := 4) (ls' := [(0, .ref x0), (1, .ref x1), (2, .int x2)]) (by decide) rfl dL_act_113 ?_
  refine kz_iconst (pc := 115) (v := 0) (by decide) dL_act_115 ?_
  refine kz_aload_n (pc := 116) 1 (v := .ref x0) (i := 0) rfl rfl rfl dL_act_116 ?_
  obtain ⟨fs4, v5, hM, hv, h⟩ := h
  refine kz_getf (pc := 117) (k := 4) kcL hM hv (by decide) kw_664 dL_act_117 ?_
  refine kz_aload_n (pc := 120) 1 (v := .ref x0) (i := 0) rfl rfl rfl dL_act_120 ?_
  obtain ⟨fs6, v7, hM, hv, h⟩ := h
  refine kz_getf (pc := 121) (k := 1) kcL hM hv (by decide) kw_661 dL_act_121 ?_
  refine kz_iload (pc := 124) 0 (i := 4) rfl dL_act_124 ?_
  obtain ⟨n8, f9, hM, hi, h⟩ := h
  refine kz_iald (pc := 126) hM hi dL_act_126 ?_
  refine kz_mmin (pc := 127) kw_1495 kw_557 kw_9 kw_558 (by omega) (Nat.le_of_ble_eq_true rfl) hc hs dL_act_127 ?_
  refine kz_mmax (pc := 130) kw_1496 kw_539 kw_9 kw_540 (by omega) (Nat.le_of_ble_eq_true rfl) hc hs dL_act_130 ?_
  refine kz_istore (pc := 133) (i := 5) (ls' := [(4, .int (r2 - r2 / 3 * 3)), (0, .ref x0), (1, .ref x1), (2, .int x2)]) (by decide) rfl dL_act_133 ?_
  refine kz_sub [2, 3, 1, 0] rfl ?_
  exact h
theorem rL_act_135 {G : kz_G} {d : Nat} {mc ms : Nat} {Qr : Option Value → kz_M → Prop} {Qx : String → kz_M → Prop} {x0 : Nat} {x1 : Nat} {x4 : Int32} {x5 : Int32}  {M : kz_M} {c sl : Nat} (hc : c ≤ mc) (hs : sl ≤ ms) (h : ∃ fs1 v2, (M).1 x0 = some (.inl (13, fs1)) ∧ fs1[4]? = some (.int v2) ∧ (∃ fs3, (M).1 x0 = some (.inl (13, fs3)) ∧ 4 < fs3.length ∧ (zL_act_146 G d mc ms Qr Qx x0 x1 x4 x5 (kz_up M x0 (.inl (13, fs3.set 4 (.int (v2 - x5))))) c sl))) : zL_act_135 G d mc ms Qr Qx x0 x1 x4 x5  M c sl := by
  show kz_Z G (d + 11) mc ms mL_act Qr Qx 135 [(0, .ref x0), (1, .ref x1), (4, .int x4), (5, .int x5)] [] M c sl
  refine kz_aload_n (pc := 135) 0 (v := .ref x0) (i := 0) rfl rfl rfl dL_act_135 ?_
  refine kz_dup (pc := 136) rfl dL_act_136 ?_
  obtain ⟨fs1, v2, hM, hv, h⟩ := h
  refine kz_getf (pc := 137) (k := 4) kcL hM hv (by decide) kw_664 dL_act_137 ?_
  refine kz_iload (pc := 140) 3 (i := 5) rfl dL_act_140 ?_
  refine kz_isub (pc := 142) dL_act_142 ?_
  obtain ⟨fs3, hM, hlen, h⟩ := h
  refine kz_putf (pc := 143) (k := 4) kcL hM (by decide) hlen kw_664 rfl rfl rfl dL_act_143 ?_
  exact h
theorem rL_act_146 {G : kz_G} {d : Nat} {mc ms : Nat} {Qr : Option Value → kz_M → Prop} {Qx : String → kz_M → Prop} {x0 : Nat} {x1 : Nat} {x4 : Int32} {x5 : Int32}  {M : kz_M} {c sl : Nat} (hc : c ≤ mc) (hs : sl ≤ ms) (h : ∃ fs1 v2, (M).1 x0 = some (.inl (13, fs1)) ∧ fs1[1]? = some (.ref v2) ∧ (∃ n3 f4, (M).1 v2 = some (.inr (.int, n3, .inl f4)) ∧ vp_in x4 n3 ∧ (∃ n5 f6, (M).1 v2 = some (.inr (.int, n5, .inl f6)) ∧ vp_in x4 n5 ∧ (zL_act_158 G d mc ms Qr Qx x0 x1 x4 x5 (kz_up M v2 (.inr (.int, n5, .inl (upd f6 (x4 : Int32).toNatClampNeg ((f4 x4.toNatClampNeg) - x5))))) c sl)))) : zL_act_146 G d mc ms Qr Qx x0 x1 x4 x5  M c sl := by
  show kz_Z G (d + 11) mc ms mL_act Qr Qx 146 [(0, .ref x0), (1, .ref x1), (4, .int x4), (5, .int x5)] [] M c sl
  refine kz_aload_n (pc := 146) 0 (v := .ref x0) (i := 0) rfl rfl rfl dL_act_146 ?_
  obtain ⟨fs1, v2, hM, hv, h⟩ := h
  refine kz_getf (pc := 147) (k := 1) kcL hM hv (by decide) kw_661 dL_act_147 ?_
  refine kz_iload (pc := 150) 2 (i := 4) rfl dL_act_150 ?_
  refine kz_dup2_11 (pc := 152) rfl rfl dL_act_152 ?_
  obtain ⟨n3, f4, hM, hi, h⟩ := h
  refine kz_iald (pc := 153) hM hi dL_act_153 ?_
  refine kz_iload (pc := 154) 3 (i := 5) rfl dL_act_154 ?_
  refine kz_isub (pc := 156) dL_act_156 ?_
  obtain ⟨n5, f6, hM, hi, h⟩ := h
  refine kz_iast (pc := 157) hM hi dL_act_157 ?_
  exact h
theorem rL_act_158 {G : kz_G} {d : Nat} {mc ms : Nat} {Qr : Option Value → kz_M → Prop} {Qx : String → kz_M → Prop} {x0 : Nat} {x1 : Nat} {x4 : Int32} {x5 : Int32}  {M : kz_M} {c sl : Nat} (hc : c ≤ mc) (hs : sl ≤ ms) (h : ∃ fs1 v2, (M).1 x0 = some (.inl (13, fs1)) ∧ fs1[2]? = some (.ref v2) ∧ (∃ n3 f4, (M).1 v2 = some (.inr (.int, n3, .inl f4)) ∧ vp_in x4 n3 ∧ (∃ n5 f6, (M).1 v2 = some (.inr (.int, n5, .inl f6)) ∧ vp_in x4 n5 ∧ (zL_act_170 G d mc ms Qr Qx x1 x4 x5 (kz_up M v2 (.inr (.int, n5, .inl (upd f6 (x4 : Int32).toNatClampNeg ((f4 x4.toNatClampNeg) + x5))))) c sl)))) : zL_act_158 G d mc ms Qr Qx x0 x1 x4 x5  M c sl := by
  show kz_Z G (d + 11) mc ms mL_act Qr Qx 158 [(0, .ref x0), (1, .ref x1), (4, .int x4), (5, .int x5)] [] M c sl
  refine kz_aload_n (pc := 158) 0 (v := .ref x0) (i := 0) rfl rfl rfl dL_act_158 ?_
  obtain ⟨fs1, v2, hM, hv, h⟩ := h
  refine kz_getf (pc := 159) (k := 2) kcL hM hv (by decide) kw_662 dL_act_159 ?_
  refine kz_iload (pc := 162) 2 (i := 4) rfl dL_act_162 ?_
  refine kz_dup2_11 (pc := 164) rfl rfl dL_act_164 ?_
  obtain ⟨n3, f4, hM, hi, h⟩ := h
  refine kz_iald (pc := 165) hM hi dL_act_165 ?_
  refine kz_iload (pc := 166) 3 (i := 5) rfl dL_act_166 ?_
  refine kz_iadd (pc := 168) dL_act_168 ?_
  obtain ⟨n5, f6, hM, hi, h⟩ := h
  refine kz_iast (pc := 169) hM hi dL_act_169 ?_
  refine kz_sub [1, 2, 3] rfl ?_
  exact h
theorem rL_act_170 {G : kz_G} {d : Nat} {mc ms : Nat} {Qr : Option Value → kz_M → Prop} {Qx : String → kz_M → Prop} {x1 : Nat} {x4 : Int32} {x5 : Int32}  {M : kz_M} {c sl : Nat} (hc : c ≤ mc) (hs : sl ≤ ms) (h : (∃ fs4, (M).1 x1 = some (.inl (10, fs4))) ∧ ∃ mc3 ms3, c + mc3 ≤ mc ∧ sl + ms3 ≤ ms ∧ kz_C G (d + 10) mc3 ms3 mX11_payOut [.ref x1, .int x4] M (fun v M1 => ∃ r2 : Int32, v = some (.int r2) ∧ ((¬ r2 = x5 → Qr (some (.int 0)) M1) ∧ (r2 = x5 → Qr (some (.int 1)) M1))) Qx) : zL_act_170 G d mc ms Qr Qx x1 x4 x5  M c sl := by
  show kz_Z G (d + 11) mc ms mL_act Qr Qx 170 [(1, .ref x1), (4, .int x4), (5, .int x5)] [] M c sl
  refine kz_aload_n (pc := 170) 0 (v := .ref x1) (i := 1) rfl rfl rfl dL_act_170 ?_
  refine kz_iload (pc := 171) 1 (i := 4) rfl dL_act_171 ?_
  obtain ⟨⟨fs4, he⟩, h⟩ := h
  obtain ⟨mc3, ms3, hc3, hs3, h⟩ := h
  refine kz_callV (pc := 173) (μ' := mX11_payOut) (ci := 10) (q := (RX11, TX11, 10)) (b := x1) (d' := d + 10) (mc' := mc3) (ms' := ms3) (As := [.int x4]) (st := []) (c := c) (sl := sl) kmX11_payOut kw_1497 (by omega) rfl (Nat.le_of_ble_eq_true rfl) he rfl rfl hc3 hs3 dL_act_173 (fun E M9 hx => kz_Tout rfl hc3 hs3 hx) (kz_Cmono (fun v M1 h => ?_) (fun _ _ h => h) h)
  obtain ⟨r2, rfl, h⟩ := h
  show kz_Z G (d + 11) mc ms mL_act Qr Qx 176 [(1, .ref x1), (4, .int x4), (5, .int x5)] [.int r2] M1 (c + mc3) (sl + ms3)
  refine kz_iload (pc := 176) 2 (i := 5) rfl dL_act_176 ?_
  refine kz_icmp_ne (pc := 178) (tgt := 185) (by decide) dL_act_178 (fun hb => ?_) (fun hb => ?_)
  · replace h := h.1 hb
    refine kz_iconst (pc := 185) (v := 0) (by decide) dL_act_185 ?_
    exact kz_zret (pc := 186) (ty := .boolean) rfl (by decide) hc3 hs3 dL_act_186 h
  · replace h := h.2 hb
    refine kz_iconst (pc := 181) (v := 1) (by decide) dL_act_181 ?_
    refine kz_goto (pc := 182) (tgt := 186) (by decide) dL_act_182 ?_
    exact kz_zret (pc := 186) (ty := .boolean) rfl (by decide) hc3 hs3 dL_act_186 h
theorem rL_act_187 {G : kz_G} {d : Nat} {mc ms : Nat} {Qr : Option Value → kz_M → Prop} {Qx : String → kz_M → Prop} {x0 : Nat} {x1 : Nat} {x2 : Int32}  {M : kz_M} {c sl : Nat} (hc : c ≤ mc) (hs : sl ≤ ms) (h : ∃ fs1 v2, (M).1 x0 = some (.inl (13, fs1)) ∧ fs1[5]? = some (.int v2) ∧ (kz_C G (d + 10) 0 0 mL_bits [.int x2, .int 3, .int 1] M (fun v M3 => ∃ r4 : Int32, v = some (.int r4) ∧ (∃ fs6, (M3).1 x0 = some (.inl (13, fs6)) ∧ 5 < fs6.length ∧ (zL_act_204 G d mc ms Qr Qx x0 x1 x2 (kz_up M3 x0 (.inl (13, fs6.set 5 (.int (v2 + (1 + r4)))))) c sl))) Qx)) : zL_act_187 G d mc ms Qr Qx x0 x1 x2  M c sl := by
  show kz_Z G (d + 11) mc ms mL_act Qr Qx 187 [(0, .ref x0), (1, .ref x1), (2, .int x2)] [] M c sl
  refine kz_aload_n (pc := 187) 0 (v := .ref x0) (i := 0) rfl rfl rfl dL_act_187 ?_
  refine kz_dup (pc := 188) rfl dL_act_188 ?_
  obtain ⟨fs1, v2, hM, hv, h⟩ := h
  refine kz_getf (pc := 189) (k := 5) kcL hM hv (by decide) kw_665 dL_act_189 ?_
  refine kz_iconst (pc := 192) (v := 1) (by decide) dL_act_192 ?_
  refine kz_iload_n (pc := 193) 2 (i := 2) rfl rfl dL_act_193 ?_
  refine kz_iconst (pc := 194) (v := 3) (by decide) dL_act_194 ?_
  refine kz_iconst (pc := 195) (v := 1) (by decide) dL_act_195 ?_
  refine kz_callS (pc := 196) (μ' := mL_bits) (d' := d + 10) (mc' := 0) (ms' := 0) (As := [.int x2, .int 3, .int 1]) (st := [.int 1, .int v2, .ref x0]) (c := c) (sl := sl) kmL_bits kw_512 (by omega) rfl (Nat.le_of_ble_eq_true rfl) hc hs dL_act_196 (fun E M9 hx => kz_Tout rfl hc hs hx) (kz_Cmono (fun v M3 h => ?_) (fun _ _ h => h) h)
  obtain ⟨r4, rfl, h⟩ := h
  show kz_Z G (d + 11) mc ms mL_act Qr Qx 199 [(0, .ref x0), (1, .ref x1), (2, .int x2)] [.int r4, .int 1, .int v2, .ref x0] M3 c sl
  refine kz_iadd (pc := 199) dL_act_199 ?_
  refine kz_iadd (pc := 200) dL_act_200 ?_
  obtain ⟨fs6, hM, hlen, h⟩ := h
  refine kz_putf (pc := 201) (k := 5) kcL hM (by decide) hlen kw_665 rfl rfl rfl dL_act_201 ?_
  exact h
theorem rL_act_204 {G : kz_G} {d : Nat} {mc ms : Nat} {Qr : Option Value → kz_M → Prop} {Qx : String → kz_M → Prop} {x0 : Nat} {x1 : Nat} {x2 : Int32}  {M : kz_M} {c sl : Nat} (hc : c ≤ mc) (hs : sl ≤ ms) (h : kz_C G (d + 10) 0 0 mL_bits [.int x2, .int 3, .int 1] M (fun v M1 => ∃ r2 : Int32, v = some (.int r2) ∧ ((∃ fs9, (M1).1 x1 = some (.inl (10, fs9))) ∧ ∃ mc6 ms6, c + mc6 ≤ mc ∧ sl + ms6 ≤ ms ∧ kz_C G (d + 10) mc6 ms6 mX11_pass [.ref x1, .int (1 + r2)] M1 (fun v M4 => ∃ r5 : Int32, v = some (.int r5) ∧ (∃ fs7 v8, (M4).1 x0 = some (.inl (13, fs7)) ∧ fs7[5]? = some (.int v8) ∧ ((¬ r5 = v8 → Qr (some (.int 0)) M4) ∧ (r5 = v8 → Qr (some (.int 1)) M4)))) Qx)) Qx) : zL_act_204 G d mc ms Qr Qx x0 x1 x2  M c sl := by
  show kz_Z G (d + 11) mc ms mL_act Qr Qx 204 [(0, .ref x0), (1, .ref x1), (2, .int x2)] [] M c sl
  refine kz_aload_n (pc := 204) 1 (v := .ref x1) (i := 1) rfl rfl rfl dL_act_204 ?_
  refine kz_iconst (pc := 205) (v := 1) (by decide) dL_act_205 ?_
  refine kz_iload_n (pc := 206) 2 (i := 2) rfl rfl dL_act_206 ?_
  refine kz_iconst (pc := 207) (v := 3) (by decide) dL_act_207 ?_
  refine kz_iconst (pc := 208) (v := 1) (by decide) dL_act_208 ?_
  refine kz_callS (pc := 209) (μ' := mL_bits) (d' := d + 10) (mc' := 0) (ms' := 0) (As := [.int x2, .int 3, .int 1]) (st := [.int 1, .ref x1]) (c := c) (sl := sl) kmL_bits kw_512 (by omega) rfl (Nat.le_of_ble_eq_true rfl) hc hs dL_act_209 (fun E M9 hx => kz_Tout rfl hc hs hx) (kz_Cmono (fun v M1 h => ?_) (fun _ _ h => h) h)
  obtain ⟨r2, rfl, h⟩ := h
  show kz_Z G (d + 11) mc ms mL_act Qr Qx 212 [(0, .ref x0), (1, .ref x1), (2, .int x2)] [.int r2, .int 1, .ref x1] M1 c sl
  refine kz_iadd (pc := 212) dL_act_212 ?_
  obtain ⟨⟨fs9, he⟩, h⟩ := h
  obtain ⟨mc6, ms6, hc6, hs6, h⟩ := h
  refine kz_callV (pc := 213) (μ' := mX11_pass) (ci := 10) (q := (RX11, TX11, 10)) (b := x1) (d' := d + 10) (mc' := mc6) (ms' := ms6) (As := [.int (1 + r2)]) (st := []) (c := c) (sl := sl) kmX11_pass kw_1508 (by omega) rfl (Nat.le_of_ble_eq_true rfl) he rfl rfl hc6 hs6 dL_act_213 (fun E M9 hx => kz_Tout rfl hc6 hs6 hx) (kz_Cmono (fun v M4 h => ?_) (fun _ _ h => h) h)
  obtain ⟨r5, rfl, h⟩ := h
  show kz_Z G (d + 11) mc ms mL_act Qr Qx 216 [(0, .ref x0), (1, .ref x1), (2, .int x2)] [.int r5] M4 (c + mc6) (sl + ms6)
  refine kz_aload_n (pc := 216) 0 (v := .ref x0) (i := 0) rfl rfl rfl dL_act_216 ?_
  obtain ⟨fs7, v8, hM, hv, h⟩ := h
  refine kz_getf (pc := 217) (k := 5) kcL hM hv (by decide) kw_665 dL_act_217 ?_
  refine kz_icmp_ne (pc := 220) (tgt := 227) (by decide) dL_act_220 (fun hb => ?_) (fun hb => ?_)
  · replace h := h.1 hb
    refine kz_iconst (pc := 227) (v := 0) (by decide) dL_act_227 ?_
    exact kz_zret (pc := 228) (ty := .boolean) rfl (by decide) hc6 hs6 dL_act_228 h
  · replace h := h.2 hb
    refine kz_iconst (pc := 223) (v := 1) (by decide) dL_act_223 ?_
    refine kz_goto (pc := 224) (tgt := 228) (by decide) dL_act_224 ?_
    exact kz_zret (pc := 228) (ty := .boolean) rfl (by decide) hc6 hs6 dL_act_228 h
theorem rL_act_229 {G : kz_G} {d : Nat} {mc ms : Nat} {Qr : Option Value → kz_M → Prop} {Qx : String → kz_M → Prop} {x0 : Nat} {x1 : Nat} {x2 : Int32}  {M : kz_M} {c sl : Nat} (hc : c ≤ mc) (hs : sl ≤ ms) (h : ∃ fs1 v2, (M).1 x0 = some (.inl (13, fs1)) ∧ fs1[6]? = some (.int v2) ∧ (kz_C G (d + 10) 0 0 mL_bits [.int x2, .int 3, .int 4] M (fun v M3 => ∃ r4 : Int32, v = some (.int r4) ∧ (∃ fs6, (M3).1 x0 = some (.inl (13, fs6)) ∧ 6 < fs6.length ∧ (zL_act_248 G d mc ms Qr Qx x0 x1 v2 (kz_up M3 x0 (.inl (13, fs6.set 6 (.int (6 + r4))))) c sl))) Qx)) : zL_act_229 G d mc ms Qr Qx x0 x1 x2  M c sl := by
  show kz_Z G (d + 11) mc ms mL_act Qr Qx 229 [(0, .ref x0), (1, .ref x1), (2, .int x2)] [] M c sl
  refine kz_aload_n (pc := 229) 0 (v := .ref x0) (i := 0) rfl rfl rfl dL_act_229 ?_
  obtain ⟨fs1, v2, hM, hv, h⟩ := h
  refine kz_getf (pc := 230) (k := 6) kcL hM hv (by decide) kw_666 dL_act_230 ?_
  refine kz_istore (pc := 233) (i := 4) (ls' := [(0, .ref x0), (1, .ref x1), (2, .int x2)]) (by decide) rfl dL_act_233 ?_
  refine kz_aload_n (pc := 235) 1 (v := .ref x0) (i := 0) rfl rfl rfl dL_act_235 ?_
  refine kz_bipush (pc := 236) (v := 6) (by decide) dL_act_236 ?_
  refine kz_iload_n (pc := 238) 3 (i := 2) rfl rfl dL_act_238 ?_
  refine kz_iconst (pc := 239) (v := 3) (by decide) dL_act_239 ?_
  refine kz_iconst (pc := 240) (v := 4) (by decide) dL_act_240 ?_
  refine kz_callS (pc := 241) (μ' := mL_bits) (d' := d + 10) (mc' := 0) (ms' := 0) (As := [.int x2, .int 3, .int 4]) (st := [.int 6, .ref x0]) (c := c) (sl := sl) kmL_bits kw_512 (by omega) rfl (Nat.le_of_ble_eq_true rfl) hc hs dL_act_241 (fun E M9 hx => kz_Tout rfl hc hs hx) (kz_Cmono (fun v M3 h => ?_) (fun _ _ h => h) h)
  obtain ⟨r4, rfl, h⟩ := h
  show kz_Z G (d + 11) mc ms mL_act Qr Qx 244 [(4, .int v2), (0, .ref x0), (1, .ref x1), (2, .int x2)] [.int r4, .int 6, .ref x0] M3 c sl
  refine kz_iadd (pc := 244) dL_act_244 ?_
  obtain ⟨fs6, hM, hlen, h⟩ := h
  refine kz_putf (pc := 245) (k := 6) kcL hM (by decide) hlen kw_666 rfl rfl rfl dL_act_245 ?_
  refine kz_sub [1, 2, 0] rfl ?_
  exact h
theorem rL_act_248 {G : kz_G} {d : Nat} {mc ms : Nat} {Qr : Option Value → kz_M → Prop} {Qx : String → kz_M → Prop} {x0 : Nat} {x1 : Nat} {x4 : Int32}  {M : kz_M} {c sl : Nat} (hc : c ≤ mc) (hs : sl ≤ ms) (h : ∃ fs1 v2, (M).1 x0 = some (.inl (13, fs1)) ∧ fs1[6]? = some (.int v2) ∧ ((∃ fs6, (M).1 x1 = some (.inl (10, fs6))) ∧ ∃ mc5 ms5, c + mc5 ≤ mc ∧ sl + ms5 ≤ ms ∧ kz_C G (d + 10) mc5 ms5 mX11_set [.ref x1, .int 0, .int v2] M (fun v M3 => ∃ r4 : Int32, v = some (.int r4) ∧ ((¬ r4 = x4 → Qr (some (.int 0)) M3) ∧ (r4 = x4 → Qr (some (.int 1)) M3))) Qx)) : zL_act_248 G d mc ms Qr Qx x0 x1 x4  M c sl := by
  show kz_Z G (d + 11) mc ms mL_act Qr Qx 248 [(0, .ref x0), (1, .ref x1), (4, .int x4)] [] M c sl
  refine kz_aload_n (pc := 248) 1 (v := .ref x1) (i := 1) rfl rfl rfl dL_act_248 ?_
  refine kz_iconst (pc := 249) (v := 0) (by decide) dL_act_249 ?_
  refine kz_aload_n (pc := 250) 0 (v := .ref x0) (i := 0) rfl rfl rfl dL_act_250 ?_
  obtain ⟨fs1, v2, hM, hv, h⟩ := h
  refine kz_getf (pc := 251) (k := 6) kcL hM hv (by decide) kw_666 dL_act_251 ?_
  obtain ⟨⟨fs6, he⟩, h⟩ := h
  obtain ⟨mc5, ms5, hc5, hs5, h⟩ := h
  refine kz_callV (pc := 254) (μ' := mX11_set) (ci := 10) (q := (RX11, TX11, 10)) (b := x1) (d' := d + 10) (mc' := mc5) (ms' := ms5) (As := [.int 0, .int v2]) (st := []) (c := c) (sl := sl) kmX11_set kw_1529 (by omega) rfl (Nat.le_of_ble_eq_true rfl) he rfl rfl hc5 hs5 dL_act_254 (fun E M9 hx => kz_Tout rfl hc5 hs5 hx) (kz_Cmono (fun v M3 h => ?_) (fun _ _ h => h) h)
  obtain ⟨r4, rfl, h⟩ := h
  show kz_Z G (d + 11) mc ms mL_act Qr Qx 257 [(0, .ref x0), (1, .ref x1), (4, .int x4)] [.int r4] M3 (c + mc5) (sl + ms5)
  refine kz_iload (pc := 257) 2 (i := 4) rfl dL_act_257 ?_
  refine kz_icmp_ne (pc := 259) (tgt := 266) (by decide) dL_act_259 (fun hb => ?_) (fun hb => ?_)
  · replace h := h.1 hb
    refine kz_iconst (pc := 266) (v := 0) (by decide) dL_act_266 ?_
    exact kz_zret (pc := 267) (ty := .boolean) rfl (by decide) hc5 hs5 dL_act_267 h
  · replace h := h.2 hb
    refine kz_iconst (pc := 262) (v := 1) (by decide) dL_act_262 ?_
    refine kz_goto (pc := 263) (tgt := 267) (by decide) dL_act_263 ?_
    exact kz_zret (pc := 267) (ty := .boolean) rfl (by decide) hc5 hs5 dL_act_267 h
theorem dL_law_0 : decode cL_law 0 = .ok (.new 31, 3) := by decide +kernel
theorem dL_law_3 : decode cL_law 3 = .ok (.dup, 1) := by decide +kernel
theorem dL_law_4 : decode cL_law 4 = .ok (.aload_n 0, 1) := by decide +kernel
theorem dL_law_5 : decode cL_law 5 = .ok (.invokespecial 276, 3) := by decide +kernel
theorem dL_law_8 : decode cL_law 8 = .ok (.astore_n 1, 1) := by decide +kernel
theorem dL_law_9 : decode cL_law 9 = .ok (.new 12, 3) := by decide +kernel
theorem dL_law_12 : decode cL_law 12 = .ok (.dup, 1) := by decide +kernel
theorem dL_law_13 : decode cL_law 13 = .ok (.invokespecial 279, 3) := by decide +kernel
theorem dL_law_16 : decode cL_law 16 = .ok (.astore_n 2, 1) := by decide +kernel
theorem dL_law_17 : decode cL_law 17 = .ok (.aload_n 2, 1) := by decide +kernel
theorem dL_law_18 : decode cL_law 18 = .ok (.aload_n 1, 1) := by decide +kernel
theorem dL_law_19 : decode cL_law 19 = .ok (.getfield 68, 3) := by decide +kernel
theorem dL_law_22 : decode cL_law 22 = .ok (.invokevirtual 228, 3) := by decide +kernel
theorem dL_law_25 : decode cL_law 25 = .ok (.invokestatic 232, 3) := by decide +kernel
theorem dL_law_28 : decode cL_law 28 = .ok (.aload_n 2, 1) := by decide +kernel
theorem dL_law_29 : decode cL_law 29 = .ok (.invokevirtual 280, 3) := by decide +kernel
theorem dL_law_32 : decode cL_law 32 = .ok (.iconst 3, 1) := by decide +kernel
theorem dL_law_33 : decode cL_law 33 = .ok (.if_icmp .ne 11, 3) := by decide +kernel
theorem dL_law_36 : decode cL_law 36 = .ok (.aload_n 1, 1) := by decide +kernel
theorem dL_law_37 : decode cL_law 37 = .ok (.aload_n 2, 1) := by decide +kernel
theorem dL_law_38 : decode cL_law 38 = .ok (.invokevirtual 283, 3) := by decide +kernel
theorem dL_law_41 : decode cL_law 41 = .ok (.ifCond .ne 5, 3) := by decide +kernel
theorem dL_law_44 : decode cL_law 44 = .ok (.iconst 0, 1) := by decide +kernel
theorem dL_law_45 : decode cL_law 45 = .ok (.ireturn, 1) := by decide +kernel
theorem dL_law_46 : decode cL_law 46 = .ok (.iconst 0, 1) := by decide +kernel
theorem dL_law_47 : decode cL_law 47 = .ok (.istore_n 3, 1) := by decide +kernel
theorem dL_law_48 : decode cL_law 48 = .ok (.iload_n 3, 1) := by decide +kernel
theorem dL_law_49 : decode cL_law 49 = .ok (.bipush 24, 2) := by decide +kernel
theorem dL_law_51 : decode cL_law 51 = .ok (.if_icmp .ge 45, 3) := by decide +kernel
theorem dL_law_54 : decode cL_law 54 = .ok (.aload_n 1, 1) := by decide +kernel
theorem dL_law_55 : decode cL_law 55 = .ok (.aload_n 2, 1) := by decide +kernel
theorem dL_law_56 : decode cL_law 56 = .ok (.aload_n 0, 1) := by decide +kernel
theorem dL_law_57 : decode cL_law 57 = .ok (.iconst 1, 1) := by decide +kernel
theorem dL_law_58 : decode cL_law 58 = .ok (.iconst 2, 1) := by decide +kernel
theorem dL_law_59 : decode cL_law 59 = .ok (.iload_n 3, 1) := by decide +kernel
theorem dL_law_60 : decode cL_law 60 = .ok (.imul, 1) := by decide +kernel
theorem dL_law_61 : decode cL_law 61 = .ok (.iadd, 1) := by decide +kernel
theorem dL_law_62 : decode cL_law 62 = .ok (.invokestatic 72, 3) := by decide +kernel
theorem dL_law_65 : decode cL_law 65 = .ok (.aload_n 0, 1) := by decide +kernel
theorem dL_law_66 : decode cL_law 66 = .ok (.iconst 2, 1) := by decide +kernel
theorem dL_law_67 : decode cL_law 67 = .ok (.iconst 2, 1) := by decide +kernel
theorem dL_law_68 : decode cL_law 68 = .ok (.iload_n 3, 1) := by decide +kernel
theorem dL_law_69 : decode cL_law 69 = .ok (.imul, 1) := by decide +kernel
theorem dL_law_70 : decode cL_law 70 = .ok (.iadd, 1) := by decide +kernel
theorem dL_law_71 : decode cL_law 71 = .ok (.invokestatic 72, 3) := by decide +kernel
theorem dL_law_74 : decode cL_law 74 = .ok (.invokevirtual 287, 3) := by decide +kernel
theorem dL_law_77 : decode cL_law 77 = .ok (.ifCond .eq 11, 3) := by decide +kernel
theorem dL_law_80 : decode cL_law 80 = .ok (.aload_n 1, 1) := by decide +kernel
theorem dL_law_81 : decode cL_law 81 = .ok (.aload_n 2, 1) := by decide +kernel
theorem dL_law_82 : decode cL_law 82 = .ok (.invokevirtual 283, 3) := by decide +kernel
theorem dL_law_85 : decode cL_law 85 = .ok (.ifCond .ne 5, 3) := by decide +kernel
theorem dL_law_88 : decode cL_law 88 = .ok (.iconst 0, 1) := by decide +kernel
theorem dL_law_89 : decode cL_law 89 = .ok (.ireturn, 1) := by decide +kernel
theorem dL_law_90 : decode cL_law 90 = .ok (.iinc 3 1, 3) := by decide +kernel
theorem dL_law_93 : decode cL_law 93 = .ok (.goto (-45), 3) := by decide +kernel
theorem dL_law_96 : decode cL_law 96 = .ok (.iconst 1, 1) := by decide +kernel
theorem dL_law_97 : decode cL_law 97 = .ok (.ireturn, 1) := by decide +kernel
def zL_law_0 (G : kz_G) (d mc ms : Nat) (Qr : Option Value → kz_M → Prop) (Qx : String → kz_M → Prop) (x0 : Nat)  (M : kz_M) (c sl : Nat) : Prop := kz_Z G (d + 12) mc ms mL_law Qr Qx 0 [(0, .retAddr x0)] [] M c sl
def zL_law_16 (G : kz_G) (d mc ms : Nat) (Qr : Option Value → kz_M → Prop) (Qx : String → kz_M → Prop) (x0 : Nat) (x1 : Nat) (s0 : Nat) (M : kz_M) (c sl : Nat) : Prop := kz_Z G (d + 12) mc ms mL_law Qr Qx 16 [(0, .retAddr x0), (1, .ref x1)] [.ref s0] M c sl
def zL_law_46 (G : kz_G) (d mc ms : Nat) (Qr : Option Value → kz_M → Prop) (Qx : String → kz_M → Prop) (x0 : Nat) (x1 : Nat) (x2 : Nat)  (M : kz_M) (c sl : Nat) : Prop := kz_Z G (d + 12) mc ms mL_law Qr Qx 46 [(0, .retAddr x0), (1, .ref x1), (2, .ref x2)] [] M c sl
def zL_law_48 (G : kz_G) (d mc ms : Nat) (Qr : Option Value → kz_M → Prop) (Qx : String → kz_M → Prop) (x0 : Nat) (x1 : Nat) (x2 : Nat) (x3 : Int32)  (M : kz_M) (c sl : Nat) : Prop := kz_Z G (d + 12) mc ms mL_law Qr Qx 48 [(0, .retAddr x0), (1, .ref x1), (2, .ref x2), (3, .int x3)] [] M c sl
theorem rL_law_0 {G : kz_G} {d : Nat} {mc ms : Nat} {Qr : Option Value → kz_M → Prop} {Qx : String → kz_M → Prop} {x0 : Nat}  {M : kz_M} {c sl : Nat} (hc : c ≤ mc) (hs : sl ≤ ms) (h : c + 1 ≤ mc ∧ sl + 15 ≤ ms ∧ (∃ mc4 ms4, c + 1 + mc4 ≤ mc ∧ sl + 15 + ms4 ≤ ms ∧ kz_C G (d + 11) mc4 ms4 mL_init [.ref ((M).2), .retAddr x0] (kz_nw M (.inl (13, [.null, .null, .null, .null, .int 0, .int 0, .int 0, .int 0, .int 0, .int 0, .int 0, .int 0, .int 0, .null, .null]))) (fun v M2 => v = none ∧ (c + 1 + mc4 + 1 ≤ mc ∧ sl + 15 + ms4 + 10 ≤ ms ∧ (∃ mc8 ms8, c + 1 + mc4 + 1 + mc8 ≤ mc ∧ sl + 15 + ms4 + 10 + ms8 ≤ ms ∧ kz_C G (d + 11) mc8 ms8 mX11_init [.ref ((M2).2)] (kz_nw M2 (.inl (10, [.null, .null, .null, .null, .null, .null, .null, .int 0, .int 0, .int 0]))) (fun v M6 => v = none ∧ (zL_law_16 G d mc ms Qr Qx x0 ((M).2) ((M2).2) M6 (c + 1 + mc4 + 1 + mc8) (sl + 15 + ms4 + 10 + ms8))) Qx))) Qx)) : zL_law_0 G d mc ms Qr Qx x0  M c sl := by
  show kz_Z G (d + 12) mc ms mL_law Qr Qx 0 [(0, .retAddr x0)] [] M c sl
  obtain ⟨hc1, hs1, h⟩ := h
  refine kz_newc (pc := 0) kcL rfl kw_447 kw_448 kw_0 hc1 hs1 dL_law_0 ?_
  refine kz_dup (pc := 3) rfl dL_law_3 ?_
  refine kz_aload_n (pc := 4) 0 (v := .retAddr x0) (i := 0) rfl rfl rfl dL_law_4 ?_
  obtain ⟨mc4, ms4, hc4, hs4, h⟩ := h
  refine kz_callI (pc := 5) (μ' := mL_init) (b := (M).2) (d' := d + 11) (mc' := mc4) (ms' := ms4) (As := [.retAddr x0]) (st := [.ref ((M).2)]) (c := c + 1) (sl := sl + 15) kmL_init kw_449 (by omega) rfl (Nat.le_of_ble_eq_true rfl) hc4 hs4 dL_law_5 (fun E M9 hx => kz_Tout rfl hc4 hs4 hx) (kz_Cmono (fun v M2 h => ?_) (fun _ _ h => h) h)
  obtain ⟨rfl, h⟩ := h
  show kz_Z G (d + 12) mc ms mL_law Qr Qx 8 [(0, .retAddr x0)] [.ref ((M).2)] M2 (c + 1 + mc4) (sl + 15 + ms4)
  refine kz_astore_n (pc := 8) (i := 1) (v := .ref ((M).2)) (ls' := [(0, .retAddr x0)]) rfl rfl (by decide) rfl dL_law_8 ?_
  obtain ⟨hc5, hs5, h⟩ := h
  refine kz_newc (pc := 9) kcX11 rfl kw_37 kw_38 kw_16 hc5 hs5 dL_law_9 ?_
  refine kz_dup (pc := 12) rfl dL_law_12 ?_
  obtain ⟨mc8, ms8, hc8, hs8, h⟩ := h
  refine kz_callI (pc := 13) (μ' := mX11_init) (b := (M2).2) (d' := d + 11) (mc' := mc8) (ms' := ms8) (As := []) (st := [.ref ((M2).2)]) (c := c + 1 + mc4 + 1) (sl := sl + 15 + ms4 + 10) kmX11_init kw_39 (by omega) rfl (Nat.le_of_ble_eq_true rfl) hc8 hs8 dL_law_13 (fun E M9 hx => kz_Tout rfl hc8 hs8 hx) (kz_Cmono (fun v M6 h => ?_) (fun _ _ h => h) h)
  obtain ⟨rfl, h⟩ := h
  show kz_Z G (d + 12) mc ms mL_law Qr Qx 16 [(1, .ref ((M).2)), (0, .retAddr x0)] [.ref ((M2).2)] M6 (c + 1 + mc4 + 1 + mc8) (sl + 15 + ms4 + 10 + ms8)
  refine kz_sub [1, 0] rfl ?_
  exact h
theorem rL_law_16 {G : kz_G} {d : Nat} {mc ms : Nat} {Qr : Option Value → kz_M → Prop} {Qx : String → kz_M → Prop} {x0 : Nat} {x1 : Nat} {s0 : Nat} {M : kz_M} {c sl : Nat} (hc : c ≤ mc) (hs : sl ≤ ms) (h : ∃ fs1 v2, (M).1 x1 = some (.inl (13, fs1)) ∧ fs1[14]? = some (.ref v2) ∧ ((∃ fs18, (M).1 v2 = some (.inl (15, fs18))) ∧ ∃ mc5 ms5, c + mc5 ≤ mc ∧ sl + ms5 ≤ ms ∧ kz_C G (d + 11) mc5 ms5 mJ4_toString_0e30d [.ref v2] M (fun v M3 => ∃ r4 : Nat, v = some (.ref r4) ∧ (∃ mc8 ms8, c + mc5 + mc8 ≤ mc ∧ sl + ms5 + ms8 ≤ ms ∧ kz_C G (d + 11) mc8 ms8 mL_told [.ref s0, .ref r4] M3 (fun v M6 => v = none ∧ ((∃ fs16, (M6).1 s0 = some (.inl (10, fs16))) ∧ kz_C G (d + 11) 0 0 mX11_loadOffice [.ref s0] M6 (fun v M9 => ∃ r10 : Int32, v = some (.int r10) ∧ ((¬ r10 = (3 : Int32) → Qr (some (.int 0)) M9) ∧ (r10 = (3 : Int32) → (∃ fs15, (M9).1 x1 = some (.inl (13, fs15))) ∧ ∃ mc14 ms14, c + mc5 + mc8 + mc14 ≤ mc ∧ sl + ms5 + ms8 + ms14 ≤ ms ∧ kz_C G (d + 11) mc14 ms14 mL_isSame [.ref x1, .ref s0] M9 (fun v M12 => ∃ r13 : Int32, v = some (.int r13) ∧ ((¬ r13 = 0 → zL_law_46 G d mc ms Qr Qx x0 x1 s0 M12 (c + mc5 + mc8 + mc14) (sl + ms5 + ms8 + ms14)) ∧ (r13 = 0 → Qr (some (.int 0)) M12))) Qx))) Qx)) Qx)) Qx)) : zL_law_16 G d mc ms Qr Qx x0 x1 s0 M c sl := by
  show kz_Z G (d + 12) mc ms mL_law Qr Qx 16 [(0, .retAddr x0), (1, .ref x1)] [.ref s0] M c sl
  refine kz_astore_n (pc := 16) (i := 2) (v := .ref s0) (ls' := [(0, .retAddr x0), (1, .ref x1)]) rfl rfl (by decide) rfl dL_law_16 ?_
  refine kz_aload_n (pc := 17) 0 (v := .ref s0) (i := 2) rfl rfl rfl dL_law_17 ?_
  refine kz_aload_n (pc := 18) 2 (v := .ref x1) (i := 1) rfl rfl rfl dL_law_18 ?_
  obtain ⟨fs1, v2, hM, hv, h⟩ := h
  refine kz_getf (pc := 19) (k := 14) kcL hM hv (by decide) kw_674 dL_law_19 ?_
  obtain ⟨⟨fs18, he⟩, h⟩ := h
  obtain ⟨mc5, ms5, hc5, hs5, h⟩ := h
  refine kz_callV (pc := 22) (μ' := mJ4_toString_0e30d) (ci := 15) (q := (RJ4, TJ4, 4)) (b := v2) (d' := d + 11) (mc' := mc5) (ms' := ms5) (As := []) (st := [.ref s0]) (c := c) (sl := sl) kmJ4_toString_0e30d kw_1014 (by omega) rfl (Nat.le_of_ble_eq_true rfl) he rfl rfl hc5 hs5 dL_law_22 (fun E M9 hx => kz_Tout rfl hc5 hs5 hx) (kz_Cmono (fun v M3 h => ?_) (fun _ _ h => h) h)
  obtain ⟨r4, rfl, h⟩ := h
  show kz_Z G (d + 12) mc ms mL_law Qr Qx 25 [(2, .ref s0), (0, .retAddr x0), (1, .ref x1)] [.ref r4, .ref s0] M3 (c + mc5) (sl + ms5)
  obtain ⟨mc8, ms8, hc8, hs8, h⟩ := h
  refine kz_callS (pc := 25) (μ' := mL_told) (d' := d + 11) (mc' := mc8) (ms' := ms8) (As := [.ref s0, .ref r4]) (st := []) (c := c + mc5) (sl := sl + ms5) kmL_told kw_422 (by omega) rfl (Nat.le_of_ble_eq_true rfl) hc8 hs8 dL_law_25 (fun E M9 hx => kz_Tout rfl hc8 hs8 hx) (kz_Cmono (fun v M6 h => ?_) (fun _ _ h => h) h)
  obtain ⟨rfl, h⟩ := h
  show kz_Z G (d + 12) mc ms mL_law Qr Qx 28 [(2, .ref s0), (0, .retAddr x0), (1, .ref x1)] [] M6 (c + mc5 + mc8) (sl + ms5 + ms8)
  refine kz_aload_n (pc := 28) 0 (v := .ref s0) (i := 2) rfl rfl rfl dL_law_28 ?_
  obtain ⟨⟨fs16, he⟩, h⟩ := h
  refine kz_callV (pc := 29) (μ' := mX11_loadOffice) (ci := 10) (q := (RX11, TX11, 10)) (b := s0) (d' := d + 11) (mc' := 0) (ms' := 0) (As := []) (st := []) (c := c + mc5 + mc8) (sl := sl + ms5 + ms8) kmX11_loadOffice kw_313 (by omega) rfl (Nat.le_of_ble_eq_true rfl) he rfl rfl hc8 hs8 dL_law_29 (fun E M9 hx => kz_Tout rfl hc8 hs8 hx) (kz_Cmono (fun v M9 h => ?_) (fun _ _ h => h) h)
  obtain ⟨r10, rfl, h⟩ := h
  show kz_Z G (d + 12) mc ms mL_law Qr Qx 32 [(2, .ref s0), (0, .retAddr x0), (1, .ref x1)] [.int r10] M9 (c + mc5 + mc8) (sl + ms5 + ms8)
  refine kz_iconst (pc := 32) (v := 3) (by decide) dL_law_32 ?_
  refine kz_icmp_ne (pc := 33) (tgt := 44) (by decide) dL_law_33 (fun hb => ?_) (fun hb => ?_)
  · replace h := h.1 hb
    refine kz_iconst (pc := 44) (v := 0) (by decide) dL_law_44 ?_
    exact kz_zret (pc := 45) (ty := .boolean) rfl (by decide) hc8 hs8 dL_law_45 h
  · replace h := h.2 hb
    refine kz_aload_n (pc := 36) 2 (v := .ref x1) (i := 1) rfl rfl rfl dL_law_36 ?_
    refine kz_aload_n (pc := 37) 0 (v := .ref s0) (i := 2) rfl rfl rfl dL_law_37 ?_
    obtain ⟨⟨fs15, he⟩, h⟩ := h
    obtain ⟨mc14, ms14, hc14, hs14, h⟩ := h
    refine kz_callV (pc := 38) (μ' := mL_isSame) (ci := 13) (q := (RL, TL, 15)) (b := x1) (d' := d + 11) (mc' := mc14) (ms' := ms14) (As := [.ref s0]) (st := []) (c := c + mc5 + mc8) (sl := sl + ms5 + ms8) kmL_isSame kw_706 (by omega) rfl (Nat.le_of_ble_eq_true rfl) he rfl rfl hc14 hs14 dL_law_38 (fun E M9 hx => kz_Tout rfl hc14 hs14 hx) (kz_Cmono (fun v M12 h => ?_) (fun _ _ h => h) h)
    obtain ⟨r13, rfl, h⟩ := h
    show kz_Z G (d + 12) mc ms mL_law Qr Qx 41 [(2, .ref s0), (0, .retAddr x0), (1, .ref x1)] [.int r13] M12 (c + mc5 + mc8 + mc14) (sl + ms5 + ms8 + ms14)
    refine kz_if_ne (pc := 41) (tgt := 46) (by decide) dL_law_41 (fun hb => ?_) (fun hb => ?_)
    · replace h := h.1 hb
      refine kz_sub [1, 2, 0] rfl ?_
      exact h
    · replace h := h.2 hb
      refine kz_iconst (pc := 44) (v := 0) (by decide) dL_law_44 ?_
      exact kz_zret (pc := 45) (ty := .boolean) rfl (by decide) hc14 hs14 dL_law_45 h
theorem rL_law_46 {G : kz_G} {d : Nat} {mc ms : Nat} {Qr : Option Value → kz_M → Prop} {Qx : String → kz_M → Prop} {x0 : Nat} {x1 : Nat} {x2 : Nat}  {M : kz_M} {c sl : Nat} (hc : c ≤ mc) (hs : sl ≤ ms) (h : zL_law_48 G d mc ms Qr Qx x0 x1 x2 0 M c sl) : zL_law_46 G d mc ms Qr Qx x0 x1 x2  M c sl := by
  show kz_Z G (d + 12) mc ms mL_law Qr Qx 46 [(0, .retAddr x0), (1, .ref x1), (2, .ref x2)] [] M c sl
  refine kz_iconst (pc := 46) (v := 0) (by decide) dL_law_46 ?_
  refine kz_istore_n (pc := 47) (i := 3) (ls' := [(0, .retAddr x0), (1, .ref x1), (2, .ref x2)]) rfl (by decide) rfl dL_law_47 ?_
  refine kz_sub [1, 2, 3, 0] rfl ?_
  exact h
theorem rL_law_48 {G : kz_G} {d : Nat} {mc ms : Nat} {Qr : Option Value → kz_M → Prop} {Qx : String → kz_M → Prop} {x0 : Nat} {x1 : Nat} {x2 : Nat} {x3 : Int32}  {M : kz_M} {c sl : Nat} (hc : c ≤ mc) (hs : sl ≤ ms) (h : ((24 : Int32) ≤ x3 → Qr (some (.int 1)) M) ∧ (¬ (24 : Int32) ≤ x3 → kz_C G (d + 11) 0 0 mL_cell [.retAddr x0, .int (1 + (2 * x3))] M (fun v M1 => ∃ r2 : Int32, v = some (.int r2) ∧ (kz_C G (d + 11) 0 0 mL_cell [.retAddr x0, .int (2 + (2 * x3))] M1 (fun v M4 => ∃ r5 : Int32, v = some (.int r5) ∧ ((∃ fs14, (M4).1 x1 = some (.inl (13, fs14))) ∧ ∃ mc9 ms9, c + mc9 ≤ mc ∧ sl + ms9 ≤ ms ∧ kz_C G (d + 11) mc9 ms9 mL_act [.ref x1, .ref x2, .int r2, .int r5] M4 (fun v M7 => ∃ r8 : Int32, v = some (.int r8) ∧ ((r8 = 0 → Qr (some (.int 0)) M7) ∧ (¬ r8 = 0 → (∃ fs13, (M7).1 x1 = some (.inl (13, fs13))) ∧ ∃ mc12 ms12, c + mc9 + mc12 ≤ mc ∧ sl + ms9 + ms12 ≤ ms ∧ kz_C G (d + 11) mc12 ms12 mL_isSame [.ref x1, .ref x2] M7 (fun v M10 => ∃ r11 : Int32, v = some (.int r11) ∧ ((¬ r11 = 0 → zL_law_48 G d mc ms Qr Qx x0 x1 x2 (x3 + 1) M10 (c + mc9 + mc12) (sl + ms9 + ms12)) ∧ (r11 = 0 → Qr (some (.int 0)) M10))) Qx))) Qx)) Qx)) Qx)) : zL_law_48 G d mc ms Qr Qx x0 x1 x2 x3  M c sl := by
  show kz_Z G (d + 12) mc ms mL_law Qr Qx 48 [(0, .retAddr x0), (1, .ref x1), (2, .ref x2), (3, .int x3)] [] M c sl
  refine kz_iload_n (pc := 48) 3 (i := 3) rfl rfl dL_law_48 ?_
  refine kz_bipush (pc := 49) (v := 24) (by decide) dL_law_49 ?_
  refine kz_icmp_ge (pc := 51) (tgt := 96) (by decide) dL_law_51 (fun hb => ?_) (fun hb => ?_)
  · replace h := h.1 hb
    refine kz_iconst (pc := 96) (v := 1) (by decide) dL_law_96 ?_
    exact kz_zret (pc := 97) (ty := .boolean) rfl (by decide) hc hs dL_law_97 h
  · replace h := h.2 hb
    refine kz_aload_n (pc := 54) 1 (v := .ref x1) (i := 1) rfl rfl rfl dL_law_54 ?_
    refine kz_aload_n (pc := 55) 2 (v := .ref x2) (i := 2) rfl rfl rfl dL_law_55 ?_
    refine kz_aload_n (pc := 56) 0 (v := .retAddr x0) (i := 0) rfl rfl rfl dL_law_56 ?_
    refine kz_iconst (pc := 57) (v := 1) (by decide) dL_law_57 ?_
    refine kz_iconst (pc := 58) (v := 2) (by decide) dL_law_58 ?_
    refine kz_iload_n (pc := 59) 3 (i := 3) rfl rfl dL_law_59 ?_
    refine kz_imul (pc := 60) dL_law_60 ?_
    refine kz_iadd (pc := 61) dL_law_61 ?_
    refine kz_callS (pc := 62) (μ' := mL_cell) (d' := d + 11) (mc' := 0) (ms' := 0) (As := [.retAddr x0, .int (1 + (2 * x3))]) (st := [.ref x2, .ref x1]) (c := c) (sl := sl) kmL_cell kw_419 (by omega) rfl (Nat.le_of_ble_eq_true rfl) hc hs dL_law_62 (fun E M9 hx => kz_Tout rfl hc hs hx) (kz_Cmono (fun v M1 h => ?_) (fun _ _ h => h) h)
    obtain ⟨r2, rfl, h⟩ := h
    show kz_Z G (d + 12) mc ms mL_law Qr Qx 65 [(0, .retAddr x0), (1, .ref x1), (2, .ref x2), (3, .int x3)] [.int r2, .ref x2, .ref x1] M1 c sl
    refine kz_aload_n (pc := 65) 0 (v := .retAddr x0) (i := 0) rfl rfl rfl dL_law_65 ?_
    refine kz_iconst (pc := 66) (v := 2) (by decide) dL_law_66 ?_
    refine kz_iconst (pc := 67) (v := 2) (by decide) dL_law_67 ?_
    refine kz_iload_n (pc := 68) 3 (i := 3) rfl rfl dL_law_68 ?_
    refine kz_imul (pc := 69) dL_law_69 ?_
    refine kz_iadd (pc := 70) dL_law_70 ?_
    refine kz_callS (pc := 71) (μ' := mL_cell) (d' := d + 11) (mc' := 0) (ms' := 0) (As := [.retAddr x0, .int (2 + (2 * x3))]) (st := [.int r2, .ref x2, .ref x1]) (c := c) (sl := sl) kmL_cell kw_419 (by omega) rfl (Nat.le_of_ble_eq_true rfl) hc hs dL_law_71 (fun E M9 hx => kz_Tout rfl hc hs hx) (kz_Cmono (fun v M4 h => ?_) (fun _ _ h => h) h)
    obtain ⟨r5, rfl, h⟩ := h
    show kz_Z G (d + 12) mc ms mL_law Qr Qx 74 [(0, .retAddr x0), (1, .ref x1), (2, .ref x2), (3, .int x3)] [.int r5, .int r2, .ref x2, .ref x1] M4 c sl
    obtain ⟨⟨fs14, he⟩, h⟩ := h
    obtain ⟨mc9, ms9, hc9, hs9, h⟩ := h
    refine kz_callV (pc := 74) (μ' := mL_act) (ci := 13) (q := (RL, TL, 15)) (b := x1) (d' := d + 11) (mc' := mc9) (ms' := ms9) (As := [.ref x2, .int r2, .int r5]) (st := []) (c := c) (sl := sl) kmL_act kw_1001 (by omega) rfl (Nat.le_of_ble_eq_true rfl) he rfl rfl hc9 hs9 dL_law_74 (fun E M9 hx => kz_Tout rfl hc9 hs9 hx) (kz_Cmono (fun v M7 h => ?_) (fun _ _ h => h) h)
    obtain ⟨r8, rfl, h⟩ := h
    show kz_Z G (d + 12) mc ms mL_law Qr Qx 77 [(0, .retAddr x0), (1, .ref x1), (2, .ref x2), (3, .int x3)] [.int r8] M7 (c + mc9) (sl + ms9)
    refine kz_if_eq (pc := 77) (tgt := 88) (by decide) dL_law_77 (fun hb => ?_) (fun hb => ?_)
    · replace h := h.1 hb
      refine kz_iconst (pc := 88) (v := 0) (by decide) dL_law_88 ?_
      exact kz_zret (pc := 89) (ty := .boolean) rfl (by decide) hc9 hs9 dL_law_89 h
    · replace h := h.2 hb
      refine kz_aload_n (pc := 80) 1 (v := .ref x1) (i := 1) rfl rfl rfl dL_law_80 ?_
      refine kz_aload_n (pc := 81) 2 (v := .ref x2) (i := 2) rfl rfl rfl dL_law_81 ?_
      obtain ⟨⟨fs13, he⟩, h⟩ := h
      obtain ⟨mc12, ms12, hc12, hs12, h⟩ := h
      refine kz_callV (pc := 82) (μ' := mL_isSame) (ci := 13) (q := (RL, TL, 15)) (b := x1) (d' := d + 11) (mc' := mc12) (ms' := ms12) (As := [.ref x2]) (st := []) (c := c + mc9) (sl := sl + ms9) kmL_isSame kw_706 (by omega) rfl (Nat.le_of_ble_eq_true rfl) he rfl rfl hc12 hs12 dL_law_82 (fun E M9 hx => kz_Tout rfl hc12 hs12 hx) (kz_Cmono (fun v M10 h => ?_) (fun _ _ h => h) h)
      obtain ⟨r11, rfl, h⟩ := h
      show kz_Z G (d + 12) mc ms mL_law Qr Qx 85 [(0, .retAddr x0), (1, .ref x1), (2, .ref x2), (3, .int x3)] [.int r11] M10 (c + mc9 + mc12) (sl + ms9 + ms12)
      refine kz_if_ne (pc := 85) (tgt := 90) (by decide) dL_law_85 (fun hb => ?_) (fun hb => ?_)
      · replace h := h.1 hb
        refine kz_iinc (pc := 90) 3 (i := 3) (v := x3 + 1) (ls' := [(0, .retAddr x0), (1, .ref x1), (2, .ref x2)]) rfl (congrArg (fun z => x3 + z) (by decide)) (by decide) rfl dL_law_90 ?_
        refine kz_goto (pc := 93) (tgt := 48) (by decide) dL_law_93 ?_
        refine kz_sub [1, 2, 3, 0] rfl ?_
        exact h
      · replace h := h.2 hb
        refine kz_iconst (pc := 88) (v := 0) (by decide) dL_law_88 ?_
        exact kz_zret (pc := 89) (ty := .boolean) rfl (by decide) hc12 hs12 dL_law_89 h
