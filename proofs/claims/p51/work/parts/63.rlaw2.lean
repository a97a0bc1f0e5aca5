/-! The rules of part 63.rlaw2: printed by program (wip/p51/rules2.py) -/
theorem dL_init_0 : decode cL_init 0 = .ok (.aload_n 0, 1) := by decide +kernel
theorem dL_init_1 : decode cL_init 1 = .ok (.invokespecial 21, 3) := by decide +kernel
theorem dL_init_4 : decode cL_init 4 = .ok (.aload_n 0, 1) := by decide +kernel
theorem dL_init_5 : decode cL_init 5 = .ok (.new 27, 3) := by decide +kernel
theorem dL_init_8 : decode cL_init 8 = .ok (.dup, 1) := by decide +kernel
theorem dL_init_9 : decode cL_init 9 = .ok (.invokespecial 29, 3) := by decide +kernel
theorem dL_init_12 : decode cL_init 12 = .ok (.putfield 30, 3) := by decide +kernel
theorem dL_init_15 : decode cL_init 15 = .ok (.aload_n 0, 1) := by decide +kernel
theorem dL_init_16 : decode cL_init 16 = .ok (.iconst 3, 1) := by decide +kernel
theorem dL_init_17 : decode cL_init 17 = .ok (.newarray .int, 2) := by decide +kernel
theorem dL_init_19 : decode cL_init 19 = .ok (.putfield 36, 3) := by decide +kernel
theorem dL_init_22 : decode cL_init 22 = .ok (.aload_n 0, 1) := by decide +kernel
theorem dL_init_23 : decode cL_init 23 = .ok (.iconst 3, 1) := by decide +kernel
theorem dL_init_24 : decode cL_init 24 = .ok (.newarray .int, 2) := by decide +kernel
theorem dL_init_26 : decode cL_init 26 = .ok (.putfield 40, 3) := by decide +kernel
theorem dL_init_29 : decode cL_init 29 = .ok (.aload_n 0, 1) := by decide +kernel
theorem dL_init_30 : decode cL_init 30 = .ok (.iconst 3, 1) := by decide +kernel
theorem dL_init_31 : decode cL_init 31 = .ok (.newarray .int, 2) := by decide +kernel
theorem dL_init_33 : decode cL_init 33 = .ok (.putfield 43, 3) := by decide +kernel
theorem dL_init_36 : decode cL_init 36 = .ok (.aload_n 0, 1) := by decide +kernel
theorem dL_init_37 : decode cL_init 37 = .ok (.bipush 20, 2) := by decide +kernel
theorem dL_init_39 : decode cL_init 39 = .ok (.putfield 46, 3) := by decide +kernel
theorem dL_init_42 : decode cL_init 42 = .ok (.aload_n 0, 1) := by decide +kernel
theorem dL_init_43 : decode cL_init 43 = .ok (.iconst 3, 1) := by decide +kernel
theorem dL_init_44 : decode cL_init 44 = .ok (.putfield 50, 3) := by decide +kernel
theorem dL_init_47 : decode cL_init 47 = .ok (.aload_n 0, 1) := by decide +kernel
theorem dL_init_48 : decode cL_init 48 = .ok (.iconst 4, 1) := by decide +kernel
theorem dL_init_49 : decode cL_init 49 = .ok (.putfield 53, 3) := by decide +kernel
theorem dL_init_52 : decode cL_init 52 = .ok (.aload_n 0, 1) := by decide +kernel
theorem dL_init_53 : decode cL_init 53 = .ok (.bipush 7, 2) := by decide +kernel
theorem dL_init_55 : decode cL_init 55 = .ok (.putfield 56, 3) := by decide +kernel
theorem dL_init_58 : decode cL_init 58 = .ok (.aload_n 0, 1) := by decide +kernel
theorem dL_init_59 : decode cL_init 59 = .ok (.iconst 3, 1) := by decide +kernel
theorem dL_init_60 : decode cL_init 60 = .ok (.putfield 59, 3) := by decide +kernel
theorem dL_init_63 : decode cL_init 63 = .ok (.aload_n 0, 1) := by decide +kernel
theorem dL_init_64 : decode cL_init 64 = .ok (.iconst 3, 1) := by decide +kernel
theorem dL_init_65 : decode cL_init 65 = .ok (.newarray .int, 2) := by decide +kernel
theorem dL_init_67 : decode cL_init 67 = .ok (.dup, 1) := by decide +kernel
theorem dL_init_68 : decode cL_init 68 = .ok (.iconst 0, 1) := by decide +kernel
theorem dL_init_69 : decode cL_init 69 = .ok (.bipush 10, 2) := by decide +kernel
theorem dL_init_71 : decode cL_init 71 = .ok (.iastore, 1) := by decide +kernel
theorem dL_init_72 : decode cL_init 72 = .ok (.dup, 1) := by decide +kernel
theorem dL_init_73 : decode cL_init 73 = .ok (.iconst 1, 1) := by decide +kernel
theorem dL_init_74 : decode cL_init 74 = .ok (.bipush 8, 2) := by decide +kernel
theorem dL_init_76 : decode cL_init 76 = .ok (.iastore, 1) := by decide +kernel
theorem dL_init_77 : decode cL_init 77 = .ok (.dup, 1) := by decide +kernel
theorem dL_init_78 : decode cL_init 78 = .ok (.iconst 2, 1) := by decide +kernel
theorem dL_init_79 : decode cL_init 79 = .ok (.iconst 5, 1) := by decide +kernel
theorem dL_init_80 : decode cL_init 80 = .ok (.iastore, 1) := by decide +kernel
theorem dL_init_81 : decode cL_init 81 = .ok (.putfield 62, 3) := by decide +kernel
theorem dL_init_84 : decode cL_init 84 = .ok (.aload_n 0, 1) := by decide +kernel
theorem dL_init_85 : decode cL_init 85 = .ok (.new 65, 3) := by decide +kernel
theorem dL_init_88 : decode cL_init 88 = .ok (.dup, 1) := by decide +kernel
theorem dL_init_89 : decode cL_init 89 = .ok (.invokespecial 67, 3) := by decide +kernel
theorem dL_init_92 : decode cL_init 92 = .ok (.putfield 68, 3) := by decide +kernel
theorem dL_init_95 : decode cL_init 95 = .ok (.aload_n 1, 1) := by decide +kernel
theorem dL_init_96 : decode cL_init 96 = .ok (.iconst 0, 1) := by decide +kernel
theorem dL_init_97 : decode cL_init 97 = .ok (.invokestatic 72, 3) := by decide +kernel
theorem dL_init_100 : decode cL_init 100 = .ok (.istore_n 2, 1) := by decide +kernel
theorem dL_init_101 : decode cL_init 101 = .ok (.aload_n 0, 1) := by decide +kernel
theorem dL_init_102 : decode cL_init 102 = .ok (.iload_n 2, 1) := by decide +kernel
theorem dL_init_103 : decode cL_init 103 = .ok (.iconst 0, 1) := by decide +kernel
theorem dL_init_104 : decode cL_init 104 = .ok (.bipush 8, 2) := by decide +kernel
theorem dL_init_106 : decode cL_init 106 = .ok (.invokestatic 76, 3) := by decide +kernel
theorem dL_init_109 : decode cL_init 109 = .ok (.putfield 80, 3) := by decide +kernel
theorem dL_init_112 : decode cL_init 112 = .ok (.aload_n 0, 1) := by decide +kernel
theorem dL_init_113 : decode cL_init 113 = .ok (.bipush 6, 2) := by decide +kernel
theorem dL_init_115 : decode cL_init 115 = .ok (.iload_n 2, 1) := by decide +kernel
theorem dL_init_116 : decode cL_init 116 = .ok (.bipush 8, 2) := by decide +kernel
theorem dL_init_118 : decode cL_init 118 = .ok (.iconst 4, 1) := by decide +kernel
theorem dL_init_119 : decode cL_init 119 = .ok (.invokestatic 76, 3) := by decide +kernel
theorem dL_init_122 : decode cL_init 122 = .ok (.iadd, 1) := by decide +kernel
theorem dL_init_123 : decode cL_init 123 = .ok (.putfield 46, 3) := by decide +kernel
theorem dL_init_126 : decode cL_init 126 = .ok (.aload_n 0, 1) := by decide +kernel
theorem dL_init_127 : decode cL_init 127 = .ok (.iconst 2, 1) := by decide +kernel
theorem dL_init_128 : decode cL_init 128 = .ok (.iload_n 2, 1) := by decide +kernel
theorem dL_init_129 : decode cL_init 129 = .ok (.bipush 12, 2) := by decide +kernel
theorem dL_init_131 : decode cL_init 131 = .ok (.iconst 2, 1) := by decide +kernel
theorem dL_init_132 : decode cL_init 132 = .ok (.invokestatic 76, 3) := by decide +kernel
theorem dL_init_135 : decode cL_init 135 = .ok (.iadd, 1) := by decide +kernel
theorem dL_init_136 : decode cL_init 136 = .ok (.putfield 50, 3) := by decide +kernel
theorem dL_init_139 : decode cL_init 139 = .ok (.aload_n 0, 1) := by decide +kernel
theorem dL_init_140 : decode cL_init 140 = .ok (.iconst 1, 1) := by decide +kernel
theorem dL_init_141 : decode cL_init 141 = .ok (.iload_n 2, 1) := by decide +kernel
theorem dL_init_142 : decode cL_init 142 = .ok (.bipush 14, 2) := by decide +kernel
theorem dL_init_144 : decode cL_init 144 = .ok (.iconst 2, 1) := by decide +kernel
theorem dL_init_145 : decode cL_init 145 = .ok (.invokestatic 76, 3) := by decide +kernel
theorem dL_init_148 : decode cL_init 148 = .ok (.iadd, 1) := by decide +kernel
theorem dL_init_149 : decode cL_init 149 = .ok (.putfield 53, 3) := by decide +kernel
theorem dL_init_152 : decode cL_init 152 = .ok (.aload_n 0, 1) := by decide +kernel
theorem dL_init_153 : decode cL_init 153 = .ok (.iload_n 2, 1) := by decide +kernel
theorem dL_init_154 : decode cL_init 154 = .ok (.bipush 16, 2) := by decide +kernel
theorem dL_init_156 : decode cL_init 156 = .ok (.iconst 3, 1) := by decide +kernel
theorem dL_init_157 : decode cL_init 157 = .ok (.invokestatic 76, 3) := by decide +kernel
theorem dL_init_160 : decode cL_init 160 = .ok (.putfield 83, 3) := by decide +kernel
theorem dL_init_163 : decode cL_init 163 = .ok (.aload_n 0, 1) := by decide +kernel
theorem dL_init_164 : decode cL_init 164 = .ok (.iload_n 2, 1) := by decide +kernel
theorem dL_init_165 : decode cL_init 165 = .ok (.bipush 19, 2) := by decide +kernel
theorem dL_init_167 : decode cL_init 167 = .ok (.iconst 2, 1) := by decide +kernel
theorem dL_init_168 : decode cL_init 168 = .ok (.invokestatic 76, 3) := by decide +kernel
theorem dL_init_171 : decode cL_init 171 = .ok (.putfield 56, 3) := by decide +kernel
theorem dL_init_174 : decode cL_init 174 = .ok (.aload_n 0, 1) := by decide +kernel
theorem dL_init_175 : decode cL_init 175 = .ok (.iconst 1, 1) := by decide +kernel
theorem dL_init_176 : decode cL_init 176 = .ok (.iload_n 2, 1) := by decide +kernel
theorem dL_init_177 : decode cL_init 177 = .ok (.bipush 21, 2) := by decide +kernel
theorem dL_init_179 : decode cL_init 179 = .ok (.iconst 2, 1) := by decide +kernel
theorem dL_init_180 : decode cL_init 180 = .ok (.invokestatic 76, 3) := by decide +kernel
theorem dL_init_183 : decode cL_init 183 = .ok (.iadd, 1) := by decide +kernel
theorem dL_init_184 : decode cL_init 184 = .ok (.putfield 59, 3) := by decide +kernel
theorem dL_init_187 : decode cL_init 187 = .ok (.aload_n 0, 1) := by decide +kernel
theorem dL_init_188 : decode cL_init 188 = .ok (.iload_n 2, 1) := by decide +kernel
theorem dL_init_189 : decode cL_init 189 = .ok (.bipush 23, 2) := by decide +kernel
theorem dL_init_191 : decode cL_init 191 = .ok (.iconst 2, 1) := by decide +kernel
theorem dL_init_192 : decode cL_init 192 = .ok (.invokestatic 76, 3) := by decide +kernel
theorem dL_init_195 : decode cL_init 195 = .ok (.putfield 86, 3) := by decide +kernel
theorem dL_init_198 : decode cL_init 198 = .ok (.aload_n 0, 1) := by decide +kernel
theorem dL_init_199 : decode cL_init 199 = .ok (.getfield 68, 3) := by decide +kernel
theorem dL_init_202 : decode cL_init 202 = .ok (.ldc 89, 2) := by decide +kernel
theorem dL_init_204 : decode cL_init 204 = .ok (.invokevirtual 91, 3) := by decide +kernel
theorem dL_init_207 : decode cL_init 207 = .ok (.aload_n 0, 1) := by decide +kernel
theorem dL_init_208 : decode cL_init 208 = .ok (.getfield 80, 3) := by decide +kernel
theorem dL_init_211 : decode cL_init 211 = .ok (.invokevirtual 95, 3) := by decide +kernel
theorem dL_init_214 : decode cL_init 214 = .ok (.ldc 98, 2) := by decide +kernel
theorem dL_init_216 : decode cL_init 216 = .ok (.invokevirtual 91, 3) := by decide +kernel
theorem dL_init_219 : decode cL_init 219 = .ok (.aload_n 0, 1) := by decide +kernel
theorem dL_init_220 : decode cL_init 220 = .ok (.getfield 46, 3) := by decide +kernel
theorem dL_init_223 : decode cL_init 223 = .ok (.invokevirtual 95, 3) := by decide +kernel
theorem dL_init_226 : decode cL_init 226 = .ok (.ldc 100, 2) := by decide +kernel
theorem dL_init_228 : decode cL_init 228 = .ok (.invokevirtual 91, 3) := by decide +kernel
theorem dL_init_231 : decode cL_init 231 = .ok (.aload_n 0, 1) := by decide +kernel
theorem dL_init_232 : decode cL_init 232 = .ok (.getfield 50, 3) := by decide +kernel
theorem dL_init_235 : decode cL_init 235 = .ok (.invokevirtual 95, 3) := by decide +kernel
theorem dL_init_238 : decode cL_init 238 = .ok (.ldc 102, 2) := by decide +kernel
theorem dL_init_240 : decode cL_init 240 = .ok (.invokevirtual 91, 3) := by decide +kernel
theorem dL_init_243 : decode cL_init 243 = .ok (.aload_n 0, 1) := by decide +kernel
theorem dL_init_244 : decode cL_init 244 = .ok (.getfield 53, 3) := by decide +kernel
theorem dL_init_247 : decode cL_init 247 = .ok (.invokevirtual 95, 3) := by decide +kernel
theorem dL_init_250 : decode cL_init 250 = .ok (.ldc 104, 2) := by decide +kernel
theorem dL_init_252 : decode cL_init 252 = .ok (.invokevirtual 91, 3) := by decide +kernel
theorem dL_init_255 : decode cL_init 255 = .ok (.aload_n 0, 1) := by decide +kernel
theorem dL_init_256 : decode cL_init 256 = .ok (.getfield 83, 3) := by decide +kernel
theorem dL_init_259 : decode cL_init 259 = .ok (.invokevirtual 95, 3) := by decide +kernel
theorem dL_init_262 : decode cL_init 262 = .ok (.ldc 106, 2) := by decide +kernel
theorem dL_init_264 : decode cL_init 264 = .ok (.invokevirtual 91, 3) := by decide +kernel
theorem dL_init_267 : decode cL_init 267 = .ok (.aload_n 0, 1) := by decide +kernel
theorem dL_init_268 : decode cL_init 268 = .ok (.getfield 56, 3) := by decide +kernel
theorem dL_init_271 : decode cL_init 271 = .ok (.invokevirtual 95, 3) := by decide +kernel
theorem dL_init_274 : decode cL_init 274 = .ok (.ldc 108, 2) := by decide +kernel
theorem dL_init_276 : decode cL_init 276 = .ok (.invokevirtual 91, 3) := by decide +kernel
theorem dL_init_279 : decode cL_init 279 = .ok (.aload_n 0, 1) := by decide +kernel
theorem dL_init_280 : decode cL_init 280 = .ok (.getfield 59, 3) := by decide +kernel
theorem dL_init_283 : decode cL_init 283 = .ok (.invokevirtual 95, 3) := by decide +kernel
theorem dL_init_286 : decode cL_init 286 = .ok (.ldc 110, 2) := by decide +kernel
theorem dL_init_288 : decode cL_init 288 = .ok (.invokevirtual 91, 3) := by decide +kernel
theorem dL_init_291 : decode cL_init 291 = .ok (.aload_n 0, 1) := by decide +kernel
theorem dL_init_292 : decode cL_init 292 = .ok (.getfield 86, 3) := by decide +kernel
theorem dL_init_295 : decode cL_init 295 = .ok (.invokevirtual 95, 3) := by decide +kernel
theorem dL_init_298 : decode cL_init 298 = .ok (.bipush 59, 2) := by decide +kernel
theorem dL_init_300 : decode cL_init 300 = .ok (.invokevirtual 112, 3) := by decide +kernel
theorem dL_init_303 : decode cL_init 303 = .ok (.pop, 1) := by decide +kernel
theorem dL_init_304 : decode cL_init 304 = .ok (.return_, 1) := by decide +kernel
def zL_init_15 (G : kz_G) (d mc ms : Nat) (Qr : Option Value → kz_M → Prop) (Qx : String → kz_M → Prop) (x0 : Nat) (x1 : Nat)  (M : kz_M) (c sl : Nat) : Prop := kz_Z G (d + 6) mc ms mL_init Qr Qx 15 [(0, .ref x0), (1, .retAddr x1)] [] M c sl
def zL_init_22 (G : kz_G) (d mc ms : Nat) (Qr : Option Value → kz_M → Prop) (Qx : String → kz_M → Prop) (x0 : Nat) (x1 : Nat)  (M : kz_M) (c sl : Nat) : Prop := kz_Z G (d + 6) mc ms mL_init Qr Qx 22 [(0, .ref x0), (1, .retAddr x1)] [] M c sl
def zL_init_36 (G : kz_G) (d mc ms : Nat) (Qr : Option Value → kz_M → Prop) (Qx : String → kz_M → Prop) (x0 : Nat) (x1 : Nat)  (M : kz_M) (c sl : Nat) : Prop := kz_Z G (d + 6) mc ms mL_init Qr Qx 36 [(0, .ref x0), (1, .retAddr x1)] [] M c sl
def zL_init_63 (G : kz_G) (d mc ms : Nat) (Qr : Option Value → kz_M → Prop) (Qx : String → kz_M → Prop) (x0 : Nat) (x1 : Nat)  (M : kz_M) (c sl : Nat) : Prop := kz_Z G (d + 6) mc ms mL_init Qr Qx 63 [(0, .ref x0), (1, .retAddr x1)] [] M c sl
def zL_init_84 (G : kz_G) (d mc ms : Nat) (Qr : Option Value → kz_M → Prop) (Qx : String → kz_M → Prop) (x0 : Nat) (x1 : Nat)  (M : kz_M) (c sl : Nat) : Prop := kz_Z G (d + 6) mc ms mL_init Qr Qx 84 [(0, .ref x0), (1, .retAddr x1)] [] M c sl
def zL_init_95 (G : kz_G) (d mc ms : Nat) (Qr : Option Value → kz_M → Prop) (Qx : String → kz_M → Prop) (x0 : Nat) (x1 : Nat)  (M : kz_M) (c sl : Nat) : Prop := kz_Z G (d + 6) mc ms mL_init Qr Qx 95 [(0, .ref x0), (1, .retAddr x1)] [] M c sl
def zL_init_101 (G : kz_G) (d mc ms : Nat) (Qr : Option Value → kz_M → Prop) (Qx : String → kz_M → Prop) (x0 : Nat) (x2 : Int32)  (M : kz_M) (c sl : Nat) : Prop := kz_Z G (d + 6) mc ms mL_init Qr Qx 101 [(0, .ref x0), (2, .int x2)] [] M c sl
def zL_init_126 (G : kz_G) (d mc ms : Nat) (Qr : Option Value → kz_M → Prop) (Qx : String → kz_M → Prop) (x0 : Nat) (x2 : Int32)  (M : kz_M) (c sl : Nat) : Prop := kz_Z G (d + 6) mc ms mL_init Qr Qx 126 [(0, .ref x0), (2, .int x2)] [] M c sl
def zL_init_152 (G : kz_G) (d mc ms : Nat) (Qr : Option Value → kz_M → Prop) (Qx : String → kz_M → Prop) (x0 : Nat) (x2 : Int32)  (M : kz_M) (c sl : Nat) : Prop := kz_Z G (d + 6) mc ms mL_init Qr Qx 152 [(0, .ref x0), (2, .int x2)] [] M c sl
def zL_init_174 (G : kz_G) (d mc ms : Nat) (Qr : Option Value → kz_M → Prop) (Qx : String → kz_M → Prop) (x0 : Nat) (x2 : Int32)  (M : kz_M) (c sl : Nat) : Prop := kz_Z G (d + 6) mc ms mL_init Qr Qx 174 [(0, .ref x0), (2, .int x2)] [] M c sl
def zL_init_198 (G : kz_G) (d mc ms : Nat) (Qr : Option Value → kz_M → Prop) (Qx : String → kz_M → Prop) (x0 : Nat)  (M : kz_M) (c sl : Nat) : Prop := kz_Z G (d + 6) mc ms mL_init Qr Qx 198 [(0, .ref x0)] [] M c sl
def zL_init_219 (G : kz_G) (d mc ms : Nat) (Qr : Option Value → kz_M → Prop) (Qx : String → kz_M → Prop) (x0 : Nat) (s0 : Nat) (M : kz_M) (c sl : Nat) : Prop := kz_Z G (d + 6) mc ms mL_init Qr Qx 219 [(0, .ref x0)] [.ref s0] M c sl
def zL_init_231 (G : kz_G) (d mc ms : Nat) (Qr : Option Value → kz_M → Prop) (Qx : String → kz_M → Prop) (x0 : Nat) (s0 : Nat) (M : kz_M) (c sl : Nat) : Prop := kz_Z G (d + 6) mc ms mL_init Qr Qx 231 [(0, .ref x0)] [.ref s0] M c sl
def zL_init_243 (G : kz_G) (d mc ms : Nat) (Qr : Option Value → kz_M → Prop) (Qx : String → kz_M → Prop) (x0 : Nat) (s0 : Nat) (M : kz_M) (c sl : Nat) : Prop := kz_Z G (d + 6) mc ms mL_init Qr Qx 243 [(0, .ref x0)] [.ref s0] M c sl
def zL_init_255 (G : kz_G) (d mc ms : Nat) (Qr : Option Value → kz_M → Prop) (Qx : String → kz_M → Prop) (x0 : Nat) (s0 : Nat) (M : kz_M) (c sl : Nat) : Prop := kz_Z G (d + 6) mc ms mL_init Qr Qx 255 [(0, .ref x0)] [.ref s0] M c sl
def zL_init_267 (G : kz_G) (d mc ms : Nat) (Qr : Option Value → kz_M → Prop) (Qx : String → kz_M → Prop) (x0 : Nat) (s0 : Nat) (M : kz_M) (c sl : Nat) : Prop := kz_Z G (d + 6) mc ms mL_init Qr Qx 267 [(0, .ref x0)] [.ref s0] M c sl
def zL_init_279 (G : kz_G) (d mc ms : Nat) (Qr : Option Value → kz_M → Prop) (Qx : String → kz_M → Prop) (x0 : Nat) (s0 : Nat) (M : kz_M) (c sl : Nat) : Prop := kz_Z G (d + 6) mc ms mL_init Qr Qx 279 [(0, .ref x0)] [.ref s0] M c sl
def zL_init_291 (G : kz_G) (d mc ms : Nat) (Qr : Option Value → kz_M → Prop) (Qx : String → kz_M → Prop) (x0 : Nat) (s0 : Nat) (M : kz_M) (c sl : Nat) : Prop := kz_Z G (d + 6) mc ms mL_init Qr Qx 291 [(0, .ref x0)] [.ref s0] M c sl
theorem rL_init_0 {G : kz_G} {d : Nat} {mc ms : Nat} {Qr : Option Value → kz_M → Prop} {Qx : String → kz_M → Prop} {a0 : Nat} {p1 : Nat}  {M : kz_M} (h : 0 + 1 ≤ mc ∧ 0 + 3 ≤ ms ∧ (kz_C G (d + 5) 0 0 mJx4a65c_init_da8c8 [.ref ((M).2)] (kz_nw M (.inl (16, [.int 0, .null, .int 0]))) (fun v M2 => v = none ∧ (∃ fs5, (M2).1 a0 = some (.inl (13, fs5)) ∧ 0 < fs5.length ∧ (zL_init_15 G d mc ms Qr Qx a0 p1 (kz_up M2 a0 (.inl (13, fs5.set 0 (.ref ((M).2))))) (0 + 1) (0 + 3)))) Qx)) : kz_C G (d + 6) mc ms mL_init [.ref a0, .retAddr p1] M Qr Qx := by
  refine kz_enter (n := 1) kmL_init.1 (Nat.le_of_ble_eq_true rfl) (ls := [(0, .ref a0), (1, .retAddr p1)]) rfl ?_
  refine kz_aload_n (pc := 0) 0 (v := .ref a0) (i := 0) rfl rfl rfl dL_init_0 ?_
  refine kz_objInit (pc := 1) kw_452 kw_43 kw_44 (by omega) (Nat.le_of_ble_eq_true rfl) dL_init_1 ?_
  refine kz_aload_n (pc := 4) 0 (v := .ref a0) (i := 0) rfl rfl rfl dL_init_4 ?_
  obtain ⟨hc1, hs1, h⟩ := h
  refine kz_newc (pc := 5) kcJx4a65c rfl kw_453 kw_454 kw_3 hc1 hs1 dL_init_5 ?_
  refine kz_dup (pc := 8) rfl dL_init_8 ?_
  refine kz_callI (pc := 9) (μ' := mJx4a65c_init_da8c8) (b := (M).2) (d' := d + 5) (mc' := 0) (ms' := 0) (As := []) (st := [.ref ((M).2), .ref a0]) (c := 0 + 1) (sl := 0 + 3) kmJx4a65c_init_da8c8 kw_455 (by omega) rfl (Nat.le_of_ble_eq_true rfl) hc1 hs1 dL_init_9 (fun E M9 hx => kz_Tout rfl hc1 hs1 hx) (kz_Cmono (fun v M2 h => ?_) (fun _ _ h => h) h)
  obtain ⟨rfl, h⟩ := h
  show kz_Z G (d + 6) mc ms mL_init Qr Qx 12 [(0, .ref a0), (1, .retAddr p1)] [.ref ((M).2), .ref a0] M2 (0 + 1) (0 + 3)
  obtain ⟨fs5, hM, hlen, h⟩ := h
  refine kz_putF (pc := 12) (k := 0) kcL hM (by decide) hlen rfl rfl kw_660 rfl rfl rfl dL_init_12 ?_
  exact h
theorem rL_init_15 {G : kz_G} {d : Nat} {mc ms : Nat} {Qr : Option Value → kz_M → Prop} {Qx : String → kz_M → Prop} {x0 : Nat} {x1 : Nat}  {M : kz_M} {c sl : Nat} (hc : c ≤ mc) (hs : sl ≤ ms) (h : ∃ N1, ¬ (3 : Int32) < 0 ∧ (3 : Int32).toNatClampNeg = N1 ∧ N1 ≤ 60000000 ∧ c + 1 ≤ mc ∧ sl + N1 ≤ ms ∧ (∃ fs3, ((kz_nw M (.inr (.int, N1, .inl (fun _ => 0))))).1 x0 = some (.inl (13, fs3)) ∧ 1 < fs3.length ∧ (zL_init_22 G d mc ms Qr Qx x0 x1 (kz_up (kz_nw M (.inr (.int, N1, .inl (fun _ => 0)))) x0 (.inl (13, fs3.set 1 (.ref ((M).2))))) (c + 1) (sl + N1)))) : zL_init_15 G d mc ms Qr Qx x0 x1  M c sl := by
  show kz_Z G (d + 6) mc ms mL_init Qr Qx 15 [(0, .ref x0), (1, .retAddr x1)] [] M c sl
  refine kz_aload_n (pc := 15) 0 (v := .ref x0) (i := 0) rfl rfl rfl dL_init_15 ?_
  refine kz_iconst (pc := 16) (v := 3) (by decide) dL_init_16 ?_
  obtain ⟨N1, hn, hN, hb8, hc2, hs2, h⟩ := h
  refine kz_newaI (pc := 17) N1 kw_98 hn hN hb8 hc2 hs2 dL_init_17 ?_
  obtain ⟨fs3, hM, hlen, h⟩ := h
  refine kz_putF (pc := 19) (k := 1) kcL hM (by decide) hlen rfl rfl kw_661 rfl rfl rfl dL_init_19 ?_
  exact h
theorem rL_init_22 {G : kz_G} {d : Nat} {mc ms : Nat} {Qr : Option Value → kz_M → Prop} {Qx : String → kz_M → Prop} {x0 : Nat} {x1 : Nat}  {M : kz_M} {c sl : Nat} (hc : c ≤ mc) (hs : sl ≤ ms) (h : ∃ N1, ¬ (3 : Int32) < 0 ∧ (3 : Int32).toNatClampNeg = N1 ∧ N1 ≤ 60000000 ∧ c + 1 ≤ mc ∧ sl + N1 ≤ ms ∧ (∃ fs3, ((kz_nw M (.inr (.int, N1, .inl (fun _ => 0))))).1 x0 = some (.inl (13, fs3)) ∧ 2 < fs3.length ∧ (∃ N4, ¬ (3 : Int32) < 0 ∧ (3 : Int32).toNatClampNeg = N4 ∧ N4 ≤ 60000000 ∧ c + 1 + 1 ≤ mc ∧ sl + N1 + N4 ≤ ms ∧ (∃ fs6, ((kz_nw (kz_up (kz_nw M (.inr (.int, N1, .inl (fun _ => 0)))) x0 (.inl (13, fs3.set 2 (.ref ((M).2))))) (.inr (.int, N4, .inl (fun _ => 0))))).1 x0 = some (.inl (13, fs6)) ∧ 3 < fs6.length ∧ (∀ M7, M7 = kz_up (kz_nw (kz_up (kz_nw M (.inr (.int, N1, .inl (fun _ => 0)))) x0 (.inl (13, fs3.set 2 (.ref ((M).2))))) (.inr (.int, N4, .inl (fun _ => 0)))) x0 (.inl (13, fs6.set 3 (.ref ((kz_up (kz_nw M (.inr (.int, N1, .inl (fun _ => 0)))) x0 (.inl (13, fs3.set 2 (.ref ((M).2))))).2)))) → zL_init_36 G d mc ms Qr Qx x0 x1 M7 (c + 1 + 1) (sl + N1 + N4)))))) : zL_init_22 G d mc ms Qr Qx x0 x1  M c sl := by
  show kz_Z G (d + 6) mc ms mL_init Qr Qx 22 [(0, .ref x0), (1, .retAddr x1)] [] M c sl
  refine kz_aload_n (pc := 22) 0 (v := .ref x0) (i := 0) rfl rfl rfl dL_init_22 ?_
  refine kz_iconst (pc := 23) (v := 3) (by decide) dL_init_23 ?_
  obtain ⟨N1, hn, hN, hb8, hc2, hs2, h⟩ := h
  refine kz_newaI (pc := 24) N1 kw_98 hn hN hb8 hc2 hs2 dL_init_24 ?_
  obtain ⟨fs3, hM, hlen, h⟩ := h
  refine kz_putF (pc := 26) (k := 2) kcL hM (by decide) hlen rfl rfl kw_662 rfl rfl rfl dL_init_26 ?_
  refine kz_aload_n (pc := 29) 0 (v := .ref x0) (i := 0) rfl rfl rfl dL_init_29 ?_
  refine kz_iconst (pc := 30) (v := 3) (by decide) dL_init_30 ?_
  obtain ⟨N4, hn, hN, hb8, hc5, hs5, h⟩ := h
  refine kz_newaI (pc := 31) N4 kw_98 hn hN hb8 hc5 hs5 dL_init_31 ?_
  obtain ⟨fs6, hM, hlen, h⟩ := h
  refine kz_putF (pc := 33) (k := 3) kcL hM (by decide) hlen rfl rfl kw_663 rfl rfl rfl dL_init_33 ?_
  refine kz_nameM (fun M7 e9 => ?_)
  replace h := h M7 e9
  exact h
theorem rL_init_36 {G : kz_G} {d : Nat} {mc ms : Nat} {Qr : Option Value → kz_M → Prop} {Qx : String → kz_M → Prop} {x0 : Nat} {x1 : Nat}  {M : kz_M} {c sl : Nat} (hc : c ≤ mc) (hs : sl ≤ ms) (h : ∃ fs1, (M).1 x0 = some (.inl (13, fs1)) ∧ 6 < fs1.length ∧ (∃ fs2, ((kz_up M x0 (.inl (13, fs1.set 6 (.int 20))))).1 x0 = some (.inl (13, fs2)) ∧ 7 < fs2.length ∧ (∃ fs3, ((kz_up (kz_up M x0 (.inl (13, fs1.set 6 (.int 20)))) x0 (.inl (13, fs2.set 7 (.int 3))))).1 x0 = some (.inl (13, fs3)) ∧ 8 < fs3.length ∧ (∃ fs4, ((kz_up (kz_up (kz_up M x0 (.inl (13, fs1.set 6 (.int 20)))) x0 (.inl (13, fs2.set 7 (.int 3)))) x0 (.inl (13, fs3.set 8 (.int 4))))).1 x0 = some (.inl (13, fs4)) ∧ 10 < fs4.length ∧ (∀ M5, M5 = kz_up (kz_up (kz_up (kz_up M x0 (.inl (13, fs1.set 6 (.int 20)))) x0 (.inl (13, fs2.set 7 (.int 3)))) x0 (.inl (13, fs3.set 8 (.int 4)))) x0 (.inl (13, fs4.set 10 (.int 7))) → ∃ fs6, (M5).1 x0 = some (.inl (13, fs6)) ∧ 11 < fs6.length ∧ (zL_init_63 G d mc ms Qr Qx x0 x1 (kz_up M5 x0 (.inl (13, fs6.set 11 (.int 3)))) c sl)))))) : zL_init_36 G d mc ms Qr Qx x0 x1  M c sl := by
  show kz_Z G (d + 6) mc ms mL_init Qr Qx 36 [(0, .ref x0), (1, .retAddr x1)] [] M c sl
  refine kz_aload_n (pc := 36) 0 (v := .ref x0) (i := 0) rfl rfl rfl dL_init_36 ?_
  refine kz_bipush (pc := 37) (v := 20) (by decide) dL_init_37 ?_
  obtain ⟨fs1, hM, hlen, h⟩ := h
  refine kz_putf (pc := 39) (k := 6) kcL hM (by decide) hlen kw_666 rfl rfl rfl dL_init_39 ?_
  refine kz_aload_n (pc := 42) 0 (v := .ref x0) (i := 0) rfl rfl rfl dL_init_42 ?_
  refine kz_iconst (pc := 43) (v := 3) (by decide) dL_init_43 ?_
  obtain ⟨fs2, hM, hlen, h⟩ := h
  refine kz_putf (pc := 44) (k := 7) kcL hM (by decide) hlen kw_667 rfl rfl rfl dL_init_44 ?_
  refine kz_aload_n (pc := 47) 0 (v := .ref x0) (i := 0) rfl rfl rfl dL_init_47 ?_
  refine kz_iconst (pc := 48) (v := 4) (by decide) dL_init_48 ?_
  obtain ⟨fs3, hM, hlen, h⟩ := h
  refine kz_putf (pc := 49) (k := 8) kcL hM (by decide) hlen kw_668 rfl rfl rfl dL_init_49 ?_
  refine kz_aload_n (pc := 52) 0 (v := .ref x0) (i := 0) rfl rfl rfl dL_init_52 ?_
  refine kz_bipush (pc := 53) (v := 7) (by decide) dL_init_53 ?_
  obtain ⟨fs4, hM, hlen, h⟩ := h
  refine kz_putf (pc := 55) (k := 10) kcL hM (by decide) hlen kw_670 rfl rfl rfl dL_init_55 ?_
  refine kz_nameM (fun M5 e9 => ?_)
  replace h := h M5 e9
  refine kz_aload_n (pc := 58) 0 (v := .ref x0) (i := 0) rfl rfl rfl dL_init_58 ?_
  refine kz_iconst (pc := 59) (v := 3) (by decide) dL_init_59 ?_
  obtain ⟨fs6, hM, hlen, h⟩ := h
  refine kz_putf (pc := 60) (k := 11) kcL hM (by decide) hlen kw_671 rfl rfl rfl dL_init_60 ?_
  exact h
theorem rL_init_63 {G : kz_G} {d : Nat} {mc ms : Nat} {Qr : Option Value → kz_M → Prop} {Qx : String → kz_M → Prop} {x0 : Nat} {x1 : Nat}  {M : kz_M} {c sl : Nat} (hc : c ≤ mc) (hs : sl ≤ ms) (h : ∃ N1, ¬ (3 : Int32) < 0 ∧ (3 : Int32).toNatClampNeg = N1 ∧ N1 ≤ 60000000 ∧ c + 1 ≤ mc ∧ sl + N1 ≤ ms ∧ (∃ n3 f4, ((kz_nw M (.inr (.int, N1, .inl (fun _ => 0))))).1 ((M).2) = some (.inr (.int, n3, .inl f4)) ∧ vp_in (0 : Int32) n3 ∧ (∃ n5 f6, ((kz_up (kz_nw M (.inr (.int, N1, .inl (fun _ => 0)))) ((M).2) (.inr (.int, n3, .inl (upd f4 (0 : Int32).toNatClampNeg 10))))).1 ((M).2) = some (.inr (.int, n5, .inl f6)) ∧ vp_in (1 : Int32) n5 ∧ (∀ M7, M7 = kz_up (kz_up (kz_nw M (.inr (.int, N1, .inl (fun _ => 0)))) ((M).2) (.inr (.int, n3, .inl (upd f4 (0 : Int32).toNatClampNeg 10)))) ((M).2) (.inr (.int, n5, .inl (upd f6 (1 : Int32).toNatClampNeg 8))) → ∃ n8 f9, (M7).1 ((M).2) = some (.inr (.int, n8, .inl f9)) ∧ vp_in (2 : Int32) n8 ∧ (∃ fs10, ((kz_up M7 ((M).2) (.inr (.int, n8, .inl (upd f9 (2 : Int32).toNatClampNeg 5))))).1 x0 = some (.inl (13, fs10)) ∧ 13 < fs10.length ∧ (zL_init_84 G d mc ms Qr Qx x0 x1 (kz_up (kz_up M7 ((M).2) (.inr (.int, n8, .inl (upd f9 (2 : Int32).toNatClampNeg 5)))) x0 (.inl (13, fs10.set 13 (.ref ((M).2))))) (c + 1) (sl + N1))))))) : zL_init_63 G d mc ms Qr Qx x0 x1  M c sl := by
  show kz_Z G (d + 6) mc ms mL_init Qr Qx 63 [(0, .ref x0), (1, .retAddr x1)] [] M c sl
  refine kz_aload_n (pc := 63) 0 (v := .ref x0) (i := 0) rfl rfl rfl dL_init_63 ?_
  refine kz_iconst (pc := 64) (v := 3) (by decide) dL_init_64 ?_
  obtain ⟨N1, hn, hN, hb8, hc2, hs2, h⟩ := h
  refine kz_newaI (pc := 65) N1 kw_98 hn hN hb8 hc2 hs2 dL_init_65 ?_
  refine kz_dup (pc := 67) rfl dL_init_67 ?_
  refine kz_iconst (pc := 68) (v := 0) (by decide) dL_init_68 ?_
  refine kz_bipush (pc := 69) (v := 10) (by decide) dL_init_69 ?_
  obtain ⟨n3, f4, hM, hi, h⟩ := h
  refine kz_iast (pc := 71) hM hi dL_init_71 ?_
  refine kz_dup (pc := 72) rfl dL_init_72 ?_
  refine kz_iconst (pc := 73) (v := 1) (by decide) dL_init_73 ?_
  refine kz_bipush (pc := 74) (v := 8) (by decide) dL_init_74 ?_
  obtain ⟨n5, f6, hM, hi, h⟩ := h
  refine kz_iast (pc := 76) hM hi dL_init_76 ?_
  refine kz_nameM (fun M7 e9 => ?_)
  replace h := h M7 e9
  refine kz_dup (pc := 77) rfl dL_init_77 ?_
  refine kz_iconst (pc := 78) (v := 2) (by decide) dL_init_78 ?_
  refine kz_iconst (pc := 79) (v := 5) (by decide) dL_init_79 ?_
  obtain ⟨n8, f9, hM, hi, h⟩ := h
  refine kz_iast (pc := 80) hM hi dL_init_80 ?_
  obtain ⟨fs10, hM, hlen, h⟩ := h
  refine kz_putF (pc := 81) (k := 13) kcL hM (by decide) hlen rfl rfl kw_673 rfl rfl rfl dL_init_81 ?_
  exact h
theorem rL_init_84 {G : kz_G} {d : Nat} {mc ms : Nat} {Qr : Option Value → kz_M → Prop} {Qx : String → kz_M → Prop} {x0 : Nat} {x1 : Nat}  {M : kz_M} {c sl : Nat} (hc : c ≤ mc) (hs : sl ≤ ms) (h : c + 1 ≤ mc ∧ sl + 4 ≤ ms ∧ (∃ mc4 ms4, c + 1 + mc4 ≤ mc ∧ sl + 4 + ms4 ≤ ms ∧ kz_C G (d + 5) mc4 ms4 mJ4_init_da8c8 [.ref ((M).2)] (kz_nw M (.inl (15, [.null, .int 0, .int 0, .int 0]))) (fun v M2 => v = none ∧ (∃ fs5, (M2).1 x0 = some (.inl (13, fs5)) ∧ 14 < fs5.length ∧ (zL_init_95 G d mc ms Qr Qx x0 x1 (kz_up M2 x0 (.inl (13, fs5.set 14 (.ref ((M).2))))) (c + 1 + mc4) (sl + 4 + ms4)))) Qx)) : zL_init_84 G d mc ms Qr Qx x0 x1  M c sl := by
  show kz_Z G (d + 6) mc ms mL_init Qr Qx 84 [(0, .ref x0), (1, .retAddr x1)] [] M c sl
  refine kz_aload_n (pc := 84) 0 (v := .ref x0) (i := 0) rfl rfl rfl dL_init_84 ?_
  obtain ⟨hc1, hs1, h⟩ := h
  refine kz_newc (pc := 85) kcJ4 rfl kw_482 kw_483 kw_5 hc1 hs1 dL_init_85 ?_
  refine kz_dup (pc := 88) rfl dL_init_88 ?_
  obtain ⟨mc4, ms4, hc4, hs4, h⟩ := h
  refine kz_callI (pc := 89) (μ' := mJ4_init_da8c8) (b := (M).2) (d' := d + 5) (mc' := mc4) (ms' := ms4) (As := []) (st := [.ref ((M).2), .ref x0]) (c := c + 1) (sl := sl + 4) kmJ4_init_da8c8 kw_484 (by omega) rfl (Nat.le_of_ble_eq_true rfl) hc4 hs4 dL_init_89 (fun E M9 hx => kz_Tout rfl hc4 hs4 hx) (kz_Cmono (fun v M2 h => ?_) (fun _ _ h => h) h)
  obtain ⟨rfl, h⟩ := h
  show kz_Z G (d + 6) mc ms mL_init Qr Qx 92 [(0, .ref x0), (1, .retAddr x1)] [.ref ((M).2), .ref x0] M2 (c + 1 + mc4) (sl + 4 + ms4)
  obtain ⟨fs5, hM, hlen, h⟩ := h
  refine kz_putF (pc := 92) (k := 14) kcL hM (by decide) hlen rfl rfl kw_674 rfl rfl rfl dL_init_92 ?_
  exact h
theorem rL_init_95 {G : kz_G} {d : Nat} {mc ms : Nat} {Qr : Option Value → kz_M → Prop} {Qx : String → kz_M → Prop} {x0 : Nat} {x1 : Nat}  {M : kz_M} {c sl : Nat} (hc : c ≤ mc) (hs : sl ≤ ms) (h : kz_C G (d + 5) 0 0 mL_cell [.retAddr x1, .int 0] M (fun v M1 => ∃ r2 : Int32, v = some (.int r2) ∧ (zL_init_101 G d mc ms Qr Qx x0 r2 M1 c sl)) Qx) : zL_init_95 G d mc ms Qr Qx x0 x1  M c sl := by
  show kz_Z G (d + 6) mc ms mL_init Qr Qx 95 [(0, .ref x0), (1, .retAddr x1)] [] M c sl
  refine kz_aload_n (pc := 95) 1 (v := .retAddr x1) (i := 1) rfl rfl rfl dL_init_95 ?_
  refine kz_iconst (pc := 96) (v := 0) (by decide) dL_init_96 ?_
  refine kz_callS (pc := 97) (μ' := mL_cell) (d' := d + 5) (mc' := 0) (ms' := 0) (As := [.retAddr x1, .int 0]) (st := []) (c := c) (sl := sl) kmL_cell kw_419 (by omega) rfl (Nat.le_of_ble_eq_true rfl) hc hs dL_init_97 (fun E M9 hx => kz_Tout rfl hc hs hx) (kz_Cmono (fun v M1 h => ?_) (fun _ _ h => h) h)
  obtain ⟨r2, rfl, h⟩ := h
  show kz_Z G (d + 6) mc ms mL_init Qr Qx 100 [(0, .ref x0), (1, .retAddr x1)] [.int r2] M1 c sl
  refine kz_istore_n (pc := 100) (i := 2) (ls' := [(0, .ref x0), (1, .retAddr x1)]) rfl (by decide) rfl dL_init_100 ?_
  refine kz_sub [1, 0] rfl ?_
  exact h
theorem rL_init_101 {G : kz_G} {d : Nat} {mc ms : Nat} {Qr : Option Value → kz_M → Prop} {Qx : String → kz_M → Prop} {x0 : Nat} {x2 : Int32}  {M : kz_M} {c sl : Nat} (hc : c ≤ mc) (hs : sl ≤ ms) (h : kz_C G (d + 5) 0 0 mL_bits [.int x2, .int 0, .int 8] M (fun v M1 => ∃ r2 : Int32, v = some (.int r2) ∧ (∃ fs4, (M1).1 x0 = some (.inl (13, fs4)) ∧ 4 < fs4.length ∧ (kz_C G (d + 5) 0 0 mL_bits [.int x2, .int 8, .int 4] (kz_up M1 x0 (.inl (13, fs4.set 4 (.int r2)))) (fun v M5 => ∃ r6 : Int32, v = some (.int r6) ∧ (∃ fs8, (M5).1 x0 = some (.inl (13, fs8)) ∧ 6 < fs8.length ∧ (zL_init_126 G d mc ms Qr Qx x0 x2 (kz_up M5 x0 (.inl (13, fs8.set 6 (.int (6 + r6))))) c sl))) Qx))) Qx) : zL_init_101 G d mc ms Qr Qx x0 x2  M c sl := by
  show kz_Z G (d + 6) mc ms mL_init Qr Qx 101 [(0, .ref x0), (2, .int x2)] [] M c sl
  refine kz_aload_n (pc := 101) 0 (v := .ref x0) (i := 0) rfl rfl rfl dL_init_101 ?_
  refine kz_iload_n (pc := 102) 1 (i := 2) rfl rfl dL_init_102 ?_
  refine kz_iconst (pc := 103) (v := 0) (by decide) dL_init_103 ?_
  refine kz_bipush (pc := 104) (v := 8) (by decide) dL_init_104 ?_
  refine kz_callS (pc := 106) (μ' := mL_bits) (d' := d + 5) (mc' := 0) (ms' := 0) (As := [.int x2, .int 0, .int 8]) (st := [.ref x0]) (c := c) (sl := sl) kmL_bits kw_512 (by omega) rfl (Nat.le_of_ble_eq_true rfl) hc hs dL_init_106 (fun E M9 hx => kz_Tout rfl hc hs hx) (kz_Cmono (fun v M1 h => ?_) (fun _ _ h => h) h)
  obtain ⟨r2, rfl, h⟩ := h
  show kz_Z G (d + 6) mc ms mL_init Qr Qx 109 [(0, .ref x0), (2, .int x2)] [.int r2, .ref x0] M1 c sl
  obtain ⟨fs4, hM, hlen, h⟩ := h
  refine kz_putf (pc := 109) (k := 4) kcL hM (by decide) hlen kw_664 rfl rfl rfl dL_init_109 ?_
  refine kz_aload_n (pc := 112) 0 (v := .ref x0) (i := 0) rfl rfl rfl dL_init_112 ?_
  refine kz_bipush (pc := 113) (v := 6) (by decide) dL_init_113 ?_
  refine kz_iload_n (pc := 115) 1 (i := 2) rfl rfl dL_init_115 ?_
  refine kz_bipush (pc := 116) (v := 8) (by decide) dL_init_116 ?_
  refine kz_iconst (pc := 118) (v := 4) (by decide) dL_init_118 ?_
  refine kz_callS (pc := 119) (μ' := mL_bits) (d' := d + 5) (mc' := 0) (ms' := 0) (As := [.int x2, .int 8, .int 4]) (st := [.int 6, .ref x0]) (c := c) (sl := sl) kmL_bits kw_512 (by omega) rfl (Nat.le_of_ble_eq_true rfl) hc hs dL_init_119 (fun E M9 hx => kz_Tout rfl hc hs hx) (kz_Cmono (fun v M5 h => ?_) (fun _ _ h => h) h)
  obtain ⟨r6, rfl, h⟩ := h
  show kz_Z G (d + 6) mc ms mL_init Qr Qx 122 [(0, .ref x0), (2, .int x2)] [.int r6, .int 6, .ref x0] M5 c sl
  refine kz_iadd (pc := 122) dL_init_122 ?_
  obtain ⟨fs8, hM, hlen, h⟩ := h
  refine kz_putf (pc := 123) (k := 6) kcL hM (by decide) hlen kw_666 rfl rfl rfl dL_init_123 ?_
  exact h
theorem rL_init_126 {G : kz_G} {d : Nat} {mc ms : Nat} {Qr : Option Value → kz_M → Prop} {Qx : String → kz_M → Prop} {x0 : Nat} {x2 : Int32}  {M : kz_M} {c sl : Nat} (hc : c ≤ mc) (hs : sl ≤ ms) (h : kz_C G (d + 5) 0 0 mL_bits [.int x2, .int 12, .int 2] M (fun v M1 => ∃ r2 : Int32, v = some (.int r2) ∧ (∃ fs4, (M1).1 x0 = some (.inl (13, fs4)) ∧ 7 < fs4.length ∧ (kz_C G (d + 5) 0 0 mL_bits [.int x2, .int 14, .int 2] (kz_up M1 x0 (.inl (13, fs4.set 7 (.int (2 + r2))))) (fun v M5 => ∃ r6 : Int32, v = some (.int r6) ∧ (∃ fs8, (M5).1 x0 = some (.inl (13, fs8)) ∧ 8 < fs8.length ∧ (zL_init_152 G d mc ms Qr Qx x0 x2 (kz_up M5 x0 (.inl (13, fs8.set 8 (.int (1 + r6))))) c sl))) Qx))) Qx) : zL_init_126 G d mc ms Qr Qx x0 x2  M c sl := by
  show kz_Z G (d + 6) mc ms mL_init Qr Qx 126 [(0, .ref x0), (2, .int x2)] [] M c sl
  refine kz_aload_n (pc := 126) 0 (v := .ref x0) (i := 0) rfl rfl rfl dL_init_126 ?_
  refine kz_iconst (pc := 127) (v := 2) (by decide) dL_init_127 ?_
  refine kz_iload_n (pc := 128) 1 (i := 2) rfl rfl dL_init_128 ?_
  refine kz_bipush (pc := 129) (v := 12) (by decide) dL_init_129 ?_
  refine kz_iconst (pc := 131) (v := 2) (by decide) dL_init_131 ?_
  refine kz_callS (pc := 132) (μ' := mL_bits) (d' := d + 5) (mc' := 0) (ms' := 0) (As := [.int x2, .int 12, .int 2]) (st := [.int 2, .ref x0]) (c := c) (sl := sl) kmL_bits kw_512 (by omega) rfl (Nat.le_of_ble_eq_true rfl) hc hs dL_init_132 (fun E M9 hx => kz_Tout rfl hc hs hx) (kz_Cmono (fun v M1 h => ?_) (fun _ _ h => h) h)
  obtain ⟨r2, rfl, h⟩ := h
  show kz_Z G (d + 6) mc ms mL_init Qr Qx 135 [(0, .ref x0), (2, .int x2)] [.int r2, .int 2, .ref x0] M1 c sl
  refine kz_iadd (pc := 135) dL_init_135 ?_
  obtain ⟨fs4, hM, hlen, h⟩ := h
  refine kz_putf (pc := 136) (k := 7) kcL hM (by decide) hlen kw_667 rfl rfl rfl dL_init_136 ?_
  refine kz_aload_n (pc := 139) 0 (v := .ref x0) (i := 0) rfl rfl rfl dL_init_139 ?_
  refine kz_iconst (pc := 140) (v := 1) (by decide) dL_init_140 ?_
  refine kz_iload_n (pc := 141) 1 (i := 2) rfl rfl dL_init_141 ?_
  refine kz_bipush (pc := 142) (v := 14) (by decide) dL_init_142 ?_
  refine kz_iconst (pc := 144) (v := 2) (by decide) dL_init_144 ?_
  refine kz_callS (pc := 145) (μ' := mL_bits) (d' := d + 5) (mc' := 0) (ms' := 0) (As := [.int x2, .int 14, .int 2]) (st := [.int 1, .ref x0]) (c := c) (sl := sl) kmL_bits kw_512 (by omega) rfl (Nat.le_of_ble_eq_true rfl) hc hs dL_init_145 (fun E M9 hx => kz_Tout rfl hc hs hx) (kz_Cmono (fun v M5 h => ?_) (fun _ _ h => h) h)
  obtain ⟨r6, rfl, h⟩ := h
  show kz_Z G (d + 6) mc ms mL_init Qr Qx 148 [(0, .ref x0), (2, .int x2)] [.int r6, .int 1, .ref x0] M5 c sl
  refine kz_iadd (pc := 148) dL_init_148 ?_
  obtain ⟨fs8, hM, hlen, h⟩ := h
  refine kz_putf (pc := 149) (k := 8) kcL hM (by decide) hlen kw_668 rfl rfl rfl dL_init_149 ?_
  exact h
theorem rL_init_152 {G : kz_G} {d : Nat} {mc ms : Nat} {Qr : Option Value → kz_M → Prop} {Qx : String → kz_M → Prop} {x0 : Nat} {x2 : Int32}  {M : kz_M} {c sl : Nat} (hc : c ≤ mc) (hs : sl ≤ ms) (h : kz_C G (d + 5) 0 0 mL_bits [.int x2, .int 16, .int 3] M (fun v M1 => ∃ r2 : Int32, v = some (.int r2) ∧ (∃ fs4, (M1).1 x0 = some (.inl (13, fs4)) ∧ 9 < fs4.length ∧ (kz_C G (d + 5) 0 0 mL_bits [.int x2, .int 19, .int 2] (kz_up M1 x0 (.inl (13, fs4.set 9 (.int r2)))) (fun v M5 => ∃ r6 : Int32, v = some (.int r6) ∧ (∃ fs8, (M5).1 x0 = some (.inl (13, fs8)) ∧ 10 < fs8.length ∧ (zL_init_174 G d mc ms Qr Qx x0 x2 (kz_up M5 x0 (.inl (13, fs8.set 10 (.int r6)))) c sl))) Qx))) Qx) : zL_init_152 G d mc ms Qr Qx x0 x2  M c sl := by
  show kz_Z G (d + 6) mc ms mL_init Qr Qx 152 [(0, .ref x0), (2, .int x2)] [] M c sl
  refine kz_aload_n (pc := 152) 0 (v := .ref x0) (i := 0) rfl rfl rfl dL_init_152 ?_
  refine kz_iload_n (pc := 153) 1 (i := 2) rfl rfl dL_init_153 ?_
  refine kz_bipush (pc := 154) (v := 16) (by decide) dL_init_154 ?_
  refine kz_iconst (pc := 156) (v := 3) (by decide) dL_init_156 ?_
  refine kz_callS (pc := 157) (μ' := mL_bits) (d' := d + 5) (mc' := 0) (ms' := 0) (As := [.int x2, .int 16, .int 3]) (st := [.ref x0]) (c := c) (sl := sl) kmL_bits kw_512 (by omega) rfl (Nat.le_of_ble_eq_true rfl) hc hs dL_init_157 (fun E M9 hx => kz_Tout rfl hc hs hx) (kz_Cmono (fun v M1 h => ?_) (fun _ _ h => h) h)
  obtain ⟨r2, rfl, h⟩ := h
  show kz_Z G (d + 6) mc ms mL_init Qr Qx 160 [(0, .ref x0), (2, .int x2)] [.int r2, .ref x0] M1 c sl
  obtain ⟨fs4, hM, hlen, h⟩ := h
  refine kz_putf (pc := 160) (k := 9) kcL hM (by decide) hlen kw_669 rfl rfl rfl dL_init_160 ?_
  refine kz_aload_n (pc := 163) 0 (v := .ref x0) (i := 0) rfl rfl rfl dL_init_163 ?_
  refine kz_iload_n (pc := 164) 1 (i := 2) rfl rfl dL_init_164 ?_
  refine kz_bipush (pc := 165) (v := 19) (by decide) dL_init_165 ?_
  refine kz_iconst (pc := 167) (v := 2) (by decide) dL_init_167 ?_
  refine kz_callS (pc := 168) (μ' := mL_bits) (d' := d + 5) (mc' := 0) (ms' := 0) (As := [.int x2, .int 19, .int 2]) (st := [.ref x0]) (c := c) (sl := sl) kmL_bits kw_512 (by omega) rfl (Nat.le_of_ble_eq_true rfl) hc hs dL_init_168 (fun E M9 hx => kz_Tout rfl hc hs hx) (kz_Cmono (fun v M5 h => ?_) (fun _ _ h => h) h)
  obtain ⟨r6, rfl, h⟩ := h
  show kz_Z G (d + 6) mc ms mL_init Qr Qx 171 [(0, .ref x0), (2, .int x2)] [.int r6, .ref x0] M5 c sl
  obtain ⟨fs8, hM, hlen, h⟩ := h
  refine kz_putf (pc := 171) (k := 10) kcL hM (by decide) hlen kw_670 rfl rfl rfl dL_init_171 ?_
  exact h
theorem rL_init_174 {G : kz_G} {d : Nat} {mc ms : Nat} {Qr : Option Value → kz_M → Prop} {Qx : String → kz_M → Prop} {x0 : Nat} {x2 : Int32}  {M : kz_M} {c sl : Nat} (hc : c ≤ mc) (hs : sl ≤ ms) (h : kz_C G (d + 5) 0 0 mL_bits [.int x2, .int 21, .int 2] M (fun v M1 => ∃ r2 : Int32, v = some (.int r2) ∧ (∃ fs4, (M1).1 x0 = some (.inl (13, fs4)) ∧ 11 < fs4.length ∧ (kz_C G (d + 5) 0 0 mL_bits [.int x2, .int 23, .int 2] (kz_up M1 x0 (.inl (13, fs4.set 11 (.int (1 + r2))))) (fun v M5 => ∃ r6 : Int32, v = some (.int r6) ∧ (∃ fs8, (M5).1 x0 = some (.inl (13, fs8)) ∧ 12 < fs8.length ∧ (zL_init_198 G d mc ms Qr Qx x0 (kz_up M5 x0 (.inl (13, fs8.set 12 (.int r6)))) c sl))) Qx))) Qx) : zL_init_174 G d mc ms Qr Qx x0 x2  M c sl := by
  show kz_Z G (d + 6) mc ms mL_init Qr Qx 174 [(0, .ref x0), (2, .int x2)] [] M c sl
  refine kz_aload_n (pc := 174) 0 (v := .ref x0) (i := 0) rfl rfl rfl dL_init_174 ?_
  refine kz_iconst (pc := 175) (v := 1) (by decide) dL_init_175 ?_
  refine kz_iload_n (pc := 176) 1 (i := 2) rfl rfl dL_init_176 ?_
  refine kz_bipush (pc := 177) (v := 21) (by decide) dL_init_177 ?_
  refine kz_iconst (pc := 179) (v := 2) (by decide) dL_init_179 ?_
  refine kz_callS (pc := 180) (μ' := mL_bits) (d' := d + 5) (mc' := 0) (ms' := 0) (As := [.int x2, .int 21, .int 2]) (st := [.int 1, .ref x0]) (c := c) (sl := sl) kmL_bits kw_512 (by omega) rfl (Nat.le_of_ble_eq_true rfl) hc hs dL_init_180 (fun E M9 hx => kz_Tout rfl hc hs hx) (kz_Cmono (fun v M1 h => ?_) (fun _ _ h => h) h)
  obtain ⟨r2, rfl, h⟩ := h
  show kz_Z G (d + 6) mc ms mL_init Qr Qx 183 [(0, .ref x0), (2, .int x2)] [.int r2, .int 1, .ref x0] M1 c sl
  refine kz_iadd (pc := 183) dL_init_183 ?_
  obtain ⟨fs4, hM, hlen, h⟩ := h
  refine kz_putf (pc := 184) (k := 11) kcL hM (by decide) hlen kw_671 rfl rfl rfl dL_init_184 ?_
  refine kz_aload_n (pc := 187) 0 (v := .ref x0) (i := 0) rfl rfl rfl dL_init_187 ?_
  refine kz_iload_n (pc := 188) 1 (i := 2) rfl rfl dL_init_188 ?_
  refine kz_bipush (pc := 189) (v := 23) (by decide) dL_init_189 ?_
  refine kz_iconst (pc := 191) (v := 2) (by decide) dL_init_191 ?_
  refine kz_callS (pc := 192) (μ' := mL_bits) (d' := d + 5) (mc' := 0) (ms' := 0) (As := [.int x2, .int 23, .int 2]) (st := [.ref x0]) (c := c) (sl := sl) kmL_bits kw_512 (by omega) rfl (Nat.le_of_ble_eq_true rfl) hc hs dL_init_192 (fun E M9 hx => kz_Tout rfl hc hs hx) (kz_Cmono (fun v M5 h => ?_) (fun _ _ h => h) h)
  obtain ⟨r6, rfl, h⟩ := h
  show kz_Z G (d + 6) mc ms mL_init Qr Qx 195 [(0, .ref x0), (2, .int x2)] [.int r6, .ref x0] M5 c sl
  obtain ⟨fs8, hM, hlen, h⟩ := h
  refine kz_putf (pc := 195) (k := 12) kcL hM (by decide) hlen kw_672 rfl rfl rfl dL_init_195 ?_
  refine kz_sub [0] rfl ?_
  exact h
theorem rL_init_198 {G : kz_G} {d : Nat} {mc ms : Nat} {Qr : Option Value → kz_M → Prop} {Qx : String → kz_M → Prop} {x0 : Nat}  {M : kz_M} {c sl : Nat} (hc : c ≤ mc) (hs : sl ≤ ms) (h : ∃ fs1 v2, (M).1 x0 = some (.inl (13, fs1)) ∧ fs1[14]? = some (.ref v2) ∧ ((∃ fs16, (M).1 v2 = some (.inl (15, fs16))) ∧ ∃ mc5 ms5, c + mc5 ≤ mc ∧ sl + ms5 ≤ ms ∧ kz_C G (d + 5) mc5 ms5 mJ4_append_15ec4 [.ref v2, .retAddr 1036] M (fun v M3 => ∃ r4 : Nat, v = some (.ref r4) ∧ (∃ fs6 v7, (M3).1 x0 = some (.inl (13, fs6)) ∧ fs6[4]? = some (.int v7) ∧ ((∃ fs15, (M3).1 r4 = some (.inl (15, fs15))) ∧ ∃ mc10 ms10, c + mc5 + mc10 ≤ mc ∧ sl + ms5 + ms10 ≤ ms ∧ kz_C G (d + 5) mc10 ms10 mJ4_append_bf812 [.ref r4, .int v7] M3 (fun v M8 => ∃ r9 : Nat, v = some (.ref r9) ∧ ((∃ fs14, (M8).1 r9 = some (.inl (15, fs14))) ∧ ∃ mc13 ms13, c + mc5 + mc10 + mc13 ≤ mc ∧ sl + ms5 + ms10 + ms13 ≤ ms ∧ kz_C G (d + 5) mc13 ms13 mJ4_append_15ec4 [.ref r9, .retAddr 1037] M8 (fun v M11 => ∃ r12 : Nat, v = some (.ref r12) ∧ (zL_init_219 G d mc ms Qr Qx x0 r12 M11 (c + mc5 + mc10 + mc13) (sl + ms5 + ms10 + ms13))) Qx)) Qx))) Qx)) : zL_init_198 G d mc ms Qr Qx x0  M c sl := by
  show kz_Z G (d + 6) mc ms mL_init Qr Qx 198 [(0, .ref x0)] [] M c sl
  refine kz_aload_n (pc := 198) 0 (v := .ref x0) (i := 0) rfl rfl rfl dL_init_198 ?_
  obtain ⟨fs1, v2, hM, hv, h⟩ := h
  refine kz_getf (pc := 199) (k := 14) kcL hM hv (by decide) kw_674 dL_init_199 ?_
  refine kz_ldcS (pc := 202) (j := 1036) (tx := "office ") (List.mem_of_getElem? (i := 36) rfl) dL_init_202 ?_
  obtain ⟨⟨fs16, he⟩, h⟩ := h
  obtain ⟨mc5, ms5, hc5, hs5, h⟩ := h
  refine kz_callV (pc := 204) (μ' := mJ4_append_15ec4) (ci := 15) (q := (RJ4, TJ4, 4)) (b := v2) (d' := d + 5) (mc' := mc5) (ms' := ms5) (As := [.retAddr 1036]) (st := []) (c := c) (sl := sl) kmJ4_append_15ec4 kw_516 (by omega) rfl (Nat.le_of_ble_eq_true rfl) he rfl rfl hc5 hs5 dL_init_204 (fun E M9 hx => kz_Tout rfl hc5 hs5 hx) (kz_Cmono (fun v M3 h => ?_) (fun _ _ h => h) h)
  obtain ⟨r4, rfl, h⟩ := h
  show kz_Z G (d + 6) mc ms mL_init Qr Qx 207 [(0, .ref x0)] [.ref r4] M3 (c + mc5) (sl + ms5)
  refine kz_aload_n (pc := 207) 0 (v := .ref x0) (i := 0) rfl rfl rfl dL_init_207 ?_
  obtain ⟨fs6, v7, hM, hv, h⟩ := h
  refine kz_getf (pc := 208) (k := 4) kcL hM hv (by decide) kw_664 dL_init_208 ?_
  obtain ⟨⟨fs15, he⟩, h⟩ := h
  obtain ⟨mc10, ms10, hc10, hs10, h⟩ := h
  refine kz_callV (pc := 211) (μ' := mJ4_append_bf812) (ci := 15) (q := (RJ4, TJ4, 4)) (b := r4) (d' := d + 5) (mc' := mc10) (ms' := ms10) (As := [.int v7]) (st := []) (c := c + mc5) (sl := sl + ms5) kmJ4_append_bf812 kw_615 (by omega) rfl (Nat.le_of_ble_eq_true rfl) he rfl rfl hc10 hs10 dL_init_211 (fun E M9 hx => kz_Tout rfl hc10 hs10 hx) (kz_Cmono (fun v M8 h => ?_) (fun _ _ h => h) h)
  obtain ⟨r9, rfl, h⟩ := h
  show kz_Z G (d + 6) mc ms mL_init Qr Qx 214 [(0, .ref x0)] [.ref r9] M8 (c + mc5 + mc10) (sl + ms5 + ms10)
  refine kz_ldcS (pc := 214) (j := 1037) (tx := ";writer a;writer b;writer c;measure ") (List.mem_of_getElem? (i := 37) rfl) dL_init_214 ?_
  obtain ⟨⟨fs14, he⟩, h⟩ := h
  obtain ⟨mc13, ms13, hc13, hs13, h⟩ := h
  refine kz_callV (pc := 216) (μ' := mJ4_append_15ec4) (ci := 15) (q := (RJ4, TJ4, 4)) (b := r9) (d' := d + 5) (mc' := mc13) (ms' := ms13) (As := [.retAddr 1037]) (st := []) (c := c + mc5 + mc10) (sl := sl + ms5 + ms10) kmJ4_append_15ec4 kw_516 (by omega) rfl (Nat.le_of_ble_eq_true rfl) he rfl rfl hc13 hs13 dL_init_216 (fun E M9 hx => kz_Tout rfl hc13 hs13 hx) (kz_Cmono (fun v M11 h => ?_) (fun _ _ h => h) h)
  obtain ⟨r12, rfl, h⟩ := h
  show kz_Z G (d + 6) mc ms mL_init Qr Qx 219 [(0, .ref x0)] [.ref r12] M11 (c + mc5 + mc10 + mc13) (sl + ms5 + ms10 + ms13)
  exact h
theorem rL_init_219 {G : kz_G} {d : Nat} {mc ms : Nat} {Qr : Option Value → kz_M → Prop} {Qx : String → kz_M → Prop} {x0 : Nat} {s0 : Nat} {M : kz_M} {c sl : Nat} (hc : c ≤ mc) (hs : sl ≤ ms) (h : ∃ fs1 v2, (M).1 x0 = some (.inl (13, fs1)) ∧ fs1[6]? = some (.int v2) ∧ ((∃ fs10, (M).1 s0 = some (.inl (15, fs10))) ∧ ∃ mc5 ms5, c + mc5 ≤ mc ∧ sl + ms5 ≤ ms ∧ kz_C G (d + 5) mc5 ms5 mJ4_append_bf812 [.ref s0, .int v2] M (fun v M3 => ∃ r4 : Nat, v = some (.ref r4) ∧ ((∃ fs9, (M3).1 r4 = some (.inl (15, fs9))) ∧ ∃ mc8 ms8, c + mc5 + mc8 ≤ mc ∧ sl + ms5 + ms8 ≤ ms ∧ kz_C G (d + 5) mc8 ms8 mJ4_append_15ec4 [.ref r4, .retAddr 1038] M3 (fun v M6 => ∃ r7 : Nat, v = some (.ref r7) ∧ (zL_init_231 G d mc ms Qr Qx x0 r7 M6 (c + mc5 + mc8) (sl + ms5 + ms8))) Qx)) Qx)) : zL_init_219 G d mc ms Qr Qx x0 s0 M c sl := by
  show kz_Z G (d + 6) mc ms mL_init Qr Qx 219 [(0, .ref x0)] [.ref s0] M c sl
  refine kz_aload_n (pc := 219) 0 (v := .ref x0) (i := 0) rfl rfl rfl dL_init_219 ?_
  obtain ⟨fs1, v2, hM, hv, h⟩ := h
  refine kz_getf (pc := 220) (k := 6) kcL hM hv (by decide) kw_666 dL_init_220 ?_
  obtain ⟨⟨fs10, he⟩, h⟩ := h
  obtain ⟨mc5, ms5, hc5, hs5, h⟩ := h
  refine kz_callV (pc := 223) (μ' := mJ4_append_bf812) (ci := 15) (q := (RJ4, TJ4, 4)) (b := s0) (d' := d + 5) (mc' := mc5) (ms' := ms5) (As := [.int v2]) (st := []) (c := c) (sl := sl) kmJ4_append_bf812 kw_615 (by omega) rfl (Nat.le_of_ble_eq_true rfl) he rfl rfl hc5 hs5 dL_init_223 (fun E M9 hx => kz_Tout rfl hc5 hs5 hx) (kz_Cmono (fun v M3 h => ?_) (fun _ _ h => h) h)
  obtain ⟨r4, rfl, h⟩ := h
  show kz_Z G (d + 6) mc ms mL_init Qr Qx 226 [(0, .ref x0)] [.ref r4] M3 (c + mc5) (sl + ms5)
  refine kz_ldcS (pc := 226) (j := 1038) (tx := ";stuff ") (List.mem_of_getElem? (i := 38) rfl) dL_init_226 ?_
  obtain ⟨⟨fs9, he⟩, h⟩ := h
  obtain ⟨mc8, ms8, hc8, hs8, h⟩ := h
  refine kz_callV (pc := 228) (μ' := mJ4_append_15ec4) (ci := 15) (q := (RJ4, TJ4, 4)) (b := r4) (d' := d + 5) (mc' := mc8) (ms' := ms8) (As := [.retAddr 1038]) (st := []) (c := c + mc5) (sl := sl + ms5) kmJ4_append_15ec4 kw_516 (by omega) rfl (Nat.le_of_ble_eq_true rfl) he rfl rfl hc8 hs8 dL_init_228 (fun E M9 hx => kz_Tout rfl hc8 hs8 hx) (kz_Cmono (fun v M6 h => ?_) (fun _ _ h => h) h)
  obtain ⟨r7, rfl, h⟩ := h
  show kz_Z G (d + 6) mc ms mL_init Qr Qx 231 [(0, .ref x0)] [.ref r7] M6 (c + mc5 + mc8) (sl + ms5 + ms8)
  exact h
theorem rL_init_231 {G : kz_G} {d : Nat} {mc ms : Nat} {Qr : Option Value → kz_M → Prop} {Qx : String → kz_M → Prop} {x0 : Nat} {s0 : Nat} {M : kz_M} {c sl : Nat} (hc : c ≤ mc) (hs : sl ≤ ms) (h : ∃ fs1 v2, (M).1 x0 = some (.inl (13, fs1)) ∧ fs1[7]? = some (.int v2) ∧ ((∃ fs10, (M).1 s0 = some (.inl (15, fs10))) ∧ ∃ mc5 ms5, c + mc5 ≤ mc ∧ sl + ms5 ≤ ms ∧ kz_C G (d + 5) mc5 ms5 mJ4_append_bf812 [.ref s0, .int v2] M (fun v M3 => ∃ r4 : Nat, v = some (.ref r4) ∧ ((∃ fs9, (M3).1 r4 = some (.inl (15, fs9))) ∧ ∃ mc8 ms8, c + mc5 + mc8 ≤ mc ∧ sl + ms5 + ms8 ≤ ms ∧ kz_C G (d + 5) mc8 ms8 mJ4_append_15ec4 [.ref r4, .retAddr 1039] M3 (fun v M6 => ∃ r7 : Nat, v = some (.ref r7) ∧ (zL_init_243 G d mc ms Qr Qx x0 r7 M6 (c + mc5 + mc8) (sl + ms5 + ms8))) Qx)) Qx)) : zL_init_231 G d mc ms Qr Qx x0 s0 M c sl := by
  show kz_Z G (d + 6) mc ms mL_init Qr Qx 231 [(0, .ref x0)] [.ref s0] M c sl
  refine kz_aload_n (pc := 231) 0 (v := .ref x0) (i := 0) rfl rfl rfl dL_init_231 ?_
  obtain ⟨fs1, v2, hM, hv, h⟩ := h
  refine kz_getf (pc := 232) (k := 7) kcL hM hv (by decide) kw_667 dL_init_232 ?_
  obtain ⟨⟨fs10, he⟩, h⟩ := h
  obtain ⟨mc5, ms5, hc5, hs5, h⟩ := h
  refine kz_callV (pc := 235) (μ' := mJ4_append_bf812) (ci := 15) (q := (RJ4, TJ4, 4)) (b := s0) (d' := d + 5) (mc' := mc5) (ms' := ms5) (As := [.int v2]) (st := []) (c := c) (sl := sl) kmJ4_append_bf812 kw_615 (by omega) rfl (Nat.le_of_ble_eq_true rfl) he rfl rfl hc5 hs5 dL_init_235 (fun E M9 hx => kz_Tout rfl hc5 hs5 hx) (kz_Cmono (fun v M3 h => ?_) (fun _ _ h => h) h)
  obtain ⟨r4, rfl, h⟩ := h
  show kz_Z G (d + 6) mc ms mL_init Qr Qx 238 [(0, .ref x0)] [.ref r4] M3 (c + mc5) (sl + ms5)
  refine kz_ldcS (pc := 238) (j := 1039) (tx := ";worn ") (List.mem_of_getElem? (i := 39) rfl) dL_init_238 ?_
  obtain ⟨⟨fs9, he⟩, h⟩ := h
  obtain ⟨mc8, ms8, hc8, hs8, h⟩ := h
  refine kz_callV (pc := 240) (μ' := mJ4_append_15ec4) (ci := 15) (q := (RJ4, TJ4, 4)) (b := r4) (d' := d + 5) (mc' := mc8) (ms' := ms8) (As := [.retAddr 1039]) (st := []) (c := c + mc5) (sl := sl + ms5) kmJ4_append_15ec4 kw_516 (by omega) rfl (Nat.le_of_ble_eq_true rfl) he rfl rfl hc8 hs8 dL_init_240 (fun E M9 hx => kz_Tout rfl hc8 hs8 hx) (kz_Cmono (fun v M6 h => ?_) (fun _ _ h => h) h)
  obtain ⟨r7, rfl, h⟩ := h
  show kz_Z G (d + 6) mc ms mL_init Qr Qx 243 [(0, .ref x0)] [.ref r7] M6 (c + mc5 + mc8) (sl + ms5 + ms8)
  exact h
theorem rL_init_243 {G : kz_G} {d : Nat} {mc ms : Nat} {Qr : Option Value → kz_M → Prop} {Qx : String → kz_M → Prop} {x0 : Nat} {s0 : Nat} {M : kz_M} {c sl : Nat} (hc : c ≤ mc) (hs : sl ≤ ms) (h : ∃ fs1 v2, (M).1 x0 = some (.inl (13, fs1)) ∧ fs1[8]? = some (.int v2) ∧ ((∃ fs10, (M).1 s0 = some (.inl (15, fs10))) ∧ ∃ mc5 ms5, c + mc5 ≤ mc ∧ sl + ms5 ≤ ms ∧ kz_C G (d + 5) mc5 ms5 mJ4_append_bf812 [.ref s0, .int v2] M (fun v M3 => ∃ r4 : Nat, v = some (.ref r4) ∧ ((∃ fs9, (M3).1 r4 = some (.inl (15, fs9))) ∧ ∃ mc8 ms8, c + mc5 + mc8 ≤ mc ∧ sl + ms5 + ms8 ≤ ms ∧ kz_C G (d + 5) mc8 ms8 mJ4_append_15ec4 [.ref r4, .retAddr 1040] M3 (fun v M6 => ∃ r7 : Nat, v = some (.ref r7) ∧ (zL_init_255 G d mc ms Qr Qx x0 r7 M6 (c + mc5 + mc8) (sl + ms5 + ms8))) Qx)) Qx)) : zL_init_243 G d mc ms Qr Qx x0 s0 M c sl := by
  show kz_Z G (d + 6) mc ms mL_init Qr Qx 243 [(0, .ref x0)] [.ref s0] M c sl
  refine kz_aload_n (pc := 243) 0 (v := .ref x0) (i := 0) rfl rfl rfl dL_init_243 ?_
  obtain ⟨fs1, v2, hM, hv, h⟩ := h
  refine kz_getf (pc := 244) (k := 8) kcL hM hv (by decide) kw_668 dL_init_244 ?_
  obtain ⟨⟨fs10, he⟩, h⟩ := h
  obtain ⟨mc5, ms5, hc5, hs5, h⟩ := h
  refine kz_callV (pc := 247) (μ' := mJ4_append_bf812) (ci := 15) (q := (RJ4, TJ4, 4)) (b := s0) (d' := d + 5) (mc' := mc5) (ms' := ms5) (As := [.int v2]) (st := []) (c := c) (sl := sl) kmJ4_append_bf812 kw_615 (by omega) rfl (Nat.le_of_ble_eq_true rfl) he rfl rfl hc5 hs5 dL_init_247 (fun E M9 hx => kz_Tout rfl hc5 hs5 hx) (kz_Cmono (fun v M3 h => ?_) (fun _ _ h => h) h)
  obtain ⟨r4, rfl, h⟩ := h
  show kz_Z G (d + 6) mc ms mL_init Qr Qx 250 [(0, .ref x0)] [.ref r4] M3 (c + mc5) (sl + ms5)
  refine kz_ldcS (pc := 250) (j := 1040) (tx := ";fine ") (List.mem_of_getElem? (i := 40) rfl) dL_init_250 ?_
  obtain ⟨⟨fs9, he⟩, h⟩ := h
  obtain ⟨mc8, ms8, hc8, hs8, h⟩ := h
  refine kz_callV (pc := 252) (μ' := mJ4_append_15ec4) (ci := 15) (q := (RJ4, TJ4, 4)) (b := r4) (d' := d + 5) (mc' := mc8) (ms' := ms8) (As := [.retAddr 1040]) (st := []) (c := c + mc5) (sl := sl + ms5) kmJ4_append_15ec4 kw_516 (by omega) rfl (Nat.le_of_ble_eq_true rfl) he rfl rfl hc8 hs8 dL_init_252 (fun E M9 hx => kz_Tout rfl hc8 hs8 hx) (kz_Cmono (fun v M6 h => ?_) (fun _ _ h => h) h)
  obtain ⟨r7, rfl, h⟩ := h
  show kz_Z G (d + 6) mc ms mL_init Qr Qx 255 [(0, .ref x0)] [.ref r7] M6 (c + mc5 + mc8) (sl + ms5 + ms8)
  exact h
theorem rL_init_255 {G : kz_G} {d : Nat} {mc ms : Nat} {Qr : Option Value → kz_M → Prop} {Qx : String → kz_M → Prop} {x0 : Nat} {s0 : Nat} {M : kz_M} {c sl : Nat} (hc : c ≤ mc) (hs : sl ≤ ms) (h : ∃ fs1 v2, (M).1 x0 = some (.inl (13, fs1)) ∧ fs1[9]? = some (.int v2) ∧ ((∃ fs10, (M).1 s0 = some (.inl (15, fs10))) ∧ ∃ mc5 ms5, c + mc5 ≤ mc ∧ sl + ms5 ≤ ms ∧ kz_C G (d + 5) mc5 ms5 mJ4_append_bf812 [.ref s0, .int v2] M (fun v M3 => ∃ r4 : Nat, v = some (.ref r4) ∧ ((∃ fs9, (M3).1 r4 = some (.inl (15, fs9))) ∧ ∃ mc8 ms8, c + mc5 + mc8 ≤ mc ∧ sl + ms5 + ms8 ≤ ms ∧ kz_C G (d + 5) mc8 ms8 mJ4_append_15ec4 [.ref r4, .retAddr 1041] M3 (fun v M6 => ∃ r7 : Nat, v = some (.ref r7) ∧ (zL_init_267 G d mc ms Qr Qx x0 r7 M6 (c + mc5 + mc8) (sl + ms5 + ms8))) Qx)) Qx)) : zL_init_255 G d mc ms Qr Qx x0 s0 M c sl := by
  show kz_Z G (d + 6) mc ms mL_init Qr Qx 255 [(0, .ref x0)] [.ref s0] M c sl
  refine kz_aload_n (pc := 255) 0 (v := .ref x0) (i := 0) rfl rfl rfl dL_init_255 ?_
  obtain ⟨fs1, v2, hM, hv, h⟩ := h
  refine kz_getf (pc := 256) (k := 9) kcL hM hv (by decide) kw_669 dL_init_256 ?_
  obtain ⟨⟨fs10, he⟩, h⟩ := h
  obtain ⟨mc5, ms5, hc5, hs5, h⟩ := h
  refine kz_callV (pc := 259) (μ' := mJ4_append_bf812) (ci := 15) (q := (RJ4, TJ4, 4)) (b := s0) (d' := d + 5) (mc' := mc5) (ms' := ms5) (As := [.int v2]) (st := []) (c := c) (sl := sl) kmJ4_append_bf812 kw_615 (by omega) rfl (Nat.le_of_ble_eq_true rfl) he rfl rfl hc5 hs5 dL_init_259 (fun E M9 hx => kz_Tout rfl hc5 hs5 hx) (kz_Cmono (fun v M3 h => ?_) (fun _ _ h => h) h)
  obtain ⟨r4, rfl, h⟩ := h
  show kz_Z G (d + 6) mc ms mL_init Qr Qx 262 [(0, .ref x0)] [.ref r4] M3 (c + mc5) (sl + ms5)
  refine kz_ldcS (pc := 262) (j := 1041) (tx := ";term ") (List.mem_of_getElem? (i := 41) rfl) dL_init_262 ?_
  obtain ⟨⟨fs9, he⟩, h⟩ := h
  obtain ⟨mc8, ms8, hc8, hs8, h⟩ := h
  refine kz_callV (pc := 264) (μ' := mJ4_append_15ec4) (ci := 15) (q := (RJ4, TJ4, 4)) (b := r4) (d' := d + 5) (mc' := mc8) (ms' := ms8) (As := [.retAddr 1041]) (st := []) (c := c + mc5) (sl := sl + ms5) kmJ4_append_15ec4 kw_516 (by omega) rfl (Nat.le_of_ble_eq_true rfl) he rfl rfl hc8 hs8 dL_init_264 (fun E M9 hx => kz_Tout rfl hc8 hs8 hx) (kz_Cmono (fun v M6 h => ?_) (fun _ _ h => h) h)
  obtain ⟨r7, rfl, h⟩ := h
  show kz_Z G (d + 6) mc ms mL_init Qr Qx 267 [(0, .ref x0)] [.ref r7] M6 (c + mc5 + mc8) (sl + ms5 + ms8)
  exact h
theorem rL_init_267 {G : kz_G} {d : Nat} {mc ms : Nat} {Qr : Option Value → kz_M → Prop} {Qx : String → kz_M → Prop} {x0 : Nat} {s0 : Nat} {M : kz_M} {c sl : Nat} (hc : c ≤ mc) (hs : sl ≤ ms) (h : ∃ fs1 v2, (M).1 x0 = some (.inl (13, fs1)) ∧ fs1[10]? = some (.int v2) ∧ ((∃ fs10, (M).1 s0 = some (.inl (15, fs10))) ∧ ∃ mc5 ms5, c + mc5 ≤ mc ∧ sl + ms5 ≤ ms ∧ kz_C G (d + 5) mc5 ms5 mJ4_append_bf812 [.ref s0, .int v2] M (fun v M3 => ∃ r4 : Nat, v = some (.ref r4) ∧ ((∃ fs9, (M3).1 r4 = some (.inl (15, fs9))) ∧ ∃ mc8 ms8, c + mc5 + mc8 ≤ mc ∧ sl + ms5 + ms8 ≤ ms ∧ kz_C G (d + 5) mc8 ms8 mJ4_append_15ec4 [.ref r4, .retAddr 1042] M3 (fun v M6 => ∃ r7 : Nat, v = some (.ref r7) ∧ (zL_init_279 G d mc ms Qr Qx x0 r7 M6 (c + mc5 + mc8) (sl + ms5 + ms8))) Qx)) Qx)) : zL_init_267 G d mc ms Qr Qx x0 s0 M c sl := by
  show kz_Z G (d + 6) mc ms mL_init Qr Qx 267 [(0, .ref x0)] [.ref s0] M c sl
  refine kz_aload_n (pc := 267) 0 (v := .ref x0) (i := 0) rfl rfl rfl dL_init_267 ?_
  obtain ⟨fs1, v2, hM, hv, h⟩ := h
  refine kz_getf (pc := 268) (k := 10) kcL hM hv (by decide) kw_670 dL_init_268 ?_
  obtain ⟨⟨fs10, he⟩, h⟩ := h
  obtain ⟨mc5, ms5, hc5, hs5, h⟩ := h
  refine kz_callV (pc := 271) (μ' := mJ4_append_bf812) (ci := 15) (q := (RJ4, TJ4, 4)) (b := s0) (d' := d + 5) (mc' := mc5) (ms' := ms5) (As := [.int v2]) (st := []) (c := c) (sl := sl) kmJ4_append_bf812 kw_615 (by omega) rfl (Nat.le_of_ble_eq_true rfl) he rfl rfl hc5 hs5 dL_init_271 (fun E M9 hx => kz_Tout rfl hc5 hs5 hx) (kz_Cmono (fun v M3 h => ?_) (fun _ _ h => h) h)
  obtain ⟨r4, rfl, h⟩ := h
  show kz_Z G (d + 6) mc ms mL_init Qr Qx 274 [(0, .ref x0)] [.ref r4] M3 (c + mc5) (sl + ms5)
  refine kz_ldcS (pc := 274) (j := 1042) (tx := ";distinct ") (List.mem_of_getElem? (i := 42) rfl) dL_init_274 ?_
  obtain ⟨⟨fs9, he⟩, h⟩ := h
  obtain ⟨mc8, ms8, hc8, hs8, h⟩ := h
  refine kz_callV (pc := 276) (μ' := mJ4_append_15ec4) (ci := 15) (q := (RJ4, TJ4, 4)) (b := r4) (d' := d + 5) (mc' := mc8) (ms' := ms8) (As := [.retAddr 1042]) (st := []) (c := c + mc5) (sl := sl + ms5) kmJ4_append_15ec4 kw_516 (by omega) rfl (Nat.le_of_ble_eq_true rfl) he rfl rfl hc8 hs8 dL_init_276 (fun E M9 hx => kz_Tout rfl hc8 hs8 hx) (kz_Cmono (fun v M6 h => ?_) (fun _ _ h => h) h)
  obtain ⟨r7, rfl, h⟩ := h
  show kz_Z G (d + 6) mc ms mL_init Qr Qx 279 [(0, .ref x0)] [.ref r7] M6 (c + mc5 + mc8) (sl + ms5 + ms8)
  exact h
theorem rL_init_279 {G : kz_G} {d : Nat} {mc ms : Nat} {Qr : Option Value → kz_M → Prop} {Qx : String → kz_M → Prop} {x0 : Nat} {s0 : Nat} {M : kz_M} {c sl : Nat} (hc : c ≤ mc) (hs : sl ≤ ms) (h : ∃ fs1 v2, (M).1 x0 = some (.inl (13, fs1)) ∧ fs1[11]? = some (.int v2) ∧ ((∃ fs10, (M).1 s0 = some (.inl (15, fs10))) ∧ ∃ mc5 ms5, c + mc5 ≤ mc ∧ sl + ms5 ≤ ms ∧ kz_C G (d + 5) mc5 ms5 mJ4_append_bf812 [.ref s0, .int v2] M (fun v M3 => ∃ r4 : Nat, v = some (.ref r4) ∧ ((∃ fs9, (M3).1 r4 = some (.inl (15, fs9))) ∧ ∃ mc8 ms8, c + mc5 + mc8 ≤ mc ∧ sl + ms5 + ms8 ≤ ms ∧ kz_C G (d + 5) mc8 ms8 mJ4_append_15ec4 [.ref r4, .retAddr 1043] M3 (fun v M6 => ∃ r7 : Nat, v = some (.ref r7) ∧ (zL_init_291 G d mc ms Qr Qx x0 r7 M6 (c + mc5 + mc8) (sl + ms5 + ms8))) Qx)) Qx)) : zL_init_279 G d mc ms Qr Qx x0 s0 M c sl := by
  show kz_Z G (d + 6) mc ms mL_init Qr Qx 279 [(0, .ref x0)] [.ref s0] M c sl
  refine kz_aload_n (pc := 279) 0 (v := .ref x0) (i := 0) rfl rfl rfl dL_init_279 ?_
  obtain ⟨fs1, v2, hM, hv, h⟩ := h
  refine kz_getf (pc := 280) (k := 11) kcL hM hv (by decide) kw_671 dL_init_280 ?_
  obtain ⟨⟨fs10, he⟩, h⟩ := h
  obtain ⟨mc5, ms5, hc5, hs5, h⟩ := h
  refine kz_callV (pc := 283) (μ' := mJ4_append_bf812) (ci := 15) (q := (RJ4, TJ4, 4)) (b := s0) (d' := d + 5) (mc' := mc5) (ms' := ms5) (As := [.int v2]) (st := []) (c := c) (sl := sl) kmJ4_append_bf812 kw_615 (by omega) rfl (Nat.le_of_ble_eq_true rfl) he rfl rfl hc5 hs5 dL_init_283 (fun E M9 hx => kz_Tout rfl hc5 hs5 hx) (kz_Cmono (fun v M3 h => ?_) (fun _ _ h => h) h)
  obtain ⟨r4, rfl, h⟩ := h
  show kz_Z G (d + 6) mc ms mL_init Qr Qx 286 [(0, .ref x0)] [.ref r4] M3 (c + mc5) (sl + ms5)
  refine kz_ldcS (pc := 286) (j := 1043) (tx := ";fee ") (List.mem_of_getElem? (i := 43) rfl) dL_init_286 ?_
  obtain ⟨⟨fs9, he⟩, h⟩ := h
  obtain ⟨mc8, ms8, hc8, hs8, h⟩ := h
  refine kz_callV (pc := 288) (μ' := mJ4_append_15ec4) (ci := 15) (q := (RJ4, TJ4, 4)) (b := r4) (d' := d + 5) (mc' := mc8) (ms' := ms8) (As := [.retAddr 1043]) (st := []) (c := c + mc5) (sl := sl + ms5) kmJ4_append_15ec4 kw_516 (by omega) rfl (Nat.le_of_ble_eq_true rfl) he rfl rfl hc8 hs8 dL_init_288 (fun E M9 hx => kz_Tout rfl hc8 hs8 hx) (kz_Cmono (fun v M6 h => ?_) (fun _ _ h => h) h)
  obtain ⟨r7, rfl, h⟩ := h
  show kz_Z G (d + 6) mc ms mL_init Qr Qx 291 [(0, .ref x0)] [.ref r7] M6 (c + mc5 + mc8) (sl + ms5 + ms8)
  exact h
theorem rL_init_291 {G : kz_G} {d : Nat} {mc ms : Nat} {Qr : Option Value → kz_M → Prop} {Qx : String → kz_M → Prop} {x0 : Nat} {s0 : Nat} {M : kz_M} {c sl : Nat} (hc : c ≤ mc) (hs : sl ≤ ms) (h : ∃ fs1 v2, (M).1 x0 = some (.inl (13, fs1)) ∧ fs1[12]? = some (.int v2) ∧ ((∃ fs10, (M).1 s0 = some (.inl (15, fs10))) ∧ ∃ mc5 ms5, c + mc5 ≤ mc ∧ sl + ms5 ≤ ms ∧ kz_C G (d + 5) mc5 ms5 mJ4_append_bf812 [.ref s0, .int v2] M (fun v M3 => ∃ r4 : Nat, v = some (.ref r4) ∧ ((∃ fs9, (M3).1 r4 = some (.inl (15, fs9))) ∧ ∃ mc8 ms8, c + mc5 + mc8 ≤ mc ∧ sl + ms5 + ms8 ≤ ms ∧ kz_C G (d + 5) mc8 ms8 mJ4_append_cf468 [.ref r4, .int 59] M3 (fun v M6 => ∃ r7 : Nat, v = some (.ref r7) ∧ (Qr none M6)) Qx)) Qx)) : zL_init_291 G d mc ms Qr Qx x0 s0 M c sl := by
  show kz_Z G (d + 6) mc ms mL_init Qr Qx 291 [(0, .ref x0)] [.ref s0] M c sl
  refine kz_aload_n (pc := 291) 0 (v := .ref x0) (i := 0) rfl rfl rfl dL_init_291 ?_
  obtain ⟨fs1, v2, hM, hv, h⟩ := h
  refine kz_getf (pc := 292) (k := 12) kcL hM hv (by decide) kw_672 dL_init_292 ?_
  obtain ⟨⟨fs10, he⟩, h⟩ := h
  obtain ⟨mc5, ms5, hc5, hs5, h⟩ := h
  refine kz_callV (pc := 295) (μ' := mJ4_append_bf812) (ci := 15) (q := (RJ4, TJ4, 4)) (b := s0) (d' := d + 5) (mc' := mc5) (ms' := ms5) (As := [.int v2]) (st := []) (c := c) (sl := sl) kmJ4_append_bf812 kw_615 (by omega) rfl (Nat.le_of_ble_eq_true rfl) he rfl rfl hc5 hs5 dL_init_295 (fun E M9 hx => kz_Tout rfl hc5 hs5 hx) (kz_Cmono (fun v M3 h => ?_) (fun _ _ h => h) h)
  obtain ⟨r4, rfl, h⟩ := h
  show kz_Z G (d + 6) mc ms mL_init Qr Qx 298 [(0, .ref x0)] [.ref r4] M3 (c + mc5) (sl + ms5)
  refine kz_bipush (pc := 298) (v := 59) (by decide) dL_init_298 ?_
  obtain ⟨⟨fs9, he⟩, h⟩ := h
  obtain ⟨mc8, ms8, hc8, hs8, h⟩ := h
  refine kz_callV (pc := 300) (μ' := mJ4_append_cf468) (ci := 15) (q := (RJ4, TJ4, 4)) (b := r4) (d' := d + 5) (mc' := mc8) (ms' := ms8) (As := [.int 59]) (st := []) (c := c + mc5) (sl := sl + ms5) kmJ4_append_cf468 kw_647 (by omega) rfl (Nat.le_of_ble_eq_true rfl) he rfl rfl hc8 hs8 dL_init_300 (fun E M9 hx => kz_Tout rfl hc8 hs8 hx) (kz_Cmono (fun v M6 h => ?_) (fun _ _ h => h) h)
  obtain ⟨r7, rfl, h⟩ := h
  show kz_Z G (d + 6) mc ms mL_init Qr Qx 303 [(0, .ref x0)] [.ref r7] M6 (c + mc5 + mc8) (sl + ms5 + ms8)
  refine kz_pop (pc := 303) rfl dL_init_303 ?_
  exact kz_vret (pc := 304) rfl hc8 hs8 dL_init_304 h
theorem dL_handsIn_0 : decode cL_handsIn 0 = .ok (.new 139, 3) := by decide +kernel
theorem dL_handsIn_3 : decode cL_handsIn 3 = .ok (.dup, 1) := by decide +kernel
theorem dL_handsIn_4 : decode cL_handsIn 4 = .ok (.invokespecial 172, 3) := by decide +kernel
theorem dL_handsIn_7 : decode cL_handsIn 7 = .ok (.astore 5, 2) := by decide +kernel
theorem dL_handsIn_9 : decode cL_handsIn 9 = .ok (.aload 5, 2) := by decide +kernel
theorem dL_handsIn_11 : decode cL_handsIn 11 = .ok (.iload_n 1, 1) := by decide +kernel
theorem dL_handsIn_12 : decode cL_handsIn 12 = .ok (.putfield 141, 3) := by decide +kernel
theorem dL_handsIn_15 : decode cL_handsIn 15 = .ok (.aload 5, 2) := by decide +kernel
theorem dL_handsIn_17 : decode cL_handsIn 17 = .ok (.aload_n 0, 1) := by decide +kernel
theorem dL_handsIn_18 : decode cL_handsIn 18 = .ok (.getfield 173, 3) := by decide +kernel
theorem dL_handsIn_21 : decode cL_handsIn 21 = .ok (.putfield 176, 3) := by decide +kernel
theorem dL_handsIn_24 : decode cL_handsIn 24 = .ok (.iconst 0, 1) := by decide +kernel
theorem dL_handsIn_25 : decode cL_handsIn 25 = .ok (.istore 6, 2) := by decide +kernel
theorem dL_handsIn_27 : decode cL_handsIn 27 = .ok (.iload 6, 2) := by decide +kernel
theorem dL_handsIn_29 : decode cL_handsIn 29 = .ok (.iload 4, 2) := by decide +kernel
theorem dL_handsIn_31 : decode cL_handsIn 31 = .ok (.if_icmp .ge 218, 3) := by decide +kernel
theorem dL_handsIn_34 : decode cL_handsIn 34 = .ok (.new 116, 3) := by decide +kernel
theorem dL_handsIn_37 : decode cL_handsIn 37 = .ok (.dup, 1) := by decide +kernel
theorem dL_handsIn_38 : decode cL_handsIn 38 = .ok (.invokespecial 177, 3) := by decide +kernel
theorem dL_handsIn_41 : decode cL_handsIn 41 = .ok (.astore 7, 2) := by decide +kernel
theorem dL_handsIn_43 : decode cL_handsIn 43 = .ok (.aload 7, 2) := by decide +kernel
theorem dL_handsIn_45 : decode cL_handsIn 45 = .ok (.aload_n 3, 1) := by decide +kernel
theorem dL_handsIn_46 : decode cL_handsIn 46 = .ok (.iload 6, 2) := by decide +kernel
theorem dL_handsIn_48 : decode cL_handsIn 48 = .ok (.iaload, 1) := by decide +kernel
theorem dL_handsIn_49 : decode cL_handsIn 49 = .ok (.invokestatic 178, 3) := by decide +kernel
theorem dL_handsIn_52 : decode cL_handsIn 52 = .ok (.iinc 6 1, 3) := by decide +kernel
theorem dL_handsIn_55 : decode cL_handsIn 55 = .ok (.iload_n 2, 1) := by decide +kernel
theorem dL_handsIn_56 : decode cL_handsIn 56 = .ok (.iconst 2, 1) := by decide +kernel
theorem dL_handsIn_57 : decode cL_handsIn 57 = .ok (.if_icmp .eq 54, 3) := by decide +kernel
theorem dL_handsIn_60 : decode cL_handsIn 60 = .ok (.iload 6, 2) := by decide +kernel
theorem dL_handsIn_62 : decode cL_handsIn 62 = .ok (.iload 4, 2) := by decide +kernel
theorem dL_handsIn_64 : decode cL_handsIn 64 = .ok (.if_icmp .ge 47, 3) := by decide +kernel
theorem dL_handsIn_67 : decode cL_handsIn 67 = .ok (.aload_n 3, 1) := by decide +kernel
theorem dL_handsIn_68 : decode cL_handsIn 68 = .ok (.iload 6, 2) := by decide +kernel
theorem dL_handsIn_70 : decode cL_handsIn 70 = .ok (.iaload, 1) := by decide +kernel
theorem dL_handsIn_71 : decode cL_handsIn 71 = .ok (.ifCond .lt 40, 3) := by decide +kernel
theorem dL_handsIn_74 : decode cL_handsIn 74 = .ok (.aload 7, 2) := by decide +kernel
theorem dL_handsIn_76 : decode cL_handsIn 76 = .ok (.getfield 165, 3) := by decide +kernel
theorem dL_handsIn_79 : decode cL_handsIn 79 = .ok (.iconst 1, 1) := by decide +kernel
theorem dL_handsIn_80 : decode cL_handsIn 80 = .ok (.iadd, 1) := by decide +kernel
theorem dL_handsIn_81 : decode cL_handsIn 81 = .ok (.aload_n 3, 1) := by decide +kernel
theorem dL_handsIn_82 : decode cL_handsIn 82 = .ok (.iload 6, 2) := by decide +kernel
theorem dL_handsIn_84 : decode cL_handsIn 84 = .ok (.iaload, 1) := by decide +kernel
theorem dL_handsIn_85 : decode cL_handsIn 85 = .ok (.invokestatic 168, 3) := by decide +kernel
theorem dL_handsIn_88 : decode cL_handsIn 88 = .ok (.iadd, 1) := by decide +kernel
theorem dL_handsIn_89 : decode cL_handsIn 89 = .ok (.aload_n 0, 1) := by decide +kernel
theorem dL_handsIn_90 : decode cL_handsIn 90 = .ok (.getfield 46, 3) := by decide +kernel
theorem dL_handsIn_93 : decode cL_handsIn 93 = .ok (.if_icmp .gt 18, 3) := by decide +kernel
theorem dL_handsIn_96 : decode cL_handsIn 96 = .ok (.aload 7, 2) := by decide +kernel
theorem dL_handsIn_98 : decode cL_handsIn 98 = .ok (.aload_n 3, 1) := by decide +kernel
theorem dL_handsIn_99 : decode cL_handsIn 99 = .ok (.iload 6, 2) := by decide +kernel
theorem dL_handsIn_101 : decode cL_handsIn 101 = .ok (.iaload, 1) := by decide +kernel
theorem dL_handsIn_102 : decode cL_handsIn 102 = .ok (.invokestatic 178, 3) := by decide +kernel
theorem dL_handsIn_105 : decode cL_handsIn 105 = .ok (.iinc 6 1, 3) := by decide +kernel
theorem dL_handsIn_108 : decode cL_handsIn 108 = .ok (.goto (-53), 3) := by decide +kernel
theorem dL_handsIn_111 : decode cL_handsIn 111 = .ok (.iload 6, 2) := by decide +kernel
theorem dL_handsIn_113 : decode cL_handsIn 113 = .ok (.iload 4, 2) := by decide +kernel
theorem dL_handsIn_115 : decode cL_handsIn 115 = .ok (.if_icmp .ge 13, 3) := by decide +kernel
theorem dL_handsIn_118 : decode cL_handsIn 118 = .ok (.aload_n 3, 1) := by decide +kernel
theorem dL_handsIn_119 : decode cL_handsIn 119 = .ok (.iload 6, 2) := by decide +kernel
theorem dL_handsIn_121 : decode cL_handsIn 121 = .ok (.iaload, 1) := by decide +kernel
theorem dL_handsIn_122 : decode cL_handsIn 122 = .ok (.ifCond .ge 6, 3) := by decide +kernel
theorem dL_handsIn_125 : decode cL_handsIn 125 = .ok (.iinc 6 1, 3) := by decide +kernel
theorem dL_handsIn_128 : decode cL_handsIn 128 = .ok (.aload 7, 2) := by decide +kernel
theorem dL_handsIn_130 : decode cL_handsIn 130 = .ok (.iconst 2, 1) := by decide +kernel
theorem dL_handsIn_131 : decode cL_handsIn 131 = .ok (.aload 7, 2) := by decide +kernel
theorem dL_handsIn_133 : decode cL_handsIn 133 = .ok (.getfield 165, 3) := by decide +kernel
theorem dL_handsIn_136 : decode cL_handsIn 136 = .ok (.imul, 1) := by decide +kernel
theorem dL_handsIn_137 : decode cL_handsIn 137 = .ok (.aload_n 0, 1) := by decide +kernel
theorem dL_handsIn_138 : decode cL_handsIn 138 = .ok (.getfield 46, 3) := by decide +kernel
theorem dL_handsIn_141 : decode cL_handsIn 141 = .ok (.if_icmp .ge 14, 3) := by decide +kernel
theorem dL_handsIn_144 : decode cL_handsIn 144 = .ok (.aload_n 0, 1) := by decide +kernel
theorem dL_handsIn_145 : decode cL_handsIn 145 = .ok (.getfield 62, 3) := by decide +kernel
theorem dL_handsIn_148 : decode cL_handsIn 148 = .ok (.iload_n 2, 1) := by decide +kernel
theorem dL_handsIn_149 : decode cL_handsIn 149 = .ok (.iaload, 1) := by decide +kernel
theorem dL_handsIn_150 : decode cL_handsIn 150 = .ok (.iconst 2, 1) := by decide +kernel
theorem dL_handsIn_151 : decode cL_handsIn 151 = .ok (.idiv, 1) := by decide +kernel
theorem dL_handsIn_152 : decode cL_handsIn 152 = .ok (.goto 9, 3) := by decide +kernel
theorem dL_handsIn_155 : decode cL_handsIn 155 = .ok (.aload_n 0, 1) := by decide +kernel
theorem dL_handsIn_156 : decode cL_handsIn 156 = .ok (.getfield 62, 3) := by decide +kernel
theorem dL_handsIn_159 : decode cL_handsIn 159 = .ok (.iload_n 2, 1) := by decide +kernel
theorem dL_handsIn_160 : decode cL_handsIn 160 = .ok (.iaload, 1) := by decide +kernel
theorem dL_handsIn_161 : decode cL_handsIn 161 = .ok (.putfield 182, 3) := by decide +kernel
theorem dL_handsIn_164 : decode cL_handsIn 164 = .ok (.aload 7, 2) := by decide +kernel
theorem dL_handsIn_166 : decode cL_handsIn 166 = .ok (.aload_n 0, 1) := by decide +kernel
theorem dL_handsIn_167 : decode cL_handsIn 167 = .ok (.aload 7, 2) := by decide +kernel
theorem dL_handsIn_169 : decode cL_handsIn 169 = .ok (.aload_n 0, 1) := by decide +kernel
theorem dL_handsIn_170 : decode cL_handsIn 170 = .ok (.iload_n 1, 1) := by decide +kernel
theorem dL_handsIn_171 : decode cL_handsIn 171 = .ok (.aload 5, 2) := by decide +kernel
theorem dL_handsIn_173 : decode cL_handsIn 173 = .ok (.getfield 144, 3) := by decide +kernel
theorem dL_handsIn_176 : decode cL_handsIn 176 = .ok (.invokevirtual 185, 3) := by decide +kernel
theorem dL_handsIn_179 : decode cL_handsIn 179 = .ok (.invokevirtual 189, 3) := by decide +kernel
theorem dL_handsIn_182 : decode cL_handsIn 182 = .ok (.putfield 154, 3) := by decide +kernel
theorem dL_handsIn_185 : decode cL_handsIn 185 = .ok (.aload 7, 2) := by decide +kernel
theorem dL_handsIn_187 : decode cL_handsIn 187 = .ok (.aload 7, 2) := by decide +kernel
theorem dL_handsIn_189 : decode cL_handsIn 189 = .ok (.getfield 154, 3) := by decide +kernel
theorem dL_handsIn_192 : decode cL_handsIn 192 = .ok (.ifCond .ne 7, 3) := by decide +kernel
theorem dL_handsIn_195 : decode cL_handsIn 195 = .ok (.iconst 0, 1) := by decide +kernel
theorem dL_handsIn_196 : decode cL_handsIn 196 = .ok (.goto 4, 3) := by decide +kernel
theorem dL_handsIn_199 : decode cL_handsIn 199 = .ok (.iconst 1, 1) := by decide +kernel
theorem dL_handsIn_200 : decode cL_handsIn 200 = .ok (.putfield 147, 3) := by decide +kernel
theorem dL_handsIn_203 : decode cL_handsIn 203 = .ok (.aload_n 0, 1) := by decide +kernel
theorem dL_handsIn_204 : decode cL_handsIn 204 = .ok (.getfield 36, 3) := by decide +kernel
theorem dL_handsIn_207 : decode cL_handsIn 207 = .ok (.iload_n 1, 1) := by decide +kernel
theorem dL_handsIn_208 : decode cL_handsIn 208 = .ok (.dup2, 1) := by decide +kernel
theorem dL_handsIn_209 : decode cL_handsIn 209 = .ok (.iaload, 1) := by decide +kernel
theorem dL_handsIn_210 : decode cL_handsIn 210 = .ok (.aload 7, 2) := by decide +kernel
theorem dL_handsIn_212 : decode cL_handsIn 212 = .ok (.getfield 154, 3) := by decide +kernel
theorem dL_handsIn_215 : decode cL_handsIn 215 = .ok (.ifCond .ne 11, 3) := by decide +kernel
theorem dL_handsIn_218 : decode cL_handsIn 218 = .ok (.aload 7, 2) := by decide +kernel
theorem dL_handsIn_220 : decode cL_handsIn 220 = .ok (.getfield 182, 3) := by decide +kernel
theorem dL_handsIn_223 : decode cL_handsIn 223 = .ok (.goto 8, 3) := by decide +kernel
theorem dL_handsIn_226 : decode cL_handsIn 226 = .ok (.aload_n 0, 1) := by decide +kernel
theorem dL_handsIn_227 : decode cL_handsIn 227 = .ok (.getfield 83, 3) := by decide +kernel
theorem dL_handsIn_230 : decode cL_handsIn 230 = .ok (.ineg, 1) := by decide +kernel
theorem dL_handsIn_231 : decode cL_handsIn 231 = .ok (.iadd, 1) := by decide +kernel
theorem dL_handsIn_232 : decode cL_handsIn 232 = .ok (.iastore, 1) := by decide +kernel
theorem dL_handsIn_233 : decode cL_handsIn 233 = .ok (.aload 5, 2) := by decide +kernel
theorem dL_handsIn_235 : decode cL_handsIn 235 = .ok (.getfield 144, 3) := by decide +kernel
theorem dL_handsIn_238 : decode cL_handsIn 238 = .ok (.aload 7, 2) := by decide +kernel
theorem dL_handsIn_240 : decode cL_handsIn 240 = .ok (.invokeinterface 150 2, 5) := by decide +kernel
theorem dL_handsIn_245 : decode cL_handsIn 245 = .ok (.pop, 1) := by decide +kernel
theorem dL_handsIn_246 : decode cL_handsIn 246 = .ok (.goto (-219), 3) := by decide +kernel
theorem dL_handsIn_249 : decode cL_handsIn 249 = .ok (.aload_n 0, 1) := by decide +kernel
theorem dL_handsIn_250 : decode cL_handsIn 250 = .ok (.getfield 30, 3) := by decide +kernel
theorem dL_handsIn_253 : decode cL_handsIn 253 = .ok (.aload 5, 2) := by decide +kernel
theorem dL_handsIn_255 : decode cL_handsIn 255 = .ok (.invokeinterface 150 2, 5) := by decide +kernel
theorem dL_handsIn_260 : decode cL_handsIn 260 = .ok (.pop, 1) := by decide +kernel
theorem dL_handsIn_261 : decode cL_handsIn 261 = .ok (.aload 5, 2) := by decide +kernel
theorem dL_handsIn_263 : decode cL_handsIn 263 = .ok (.areturn, 1) := by decide +kernel
def zL_handsIn_27 (G : kz_G) (d mc ms : Nat) (Qr : Option Value → kz_M → Prop) (Qx : String → kz_M → Prop) (x0 : Nat) (x1 : Int32) (x2 : Int32) (x3 : Nat) (x4 : Int32) (x5 : Nat) (x6 : Int32)  (M : kz_M) (c sl : Nat) : Prop := kz_Z G (d + 8) mc ms mL_handsIn Qr Qx 27 [(0, .ref x0), (1, .int x1), (2, .int x2), (3, .ref x3), (4, .int x4), (5, .ref x5), (6, .int x6)] [] M c sl
def zL_handsIn_55 (G : kz_G) (d mc ms : Nat) (Qr : Option Value → kz_M → Prop) (Qx : String → kz_M → Prop) (x0 : Nat) (x1 : Int32) (x2 : Int32) (x3 : Nat) (x4 : Int32) (x5 : Nat) (x6 : Int32) (x7 : Nat)  (M : kz_M) (c sl : Nat) : Prop := kz_Z G (d + 8) mc ms mL_handsIn Qr Qx 55 [(0, .ref x0), (1, .int x1), (2, .int x2), (3, .ref x3), (4, .int x4), (5, .ref x5), (6, .int x6), (7, .ref x7)] [] M c sl
def zL_handsIn_111 (G : kz_G) (d mc ms : Nat) (Qr : Option Value → kz_M → Prop) (Qx : String → kz_M → Prop) (x0 : Nat) (x1 : Int32) (x2 : Int32) (x3 : Nat) (x4 : Int32) (x5 : Nat) (x6 : Int32) (x7 : Nat)  (M : kz_M) (c sl : Nat) : Prop := kz_Z G (d + 8) mc ms mL_handsIn Qr Qx 111 [(0, .ref x0), (1, .int x1), (2, .int x2), (3, .ref x3), (4, .int x4), (5, .ref x5), (6, .int x6), (7, .ref x7)] [] M c sl
def zL_handsIn_128 (G : kz_G) (d mc ms : Nat) (Qr : Option Value → kz_M → Prop) (Qx : String → kz_M → Prop) (x0 : Nat) (x1 : Int32) (x2 : Int32) (x3 : Nat) (x4 : Int32) (x5 : Nat) (x6 : Int32) (x7 : Nat)  (M : kz_M) (c sl : Nat) : Prop := kz_Z G (d + 8) mc ms mL_handsIn Qr Qx 128 [(0, .ref x0), (1, .int x1), (2, .int x2), (3, .ref x3), (4, .int x4), (5, .ref x5), (6, .int x6), (7, .ref x7)] [] M c sl
def zL_handsIn_161 (G : kz_G) (d mc ms : Nat) (Qr : Option Value → kz_M → Prop) (Qx : String → kz_M → Prop) (x0 : Nat) (x1 : Int32) (x2 : Int32) (x3 : Nat) (x4 : Int32) (x5 : Nat) (x6 : Int32) (x7 : Nat) (s0 : Int32) (s1 : Nat) (M : kz_M) (c sl : Nat) : Prop := kz_Z G (d + 8) mc ms mL_handsIn Qr Qx 161 [(0, .ref x0), (1, .int x1), (2, .int x2), (3, .ref x3), (4, .int x4), (5, .ref x5), (6, .int x6), (7, .ref x7)] [.int s0, .ref s1] M c sl
def zL_handsIn_164 (G : kz_G) (d mc ms : Nat) (Qr : Option Value → kz_M → Prop) (Qx : String → kz_M → Prop) (x0 : Nat) (x1 : Int32) (x2 : Int32) (x3 : Nat) (x4 : Int32) (x5 : Nat) (x6 : Int32) (x7 : Nat)  (M : kz_M) (c sl : Nat) : Prop := kz_Z G (d + 8) mc ms mL_handsIn Qr Qx 164 [(0, .ref x0), (1, .int x1), (2, .int x2), (3, .ref x3), (4, .int x4), (5, .ref x5), (6, .int x6), (7, .ref x7)] [] M c sl
def zL_handsIn_185 (G : kz_G) (d mc ms : Nat) (Qr : Option Value → kz_M → Prop) (Qx : String → kz_M → Prop) (x0 : Nat) (x1 : Int32) (x2 : Int32) (x3 : Nat) (x4 : Int32) (x5 : Nat) (x6 : Int32) (x7 : Nat)  (M : kz_M) (c sl : Nat) : Prop := kz_Z G (d + 8) mc ms mL_handsIn Qr Qx 185 [(0, .ref x0), (1, .int x1), (2, .int x2), (3, .ref x3), (4, .int x4), (5, .ref x5), (6, .int x6), (7, .ref x7)] [] M c sl
def zL_handsIn_200 (G : kz_G) (d mc ms : Nat) (Qr : Option Value → kz_M → Prop) (Qx : String → kz_M → Prop) (x0 : Nat) (x1 : Int32) (x2 : Int32) (x3 : Nat) (x4 : Int32) (x5 : Nat) (x6 : Int32) (x7 : Nat) (s0 : Int32) (s1 : Nat) (M : kz_M) (c sl : Nat) : Prop := kz_Z G (d + 8) mc ms mL_handsIn Qr Qx 200 [(0, .ref x0), (1, .int x1), (2, .int x2), (3, .ref x3), (4, .int x4), (5, .ref x5), (6, .int x6), (7, .ref x7)] [.int s0, .ref s1] M c sl
def zL_handsIn_203 (G : kz_G) (d mc ms : Nat) (Qr : Option Value → kz_M → Prop) (Qx : String → kz_M → Prop) (x0 : Nat) (x1 : Int32) (x2 : Int32) (x3 : Nat) (x4 : Int32) (x5 : Nat) (x6 : Int32) (x7 : Nat)  (M : kz_M) (c sl : Nat) : Prop := kz_Z G (d + 8) mc ms mL_handsIn Qr Qx 203 [(0, .ref x0), (1, .int x1), (2, .int x2), (3, .ref x3), (4, .int x4), (5, .ref x5), (6, .int x6), (7, .ref x7)] [] M c sl
def zL_handsIn_231 (G : kz_G) (d mc ms : Nat) (Qr : Option Value → kz_M → Prop) (Qx : String → kz_M → Prop) (x0 : Nat) (x1 : Int32) (x2 : Int32) (x3 : Nat) (x4 : Int32) (x5 : Nat) (x6 : Int32) (x7 : Nat) (s0 : Int32) (s1 : Int32) (s2 : Int32) (s3 : Nat) (M : kz_M) (c sl : Nat) : Prop := kz_Z G (d + 8) mc ms mL_handsIn Qr Qx 231 [(0, .ref x0), (1, .int x1), (2, .int x2), (3, .ref x3), (4, .int x4), (5, .ref x5), (6, .int x6), (7, .ref x7)] [.int s0, .int s1, .int s2, .ref s3] M c sl
def zL_handsIn_233 (G : kz_G) (d mc ms : Nat) (Qr : Option Value → kz_M → Prop) (Qx : String → kz_M → Prop) (x0 : Nat) (x1 : Int32) (x2 : Int32) (x3 : Nat) (x4 : Int32) (x5 : Nat) (x6 : Int32) (x7 : Nat)  (M : kz_M) (c sl : Nat) : Prop := kz_Z G (d + 8) mc ms mL_handsIn Qr Qx 233 [(0, .ref x0), (1, .int x1), (2, .int x2), (3, .ref x3), (4, .int x4), (5, .ref x5), (6, .int x6), (7, .ref x7)] [] M c sl
theorem rL_handsIn_0 {G : kz_G} {d : Nat} {mc ms : Nat} {Qr : Option Value → kz_M → Prop} {Qx : String → kz_M → Prop} {a0 : Nat} {p1 : Int32} {p2 : Int32} {p3 : Nat} {p4 : Int32}  {M : kz_M} (h : 0 + 1 ≤ mc ∧ 0 + 3 ≤ ms ∧ (∃ mc4 ms4, 0 + 1 + mc4 ≤ mc ∧ 0 + 3 + ms4 ≤ ms ∧ kz_C G (d + 7) mc4 ms4 mX13_init [.ref ((M).2)] (kz_nw M (.inl (12, [.int 0, .int 0, .null]))) (fun v M2 => v = none ∧ (∃ fs5, (M2).1 ((M).2) = some (.inl (12, fs5)) ∧ 0 < fs5.length ∧ (∃ fs6 v7, ((kz_up M2 ((M).2) (.inl (12, fs5.set 0 (.int p1))))).1 a0 = some (.inl (13, fs6)) ∧ fs6[5]? = some (.int v7) ∧ (∃ fs8, ((kz_up M2 ((M).2) (.inl (12, fs5.set 0 (.int p1))))).1 ((M).2) = some (.inl (12, fs8)) ∧ 1 < fs8.length ∧ (zL_handsIn_27 G d mc ms Qr Qx a0 p1 p2 p3 p4 ((M).2) 0 (kz_up (kz_up M2 ((M).2) (.inl (12, fs5.set 0 (.int p1)))) ((M).2) (.inl (12, fs8.set 1 (.int v7)))) (0 + 1 + mc4) (0 + 3 + ms4)))))) Qx)) : kz_C G (d + 8) mc ms mL_handsIn [.ref a0, .int p1, .int p2, .ref p3, .int p4] M Qr Qx := by
  refine kz_enter (n := 4) kmL_handsIn.1 (Nat.le_of_ble_eq_true rfl) (ls := [(0, .ref a0), (1, .int p1), (2, .int p2), (3, .ref p3), (4, .int p4)]) rfl ?_
  obtain ⟨hc1, hs1, h⟩ := h
  refine kz_newc (pc := 0) kcX13 rfl kw_954 kw_1244 kw_33 hc1 hs1 dL_handsIn_0 ?_
  refine kz_dup (pc := 3) rfl dL_handsIn_3 ?_
  obtain ⟨mc4, ms4, hc4, hs4, h⟩ := h
  refine kz_callIN (pc := 4) (μ' := mX13_init) (b := (M).2) (d' := d + 7) (mc' := mc4) (ms' := ms4) (As := []) (st := [.ref ((M).2)]) (c := 0 + 1) (sl := 0 + 3) kmX13_init kw_1245 (by omega) rfl (Nat.le_of_ble_eq_true rfl) hc4 hs4 dL_handsIn_4 (fun E M9 hx => kz_Tout rfl hc4 hs4 hx) (kz_Cmono (fun v M2 h => ?_) (fun _ _ h => h) h)
  obtain ⟨rfl, h⟩ := h
  show kz_Z G (d + 8) mc ms mL_handsIn Qr Qx 7 [(0, .ref a0), (1, .int p1), (2, .int p2), (3, .ref p3), (4, .int p4)] [.ref ((M).2)] M2 (0 + 1 + mc4) (0 + 3 + ms4)
  refine kz_astore (pc := 7) (i := 5) (v := .ref ((M).2)) (ls' := [(0, .ref a0), (1, .int p1), (2, .int p2), (3, .ref p3), (4, .int p4)]) rfl (by decide) rfl dL_handsIn_7 ?_
  refine kz_aload (pc := 9) 0 (v := .ref ((M).2)) (i := 5) rfl rfl dL_handsIn_9 ?_
  refine kz_iload_n (pc := 11) 2 (i := 1) rfl rfl dL_handsIn_11 ?_
  obtain ⟨fs5, hM, hlen, h⟩ := h
  refine kz_putfN (pc := 12) (k := 0) kcX13 hM (by decide) hlen kw_1251 rfl rfl rfl dL_handsIn_12 ?_
  refine kz_aload (pc := 15) 0 (v := .ref ((M).2)) (i := 5) rfl rfl dL_handsIn_15 ?_
  refine kz_aload_n (pc := 17) 1 (v := .ref a0) (i := 0) rfl rfl rfl dL_handsIn_17 ?_
  obtain ⟨fs6, v7, hM, hv, h⟩ := h
  refine kz_getf (pc := 18) (k := 5) kcL hM hv (by decide) kw_665 dL_handsIn_18 ?_
  obtain ⟨fs8, hM, hlen, h⟩ := h
  refine kz_putfN (pc := 21) (k := 1) kcX13 hM (by decide) hlen kw_1252 rfl rfl rfl dL_handsIn_21 ?_
  refine kz_iconst (pc := 24) (v := 0) (by decide) dL_handsIn_24 ?_
  refine kz_istore (pc := 25) (i := 6) (ls' := [(5, .ref ((M).2)), (0, .ref a0), (1, .int p1), (2, .int p2), (3, .ref p3), (4, .int p4)]) (by decide) rfl dL_handsIn_25 ?_
  refine kz_sub [2, 3, 4, 5, 6, 1, 0] rfl ?_
  exact h
theorem rL_handsIn_27 {G : kz_G} {d : Nat} {mc ms : Nat} {Qr : Option Value → kz_M → Prop} {Qx : String → kz_M → Prop} {x0 : Nat} {x1 : Int32} {x2 : Int32} {x3 : Nat} {x4 : Int32} {x5 : Nat} {x6 : Int32}  {M : kz_M} {c sl : Nat} (hc : c ≤ mc) (hs : sl ≤ ms) (h : (x4 ≤ x6 → ∃ fs1 v2, (M).1 x0 = some (.inl (13, fs1)) ∧ fs1[0]? = some (.ref v2) ∧ ((∃ fs6, (M).1 v2 = some (.inl (16, fs6))) ∧ ∃ mc5 ms5, c + mc5 ≤ mc ∧ sl + ms5 ≤ ms ∧ kz_C G (d + 7) mc5 ms5 mJx4a65c_add_9ea2d [.ref v2, .ref x5] M (fun v M3 => ∃ r4 : Int32, v = some (.int r4) ∧ (Qr (some (.ref x5)) M3)) (fun _ _ => False))) ∧ (¬ x4 ≤ x6 → c + 1 ≤ mc ∧ sl + 6 ≤ ms ∧ (∃ mc10 ms10, c + 1 + mc10 ≤ mc ∧ sl + 6 + ms10 ≤ ms ∧ kz_C G (d + 7) mc10 ms10 mX12_init [.ref ((M).2)] (kz_nw M (.inl (11, [.null, .int 0, .int 0, .int 0, .int 0, .int 0]))) (fun v M8 => v = none ∧ (∃ n11 f12, (M8).1 x3 = some (.inr (.int, n11, .inl f12)) ∧ vp_in x6 n11 ∧ (kz_C G (d + 7) 0 0 mL_takes [.ref ((M).2), .int (f12 x6.toNatClampNeg)] M8 (fun v M13 => v = none ∧ (zL_handsIn_55 G d mc ms Qr Qx x0 x1 x2 x3 x4 x5 (x6 + 1) ((M).2) M13 (c + 1 + mc10) (sl + 6 + ms10))) Qx))) Qx))) : zL_handsIn_27 G d mc ms Qr Qx x0 x1 x2 x3 x4 x5 x6  M c sl := by
  show kz_Z G (d + 8) mc ms mL_handsIn Qr Qx 27 [(0, .ref x0), (1, .int x1), (2, .int x2), (3, .ref x3), (4, .int x4), (5, .ref x5), (6, .int x6)] [] M c sl
  refine kz_iload (pc := 27) 6 (i := 6) rfl dL_handsIn_27 ?_
  refine kz_iload (pc := 29) 4 (i := 4) rfl dL_handsIn_29 ?_
  refine kz_icmp_ge (pc := 31) (tgt := 249) (by decide) dL_handsIn_31 (fun hb => ?_) (fun hb => ?_)
  · replace h := h.1 hb
    refine kz_aload_n (pc := 249) 0 (v := .ref x0) (i := 0) rfl rfl rfl dL_handsIn_249 ?_
    obtain ⟨fs1, v2, hM, hv, h⟩ := h
    refine kz_getf (pc := 250) (k := 0) kcL hM hv (by decide) kw_660 dL_handsIn_250 ?_
    refine kz_aload (pc := 253) 5 (v := .ref x5) (i := 5) rfl rfl dL_handsIn_253 ?_
    obtain ⟨⟨fs6, he⟩, h⟩ := h
    obtain ⟨mc5, ms5, hc5, hs5, h⟩ := h
    refine kz_callF (pc := 255) (μ' := mJx4a65c_add_9ea2d) (x := ⟨"java/util/List", "add", "(Ljava/lang/Object;)Z"⟩) (ci := 16) (q := (RJx4a65c, TJx4a65c, 3)) (b := v2) (d' := d + 7) (mc' := mc5) (ms' := ms5) (As := [.ref x5]) (st := []) (c := c) (sl := sl) kmJx4a65c_add_9ea2d rfl kw_1354 (List.mem_of_getElem? (i := 4) rfl) (by decide +kernel) kw_1352 kw_1349 (by omega) rfl (Nat.le_of_ble_eq_true rfl) he rfl hc5 hs5 dL_handsIn_255 (kz_Cmono (fun v M3 h => ?_) (fun _ _ h => h) h)
    obtain ⟨r4, rfl, h⟩ := h
    show kz_Z G (d + 8) mc ms mL_handsIn Qr Qx 260 [(0, .ref x0), (1, .int x1), (2, .int x2), (3, .ref x3), (4, .int x4), (5, .ref x5), (6, .int x6)] [.int r4] M3 (c + mc5) (sl + ms5)
    refine kz_pop (pc := 260) rfl dL_handsIn_260 ?_
    refine kz_aload (pc := 261) 5 (v := .ref x5) (i := 5) rfl rfl dL_handsIn_261 ?_
    exact kz_aret (pc := 263) (v := .ref x5) rfl rfl (Or.inl ⟨_, rfl⟩) hc5 hs5 dL_handsIn_263 h
  · replace h := h.2 hb
    obtain ⟨hc7, hs7, h⟩ := h
    refine kz_newc (pc := 34) kcX12 rfl kw_978 kw_1262 kw_34 hc7 hs7 dL_handsIn_34 ?_
    refine kz_dup (pc := 37) rfl dL_handsIn_37 ?_
    obtain ⟨mc10, ms10, hc10, hs10, h⟩ := h
    refine kz_callIN (pc := 38) (μ' := mX12_init) (b := (M).2) (d' := d + 7) (mc' := mc10) (ms' := ms10) (As := []) (st := [.ref ((M).2)]) (c := c + 1) (sl := sl + 6) kmX12_init kw_1263 (by omega) rfl (Nat.le_of_ble_eq_true rfl) hc10 hs10 dL_handsIn_38 (fun E M9 hx => kz_Tout rfl hc10 hs10 hx) (kz_Cmono (fun v M8 h => ?_) (fun _ _ h => h) h)
    obtain ⟨rfl, h⟩ := h
    show kz_Z G (d + 8) mc ms mL_handsIn Qr Qx 41 [(0, .ref x0), (1, .int x1), (2, .int x2), (3, .ref x3), (4, .int x4), (5, .ref x5), (6, .int x6)] [.ref ((M).2)] M8 (c + 1 + mc10) (sl + 6 + ms10)
    refine kz_astore (pc := 41) (i := 7) (v := .ref ((M).2)) (ls' := [(0, .ref x0), (1, .int x1), (2, .int x2), (3, .ref x3), (4, .int x4), (5, .ref x5), (6, .int x6)]) rfl (by decide) rfl dL_handsIn_41 ?_
    refine kz_aload (pc := 43) 0 (v := .ref ((M).2)) (i := 7) rfl rfl dL_handsIn_43 ?_
    refine kz_aload_n (pc := 45) 4 (v := .ref x3) (i := 3) rfl rfl rfl dL_handsIn_45 ?_
    refine kz_iload (pc := 46) 7 (i := 6) rfl dL_handsIn_46 ?_
    obtain ⟨n11, f12, hM, hi, h⟩ := h
    refine kz_iald (pc := 48) hM hi dL_handsIn_48 ?_
    refine kz_callS (pc := 49) (μ' := mL_takes) (d' := d + 7) (mc' := 0) (ms' := 0) (As := [.ref ((M).2), .int (f12 x6.toNatClampNeg)]) (st := []) (c := c + 1 + mc10) (sl := sl + 6 + ms10) kmL_takes kw_1287 (by omega) rfl (Nat.le_of_ble_eq_true rfl) hc10 hs10 dL_handsIn_49 (fun E M9 hx => kz_Tout rfl hc10 hs10 hx) (kz_Cmono (fun v M13 h => ?_) (fun _ _ h => h) h)
    obtain ⟨rfl, h⟩ := h
    show kz_Z G (d + 8) mc ms mL_handsIn Qr Qx 52 [(7, .ref ((M).2)), (0, .ref x0), (1, .int x1), (2, .int x2), (3, .ref x3), (4, .int x4), (5, .ref x5), (6, .int x6)] [] M13 (c + 1 + mc10) (sl + 6 + ms10)
    refine kz_iinc (pc := 52) 7 (i := 6) (v := x6 + 1) (ls' := [(7, .ref ((M).2)), (0, .ref x0), (1, .int x1), (2, .int x2), (3, .ref x3), (4, .int x4), (5, .ref x5)]) rfl (congrArg (fun z => x6 + z) (by decide)) (by decide) rfl dL_handsIn_52 ?_
    refine kz_sub [2, 3, 4, 5, 6, 7, 0, 1] rfl ?_
    exact h
theorem rL_handsIn_55 {G : kz_G} {d : Nat} {mc ms : Nat} {Qr : Option Value → kz_M → Prop} {Qx : String → kz_M → Prop} {x0 : Nat} {x1 : Int32} {x2 : Int32} {x3 : Nat} {x4 : Int32} {x5 : Nat} {x6 : Int32} {x7 : Nat}  {M : kz_M} {c sl : Nat} (hc : c ≤ mc) (hs : sl ≤ ms) (h : (x2 = (2 : Int32) → zL_handsIn_111 G d mc ms Qr Qx x0 x1 x2 x3 x4 x5 x6 x7 M c sl) ∧ (¬ x2 = (2 : Int32) → (x4 ≤ x6 → zL_handsIn_111 G d mc ms Qr Qx x0 x1 x2 x3 x4 x5 x6 x7 M c sl) ∧ (¬ x4 ≤ x6 → ∃ n1 f2, (M).1 x3 = some (.inr (.int, n1, .inl f2)) ∧ vp_in x6 n1 ∧ (((f2 x6.toNatClampNeg) < 0 → zL_handsIn_111 G d mc ms Qr Qx x0 x1 x2 x3 x4 x5 x6 x7 M c sl) ∧ (¬ (f2 x6.toNatClampNeg) < 0 → ∃ fs3 v4, (M).1 x7 = some (.inl (11, fs3)) ∧ fs3[2]? = some (.int v4) ∧ (∃ n5 f6, (M).1 x3 = some (.inr (.int, n5, .inl f6)) ∧ vp_in x6 n5 ∧ (kz_C G (d + 7) 0 0 mL_letters [.int (f6 x6.toNatClampNeg)] M (fun v M7 => ∃ r8 : Int32, v = some (.int r8) ∧ (∃ fs10 v11, (M7).1 x0 = some (.inl (13, fs10)) ∧ fs10[6]? = some (.int v11) ∧ ((v11 < ((v4 + 1) + r8) → zL_handsIn_111 G d mc ms Qr Qx x0 x1 x2 x3 x4 x5 x6 x7 M7 c sl) ∧ (¬ v11 < ((v4 + 1) + r8) → ∃ n12 f13, (M7).1 x3 = some (.inr (.int, n12, .inl f13)) ∧ vp_in x6 n12 ∧ (kz_C G (d + 7) 0 0 mL_takes [.ref x7, .int (f13 x6.toNatClampNeg)] M7 (fun v M14 => v = none ∧ (zL_handsIn_55 G d mc ms Qr Qx x0 x1 x2 x3 x4 x5 (x6 + 1) x7 M14 c sl)) Qx))))) Qx))))))) : zL_handsIn_55 G d mc ms Qr Qx x0 x1 x2 x3 x4 x5 x6 x7  M c sl := by
  show kz_Z G (d + 8) mc ms mL_handsIn Qr Qx 55 [(0, .ref x0), (1, .int x1), (2, .int x2), (3, .ref x3), (4, .int x4), (5, .ref x5), (6, .int x6), (7, .ref x7)] [] M c sl
  refine kz_iload_n (pc := 55) 2 (i := 2) rfl rfl dL_handsIn_55 ?_
  refine kz_iconst (pc := 56) (v := 2) (by decide) dL_handsIn_56 ?_
  refine kz_icmp_eq (pc := 57) (tgt := 111) (by decide) dL_handsIn_57 (fun hb => ?_) (fun hb => ?_)
  · replace h := h.1 hb
    exact h
  · replace h := h.2 hb
    refine kz_iload (pc := 60) 6 (i := 6) rfl dL_handsIn_60 ?_
    refine kz_iload (pc := 62) 4 (i := 4) rfl dL_handsIn_62 ?_
    refine kz_icmp_ge (pc := 64) (tgt := 111) (by decide) dL_handsIn_64 (fun hb => ?_) (fun hb => ?_)
    · replace h := h.1 hb
      exact h
    · replace h := h.2 hb
      refine kz_aload_n (pc := 67) 3 (v := .ref x3) (i := 3) rfl rfl rfl dL_handsIn_67 ?_
      refine kz_iload (pc := 68) 6 (i := 6) rfl dL_handsIn_68 ?_
      obtain ⟨n1, f2, hM, hi, h⟩ := h
      refine kz_iald (pc := 70) hM hi dL_handsIn_70 ?_
      refine kz_if_lt (pc := 71) (tgt := 111) (by decide) dL_handsIn_71 (fun hb => ?_) (fun hb => ?_)
      · replace h := h.1 hb
        exact h
      · replace h := h.2 hb
        refine kz_aload (pc := 74) 7 (v := .ref x7) (i := 7) rfl rfl dL_handsIn_74 ?_
        obtain ⟨fs3, v4, hM, hv, h⟩ := h
        refine kz_getfN (pc := 76) (k := 2) kcX12 hM hv (by decide) kw_1270 dL_handsIn_76 ?_
        refine kz_iconst (pc := 79) (v := 1) (by decide) dL_handsIn_79 ?_
        refine kz_iadd (pc := 80) dL_handsIn_80 ?_
        refine kz_aload_n (pc := 81) 3 (v := .ref x3) (i := 3) rfl rfl rfl dL_handsIn_81 ?_
        refine kz_iload (pc := 82) 6 (i := 6) rfl dL_handsIn_82 ?_
        obtain ⟨n5, f6, hM, hi, h⟩ := h
        refine kz_iald (pc := 84) hM hi dL_handsIn_84 ?_
        refine kz_callS (pc := 85) (μ' := mL_letters) (d' := d + 7) (mc' := 0) (ms' := 0) (As := [.int (f6 x6.toNatClampNeg)]) (st := [.int (v4 + 1)]) (c := c) (sl := sl) kmL_letters kw_1290 (by omega) rfl (Nat.le_of_ble_eq_true rfl) hc hs dL_handsIn_85 (fun E M9 hx => kz_Tout rfl hc hs hx) (kz_Cmono (fun v M7 h => ?_) (fun _ _ h => h) h)
        obtain ⟨r8, rfl, h⟩ := h
        show kz_Z G (d + 8) mc ms mL_handsIn Qr Qx 88 [(0, .ref x0), (1, .int x1), (2, .int x2), (3, .ref x3), (4, .int x4), (5, .ref x5), (6, .int x6), (7, .ref x7)] [.int r8, .int (v4 + 1)] M7 c sl
        refine kz_iadd (pc := 88) dL_handsIn_88 ?_
        refine kz_aload_n (pc := 89) 0 (v := .ref x0) (i := 0) rfl rfl rfl dL_handsIn_89 ?_
        obtain ⟨fs10, v11, hM, hv, h⟩ := h
        refine kz_getf (pc := 90) (k := 6) kcL hM hv (by decide) kw_666 dL_handsIn_90 ?_
        refine kz_icmp_gt (pc := 93) (tgt := 111) (by decide) dL_handsIn_93 (fun hb => ?_) (fun hb => ?_)
        · replace h := h.1 hb
          exact h
        · replace h := h.2 hb
          refine kz_aload (pc := 96) 7 (v := .ref x7) (i := 7) rfl rfl dL_handsIn_96 ?_
          refine kz_aload_n (pc := 98) 3 (v := .ref x3) (i := 3) rfl rfl rfl dL_handsIn_98 ?_
          refine kz_iload (pc := 99) 6 (i := 6) rfl dL_handsIn_99 ?_
          obtain ⟨n12, f13, hM, hi, h⟩ := h
          refine kz_iald (pc := 101) hM hi dL_handsIn_101 ?_
          refine kz_callS (pc := 102) (μ' := mL_takes) (d' := d + 7) (mc' := 0) (ms' := 0) (As := [.ref x7, .int (f13 x6.toNatClampNeg)]) (st := []) (c := c) (sl := sl) kmL_takes kw_1287 (by omega) rfl (Nat.le_of_ble_eq_true rfl) hc hs dL_handsIn_102 (fun E M9 hx => kz_Tout rfl hc hs hx) (kz_Cmono (fun v M14 h => ?_) (fun _ _ h => h) h)
          obtain ⟨rfl, h⟩ := h
          show kz_Z G (d + 8) mc ms mL_handsIn Qr Qx 105 [(0, .ref x0), (1, .int x1), (2, .int x2), (3, .ref x3), (4, .int x4), (5, .ref x5), (6, .int x6), (7, .ref x7)] [] M14 c sl
          refine kz_iinc (pc := 105) 6 (i := 6) (v := x6 + 1) (ls' := [(0, .ref x0), (1, .int x1), (2, .int x2), (3, .ref x3), (4, .int x4), (5, .ref x5), (7, .ref x7)]) rfl (congrArg (fun z => x6 + z) (by decide)) (by decide) rfl dL_handsIn_105 ?_
          refine kz_goto (pc := 108) (tgt := 55) (by decide) dL_handsIn_108 ?_
          refine kz_sub [1, 2, 3, 4, 5, 6, 0, 7] rfl ?_
          exact h
theorem rL_handsIn_111 {G : kz_G} {d : Nat} {mc ms : Nat} {Qr : Option Value → kz_M → Prop} {Qx : String → kz_M → Prop} {x0 : Nat} {x1 : Int32} {x2 : Int32} {x3 : Nat} {x4 : Int32} {x5 : Nat} {x6 : Int32} {x7 : Nat}  {M : kz_M} {c sl : Nat} (hc : c ≤ mc) (hs : sl ≤ ms) (h : (x4 ≤ x6 → zL_handsIn_128 G d mc ms Qr Qx x0 x1 x2 x3 x4 x5 x6 x7 M c sl) ∧ (¬ x4 ≤ x6 → ∃ n1 f2, (M).1 x3 = some (.inr (.int, n1, .inl f2)) ∧ vp_in x6 n1 ∧ ((0 ≤ (f2 x6.toNatClampNeg) → zL_handsIn_128 G d mc ms Qr Qx x0 x1 x2 x3 x4 x5 x6 x7 M c sl) ∧ (¬ 0 ≤ (f2 x6.toNatClampNeg) → zL_handsIn_128 G d mc ms Qr Qx x0 x1 x2 x3 x4 x5 (x6 + 1) x7 M c sl)))) : zL_handsIn_111 G d mc ms Qr Qx x0 x1 x2 x3 x4 x5 x6 x7  M c sl := by
  show kz_Z G (d + 8) mc ms mL_handsIn Qr Qx 111 [(0, .ref x0), (1, .int x1), (2, .int x2), (3, .ref x3), (4, .int x4), (5, .ref x5), (6, .int x6), (7, .ref x7)] [] M c sl
  refine kz_iload (pc := 111) 6 (i := 6) rfl dL_handsIn_111 ?_
  refine kz_iload (pc := 113) 4 (i := 4) rfl dL_handsIn_113 ?_
  refine kz_icmp_ge (pc := 115) (tgt := 128) (by decide) dL_handsIn_115 (fun hb => ?_) (fun hb => ?_)
  · replace h := h.1 hb
    exact h
  · replace h := h.2 hb
    refine kz_aload_n (pc := 118) 3 (v := .ref x3) (i := 3) rfl rfl rfl dL_handsIn_118 ?_
    refine kz_iload (pc := 119) 6 (i := 6) rfl dL_handsIn_119 ?_
    obtain ⟨n1, f2, hM, hi, h⟩ := h
    refine kz_iald (pc := 121) hM hi dL_handsIn_121 ?_
    refine kz_if_ge (pc := 122) (tgt := 128) (by decide) dL_handsIn_122 (fun hb => ?_) (fun hb => ?_)
    · replace h := h.1 hb
      exact h
    · replace h := h.2 hb
      refine kz_iinc (pc := 125) 6 (i := 6) (v := x6 + 1) (ls' := [(0, .ref x0), (1, .int x1), (2, .int x2), (3, .ref x3), (4, .int x4), (5, .ref x5), (7, .ref x7)]) rfl (congrArg (fun z => x6 + z) (by decide)) (by decide) rfl dL_handsIn_125 ?_
      refine kz_sub [1, 2, 3, 4, 5, 6, 0, 7] rfl ?_
      exact h
theorem rL_handsIn_128 {G : kz_G} {d : Nat} {mc ms : Nat} {Qr : Option Value → kz_M → Prop} {Qx : String → kz_M → Prop} {x0 : Nat} {x1 : Int32} {x2 : Int32} {x3 : Nat} {x4 : Int32} {x5 : Nat} {x6 : Int32} {x7 : Nat}  {M : kz_M} {c sl : Nat} (hc : c ≤ mc) (hs : sl ≤ ms) (h : ∃ fs1 v2, (M).1 x7 = some (.inl (11, fs1)) ∧ fs1[2]? = some (.int v2) ∧ (∃ fs3 v4, (M).1 x0 = some (.inl (13, fs3)) ∧ fs3[6]? = some (.int v4) ∧ ((v4 ≤ (2 * v2) → ∃ fs5 v6, (M).1 x0 = some (.inl (13, fs5)) ∧ fs5[13]? = some (.ref v6) ∧ (∃ n7 f8, (M).1 v6 = some (.inr (.int, n7, .inl f8)) ∧ vp_in x2 n7 ∧ (zL_handsIn_161 G d mc ms Qr Qx x0 x1 x2 x3 x4 x5 x6 x7 (f8 x2.toNatClampNeg) x7 M c sl))) ∧ (¬ v4 ≤ (2 * v2) → ∃ fs9 v10, (M).1 x0 = some (.inl (13, fs9)) ∧ fs9[13]? = some (.ref v10) ∧ (∃ n11 f12, (M).1 v10 = some (.inr (.int, n11, .inl f12)) ∧ vp_in x2 n11 ∧ (zL_handsIn_161 G d mc ms Qr Qx x0 x1 x2 x3 x4 x5 x6 x7 ((f12 x2.toNatClampNeg) / 2) x7 M c sl)))))) : zL_handsIn_128 G d mc ms Qr Qx x0 x1 x2 x3 x4 x5 x6 x7  M c sl := by
  show kz_Z G (d + 8) mc ms mL_handsIn Qr Qx 128 [(0, .ref x0), (1, .int x1), (2, .int x2), (3, .ref x3), (4, .int x4), (5, .ref x5), (6, .int x6), (7, .ref x7)] [] M c sl
  refine kz_aload (pc := 128) 7 (v := .ref x7) (i := 7) rfl rfl dL_handsIn_128 ?_
  refine kz_iconst (pc := 130) (v := 2) (by decide) dL_handsIn_130 ?_
  refine kz_aload (pc := 131) 7 (v := .ref x7) (i := 7) rfl rfl dL_handsIn_131 ?_
  obtain ⟨fs1, v2, hM, hv, h⟩ := h
  refine kz_getfN (pc := 133) (k := 2) kcX12 hM hv (by decide) kw_1270 dL_handsIn_133 ?_
  refine kz_imul (pc := 136) dL_handsIn_136 ?_
  refine kz_aload_n (pc := 137) 0 (v := .ref x0) (i := 0) rfl rfl rfl dL_handsIn_137 ?_
  obtain ⟨fs3, v4, hM, hv, h⟩ := h
  refine kz_getf (pc := 138) (k := 6) kcL hM hv (by decide) kw_666 dL_handsIn_138 ?_
  refine kz_icmp_ge (pc := 141) (tgt := 155) (by decide) dL_handsIn_141 (fun hb => ?_) (fun hb => ?_)
  · replace h := h.1 hb
    refine kz_aload_n (pc := 155) 0 (v := .ref x0) (i := 0) rfl rfl rfl dL_handsIn_155 ?_
    obtain ⟨fs5, v6, hM, hv, h⟩ := h
    refine kz_getf (pc := 156) (k := 13) kcL hM hv (by decide) kw_673 dL_handsIn_156 ?_
    refine kz_iload_n (pc := 159) 2 (i := 2) rfl rfl dL_handsIn_159 ?_
    obtain ⟨n7, f8, hM, hi, h⟩ := h
    refine kz_iald (pc := 160) hM hi dL_handsIn_160 ?_
    exact h
  · replace h := h.2 hb
    refine kz_aload_n (pc := 144) 0 (v := .ref x0) (i := 0) rfl rfl rfl dL_handsIn_144 ?_
    obtain ⟨fs9, v10, hM, hv, h⟩ := h
    refine kz_getf (pc := 145) (k := 13) kcL hM hv (by decide) kw_673 dL_handsIn_145 ?_
    refine kz_iload_n (pc := 148) 2 (i := 2) rfl rfl dL_handsIn_148 ?_
    obtain ⟨n11, f12, hM, hi, h⟩ := h
    refine kz_iald (pc := 149) hM hi dL_handsIn_149 ?_
    refine kz_iconst (pc := 150) (v := 2) (by decide) dL_handsIn_150 ?_
    refine kz_idiv (pc := 151) (by decide) dL_handsIn_151 ?_
    refine kz_goto (pc := 152) (tgt := 161) (by decide) dL_handsIn_152 ?_
    exact h
theorem rL_handsIn_161 {G : kz_G} {d : Nat} {mc ms : Nat} {Qr : Option Value → kz_M → Prop} {Qx : String → kz_M → Prop} {x0 : Nat} {x1 : Int32} {x2 : Int32} {x3 : Nat} {x4 : Int32} {x5 : Nat} {x6 : Int32} {x7 : Nat} {s0 : Int32} {s1 : Nat} {M : kz_M} {c sl : Nat} (hc : c ≤ mc) (hs : sl ≤ ms) (h : ∃ fs1, (M).1 s1 = some (.inl (11, fs1)) ∧ 3 < fs1.length ∧ (zL_handsIn_164 G d mc ms Qr Qx x0 x1 x2 x3 x4 x5 x6 x7 (kz_up M s1 (.inl (11, fs1.set 3 (.int s0)))) c sl)) : zL_handsIn_161 G d mc ms Qr Qx x0 x1 x2 x3 x4 x5 x6 x7 s0 s1 M c sl := by
  show kz_Z G (d + 8) mc ms mL_handsIn Qr Qx 161 [(0, .ref x0), (1, .int x1), (2, .int x2), (3, .ref x3), (4, .int x4), (5, .ref x5), (6, .int x6), (7, .ref x7)] [.int s0, .ref s1] M c sl
  obtain ⟨fs1, hM, hlen, h⟩ := h
  refine kz_putfN (pc := 161) (k := 3) kcX12 hM (by decide) hlen kw_1271 rfl rfl rfl dL_handsIn_161 ?_
  exact h
theorem rL_handsIn_164 {G : kz_G} {d : Nat} {mc ms : Nat} {Qr : Option Value → kz_M → Prop} {Qx : String → kz_M → Prop} {x0 : Nat} {x1 : Int32} {x2 : Int32} {x3 : Nat} {x4 : Int32} {x5 : Nat} {x6 : Int32} {x7 : Nat}  {M : kz_M} {c sl : Nat} (hc : c ≤ mc) (hs : sl ≤ ms) (h : ∃ fs1 v2, (M).1 x5 = some (.inl (12, fs1)) ∧ fs1[2]? = some (.ref v2) ∧ ((∃ fs11, (M).1 x0 = some (.inl (13, fs11))) ∧ ∃ mc5 ms5, c + mc5 ≤ mc ∧ sl + ms5 ≤ ms ∧ kz_C G (d + 7) mc5 ms5 mL_past [.ref x0, .int x1, .ref v2] M (fun v M3 => ∃ r4 : Nat, v = some (.ref r4) ∧ ((∃ fs10, (M3).1 x0 = some (.inl (13, fs10))) ∧ ∃ mc8 ms8, c + mc5 + mc8 ≤ mc ∧ sl + ms5 + ms8 ≤ ms ∧ kz_C G (d + 7) mc8 ms8 mL_reason [.ref x0, .ref x7, .ref r4] M3 (fun v M6 => ∃ r7 : Int32, v = some (.int r7) ∧ (∃ fs9, (M6).1 x7 = some (.inl (11, fs9)) ∧ 4 < fs9.length ∧ (zL_handsIn_185 G d mc ms Qr Qx x0 x1 x2 x3 x4 x5 x6 x7 (kz_up M6 x7 (.inl (11, fs9.set 4 (.int r7)))) (c + mc5 + mc8) (sl + ms5 + ms8)))) Qx)) Qx)) : zL_handsIn_164 G d mc ms Qr Qx x0 x1 x2 x3 x4 x5 x6 x7  M c sl := by
  show kz_Z G (d + 8) mc ms mL_handsIn Qr Qx 164 [(0, .ref x0), (1, .int x1), (2, .int x2), (3, .ref x3), (4, .int x4), (5, .ref x5), (6, .int x6), (7, .ref x7)] [] M c sl
  refine kz_aload (pc := 164) 7 (v := .ref x7) (i := 7) rfl rfl dL_handsIn_164 ?_
  refine kz_aload_n (pc := 166) 0 (v := .ref x0) (i := 0) rfl rfl rfl dL_handsIn_166 ?_
  refine kz_aload (pc := 167) 7 (v := .ref x7) (i := 7) rfl rfl dL_handsIn_167 ?_
  refine kz_aload_n (pc := 169) 0 (v := .ref x0) (i := 0) rfl rfl rfl dL_handsIn_169 ?_
  refine kz_iload_n (pc := 170) 1 (i := 1) rfl rfl dL_handsIn_170 ?_
  refine kz_aload (pc := 171) 5 (v := .ref x5) (i := 5) rfl rfl dL_handsIn_171 ?_
  obtain ⟨fs1, v2, hM, hv, h⟩ := h
  refine kz_getfN (pc := 173) (k := 2) kcX13 hM hv (by decide) kw_1254 dL_handsIn_173 ?_
  obtain ⟨⟨fs11, he⟩, h⟩ := h
  obtain ⟨mc5, ms5, hc5, hs5, h⟩ := h
  refine kz_callV (pc := 176) (μ' := mL_past) (ci := 13) (q := (RL, TL, 15)) (b := x0) (d' := d + 7) (mc' := mc5) (ms' := ms5) (As := [.int x1, .ref v2]) (st := [.ref x7, .ref x0, .ref x7]) (c := c) (sl := sl) kmL_past kw_1293 (by omega) rfl (Nat.le_of_ble_eq_true rfl) he rfl rfl hc5 hs5 dL_handsIn_176 (fun E M9 hx => kz_Tout rfl hc5 hs5 hx) (kz_Cmono (fun v M3 h => ?_) (fun _ _ h => h) h)
  obtain ⟨r4, rfl, h⟩ := h
  show kz_Z G (d + 8) mc ms mL_handsIn Qr Qx 179 [(0, .ref x0), (1, .int x1), (2, .int x2), (3, .ref x3), (4, .int x4), (5, .ref x5), (6, .int x6), (7, .ref x7)] [.ref r4, .ref x7, .ref x0, .ref x7] M3 (c + mc5) (sl + ms5)
  obtain ⟨⟨fs10, he⟩, h⟩ := h
  obtain ⟨mc8, ms8, hc8, hs8, h⟩ := h
  refine kz_callV (pc := 179) (μ' := mL_reason) (ci := 13) (q := (RL, TL, 15)) (b := x0) (d' := d + 7) (mc' := mc8) (ms' := ms8) (As := [.ref x7, .ref r4]) (st := [.ref x7]) (c := c + mc5) (sl := sl + ms5) kmL_reason kw_1407 (by omega) rfl (Nat.le_of_ble_eq_true rfl) he rfl rfl hc8 hs8 dL_handsIn_179 (fun E M9 hx => kz_Tout rfl hc8 hs8 hx) (kz_Cmono (fun v M6 h => ?_) (fun _ _ h => h) h)
  obtain ⟨r7, rfl, h⟩ := h
  show kz_Z G (d + 8) mc ms mL_handsIn Qr Qx 182 [(0, .ref x0), (1, .int x1), (2, .int x2), (3, .ref x3), (4, .int x4), (5, .ref x5), (6, .int x6), (7, .ref x7)] [.int r7, .ref x7] M6 (c + mc5 + mc8) (sl + ms5 + ms8)
  obtain ⟨fs9, hM, hlen, h⟩ := h
  refine kz_putfN (pc := 182) (k := 4) kcX12 hM (by decide) hlen kw_1272 rfl rfl rfl dL_handsIn_182 ?_
  exact h
theorem rL_handsIn_185 {G : kz_G} {d : Nat} {mc ms : Nat} {Qr : Option Value → kz_M → Prop} {Qx : String → kz_M → Prop} {x0 : Nat} {x1 : Int32} {x2 : Int32} {x3 : Nat} {x4 : Int32} {x5 : Nat} {x6 : Int32} {x7 : Nat}  {M : kz_M} {c sl : Nat} (hc : c ≤ mc) (hs : sl ≤ ms) (h : ∃ fs1 v2, (M).1 x7 = some (.inl (11, fs1)) ∧ fs1[4]? = some (.int v2) ∧ ((¬ v2 = 0 → zL_handsIn_200 G d mc ms Qr Qx x0 x1 x2 x3 x4 x5 x6 x7 1 x7 M c sl) ∧ (v2 = 0 → zL_handsIn_200 G d mc ms Qr Qx x0 x1 x2 x3 x4 x5 x6 x7 0 x7 M c sl))) : zL_handsIn_185 G d mc ms Qr Qx x0 x1 x2 x3 x4 x5 x6 x7  M c sl := by
  show kz_Z G (d + 8) mc ms mL_handsIn Qr Qx 185 [(0, .ref x0), (1, .int x1), (2, .int x2), (3, .ref x3), (4, .int x4), (5, .ref x5), (6, .int x6), (7, .ref x7)] [] M c sl
  refine kz_aload (pc := 185) 7 (v := .ref x7) (i := 7) rfl rfl dL_handsIn_185 ?_
  refine kz_aload (pc := 187) 7 (v := .ref x7) (i := 7) rfl rfl dL_handsIn_187 ?_
  obtain ⟨fs1, v2, hM, hv, h⟩ := h
  refine kz_getfN (pc := 189) (k := 4) kcX12 hM hv (by decide) kw_1272 dL_handsIn_189 ?_
  refine kz_if_ne (pc := 192) (tgt := 199) (by decide) dL_handsIn_192 (fun hb => ?_) (fun hb => ?_)
  · replace h := h.1 hb
    refine kz_iconst (pc := 199) (v := 1) (by decide) dL_handsIn_199 ?_
    exact h
  · replace h := h.2 hb
    refine kz_iconst (pc := 195) (v := 0) (by decide) dL_handsIn_195 ?_
    refine kz_goto (pc := 196) (tgt := 200) (by decide) dL_handsIn_196 ?_
    exact h
theorem rL_handsIn_200 {G : kz_G} {d : Nat} {mc ms : Nat} {Qr : Option Value → kz_M → Prop} {Qx : String → kz_M → Prop} {x0 : Nat} {x1 : Int32} {x2 : Int32} {x3 : Nat} {x4 : Int32} {x5 : Nat} {x6 : Int32} {x7 : Nat} {s0 : Int32} {s1 : Nat} {M : kz_M} {c sl : Nat} (hc : c ≤ mc) (hs : sl ≤ ms) (h : ∃ fs1, (M).1 s1 = some (.inl (11, fs1)) ∧ 5 < fs1.length ∧ (zL_handsIn_203 G d mc ms Qr Qx x0 x1 x2 x3 x4 x5 x6 x7 (kz_up M s1 (.inl (11, fs1.set 5 (.int s0)))) c sl)) : zL_handsIn_200 G d mc ms Qr Qx x0 x1 x2 x3 x4 x5 x6 x7 s0 s1 M c sl := by
  show kz_Z G (d + 8) mc ms mL_handsIn Qr Qx 200 [(0, .ref x0), (1, .int x1), (2, .int x2), (3, .ref x3), (4, .int x4), (5, .ref x5), (6, .int x6), (7, .ref x7)] [.int s0, .ref s1] M c sl
  obtain ⟨fs1, hM, hlen, h⟩ := h
  refine kz_putfN (pc := 200) (k := 5) kcX12 hM (by decide) hlen kw_1273 rfl rfl rfl dL_handsIn_200 ?_
  exact h
theorem rL_handsIn_203 {G : kz_G} {d : Nat} {mc ms : Nat} {Qr : Option Value → kz_M → Prop} {Qx : String → kz_M → Prop} {x0 : Nat} {x1 : Int32} {x2 : Int32} {x3 : Nat} {x4 : Int32} {x5 : Nat} {x6 : Int32} {x7 : Nat}  {M : kz_M} {c sl : Nat} (hc : c ≤ mc) (hs : sl ≤ ms) (h : ∃ fs1 v2, (M).1 x0 = some (.inl (13, fs1)) ∧ fs1[1]? = some (.ref v2) ∧ (∃ n3 f4, (M).1 v2 = some (.inr (.int, n3, .inl f4)) ∧ vp_in x1 n3 ∧ (∃ fs5 v6, (M).1 x7 = some (.inl (11, fs5)) ∧ fs5[4]? = some (.int v6) ∧ ((¬ v6 = 0 → ∃ fs7 v8, (M).1 x0 = some (.inl (13, fs7)) ∧ fs7[9]? = some (.int v8) ∧ (zL_handsIn_231 G d mc ms Qr Qx x0 x1 x2 x3 x4 x5 x6 x7 (-v8) (f4 x1.toNatClampNeg) x1 v2 M c sl)) ∧ (v6 = 0 → ∃ fs9 v10, (M).1 x7 = some (.inl (11, fs9)) ∧ fs9[3]? = some (.int v10) ∧ (zL_handsIn_231 G d mc ms Qr Qx x0 x1 x2 x3 x4 x5 x6 x7 v10 (f4 x1.toNatClampNeg) x1 v2 M c sl)))))) : zL_handsIn_203 G d mc ms Qr Qx x0 x1 x2 x3 x4 x5 x6 x7  M c sl := by
  show kz_Z G (d + 8) mc ms mL_handsIn Qr Qx 203 [(0, .ref x0), (1, .int x1), (2, .int x2), (3, .ref x3), (4, .int x4), (5, .ref x5), (6, .int x6), (7, .ref x7)] [] M c sl
  refine kz_aload_n (pc := 203) 0 (v := .ref x0) (i := 0) rfl rfl rfl dL_handsIn_203 ?_
  obtain ⟨fs1, v2, hM, hv, h⟩ := h
  refine kz_getf (pc := 204) (k := 1) kcL hM hv (by decide) kw_661 dL_handsIn_204 ?_
  refine kz_iload_n (pc := 207) 1 (i := 1) rfl rfl dL_handsIn_207 ?_
  refine kz_dup2_11 (pc := 208) rfl rfl dL_handsIn_208 ?_
  obtain ⟨n3, f4, hM, hi, h⟩ := h
  refine kz_iald (pc := 209) hM hi dL_handsIn_209 ?_
  refine kz_aload (pc := 210) 7 (v := .ref x7) (i := 7) rfl rfl dL_handsIn_210 ?_
  obtain ⟨fs5, v6, hM, hv, h⟩ := h
  refine kz_getfN (pc := 212) (k := 4) kcX12 hM hv (by decide) kw_1272 dL_handsIn_212 ?_
  refine kz_if_ne (pc := 215) (tgt := 226) (by decide) dL_handsIn_215 (fun hb => ?_) (fun hb => ?_)
  · replace h := h.1 hb
    refine kz_aload_n (pc := 226) 0 (v := .ref x0) (i := 0) rfl rfl rfl dL_handsIn_226 ?_
    obtain ⟨fs7, v8, hM, hv, h⟩ := h
    refine kz_getf (pc := 227) (k := 9) kcL hM hv (by decide) kw_669 dL_handsIn_227 ?_
    refine kz_ineg (pc := 230) dL_handsIn_230 ?_
    exact h
  · replace h := h.2 hb
    refine kz_aload (pc := 218) 7 (v := .ref x7) (i := 7) rfl rfl dL_handsIn_218 ?_
    obtain ⟨fs9, v10, hM, hv, h⟩ := h
    refine kz_getfN (pc := 220) (k := 3) kcX12 hM hv (by decide) kw_1271 dL_handsIn_220 ?_
    refine kz_goto (pc := 223) (tgt := 231) (by decide) dL_handsIn_223 ?_
    exact h
theorem rL_handsIn_231 {G : kz_G} {d : Nat} {mc ms : Nat} {Qr : Option Value → kz_M → Prop} {Qx : String → kz_M → Prop} {x0 : Nat} {x1 : Int32} {x2 : Int32} {x3 : Nat} {x4 : Int32} {x5 : Nat} {x6 : Int32} {x7 : Nat} {s0 : Int32} {s1 : Int32} {s2 : Int32} {s3 : Nat} {M : kz_M} {c sl : Nat} (hc : c ≤ mc) (hs : sl ≤ ms) (h : ∃ n1 f2, (M).1 s3 = some (.inr (.int, n1, .inl f2)) ∧ vp_in s2 n1 ∧ (zL_handsIn_233 G d mc ms Qr Qx x0 x1 x2 x3 x4 x5 x6 x7 (kz_up M s3 (.inr (.int, n1, .inl (upd f2 (s2 : Int32).toNatClampNeg (s1 + s0))))) c sl)) : zL_handsIn_231 G d mc ms Qr Qx x0 x1 x2 x3 x4 x5 x6 x7 s0 s1 s2 s3 M c sl := by
  show kz_Z G (d + 8) mc ms mL_handsIn Qr Qx 231 [(0, .ref x0), (1, .int x1), (2, .int x2), (3, .ref x3), (4, .int x4), (5, .ref x5), (6, .int x6), (7, .ref x7)] [.int s0, .int s1, .int s2, .ref s3] M c sl
  refine kz_iadd (pc := 231) dL_handsIn_231 ?_
  obtain ⟨n1, f2, hM, hi, h⟩ := h
  refine kz_iast (pc := 232) hM hi dL_handsIn_232 ?_
  exact h
theorem rL_handsIn_233 {G : kz_G} {d : Nat} {mc ms : Nat} {Qr : Option Value → kz_M → Prop} {Qx : String → kz_M → Prop} {x0 : Nat} {x1 : Int32} {x2 : Int32} {x3 : Nat} {x4 : Int32} {x5 : Nat} {x6 : Int32} {x7 : Nat}  {M : kz_M} {c sl : Nat} (hc : c ≤ mc) (hs : sl ≤ ms) (h : ∃ fs1 v2, (M).1 x5 = some (.inl (12, fs1)) ∧ fs1[2]? = some (.ref v2) ∧ ((∃ fs6, (M).1 v2 = some (.inl (16, fs6))) ∧ ∃ mc5 ms5, c + mc5 ≤ mc ∧ sl + ms5 ≤ ms ∧ kz_C G (d + 7) mc5 ms5 mJx4a65c_add_9ea2d [.ref v2, .ref x7] M (fun v M3 => ∃ r4 : Int32, v = some (.int r4) ∧ (zL_handsIn_27 G d mc ms Qr Qx x0 x1 x2 x3 x4 x5 x6 M3 (c + mc5) (sl + ms5))) (fun _ _ => False))) : zL_handsIn_233 G d mc ms Qr Qx x0 x1 x2 x3 x4 x5 x6 x7  M c sl := by
  show kz_Z G (d + 8) mc ms mL_handsIn Qr Qx 233 [(0, .ref x0), (1, .int x1), (2, .int x2), (3, .ref x3), (4, .int x4), (5, .ref x5), (6, .int x6), (7, .ref x7)] [] M c sl
  refine kz_aload (pc := 233) 5 (v := .ref x5) (i := 5) rfl rfl dL_handsIn_233 ?_
  obtain ⟨fs1, v2, hM, hv, h⟩ := h
  refine kz_getfN (pc := 235) (k := 2) kcX13 hM hv (by decide) kw_1254 dL_handsIn_235 ?_
  refine kz_aload (pc := 238) 7 (v := .ref x7) (i := 7) rfl rfl dL_handsIn_238 ?_
  obtain ⟨⟨fs6, he⟩, h⟩ := h
  obtain ⟨mc5, ms5, hc5, hs5, h⟩ := h
  refine kz_callF (pc := 240) (μ' := mJx4a65c_add_9ea2d) (x := ⟨"java/util/List", "add", "(Ljava/lang/Object;)Z"⟩) (ci := 16) (q := (RJx4a65c, TJx4a65c, 3)) (b := v2) (d' := d + 7) (mc' := mc5) (ms' := ms5) (As := [.ref x7]) (st := []) (c := c) (sl := sl) kmJx4a65c_add_9ea2d rfl kw_1354 (List.mem_of_getElem? (i := 4) rfl) (by decide +kernel) kw_1352 kw_1349 (by omega) rfl (Nat.le_of_ble_eq_true rfl) he rfl hc5 hs5 dL_handsIn_240 (kz_Cmono (fun v M3 h => ?_) (fun _ _ h => h) h)
  obtain ⟨r4, rfl, h⟩ := h
  show kz_Z G (d + 8) mc ms mL_handsIn Qr Qx 245 [(0, .ref x0), (1, .int x1), (2, .int x2), (3, .ref x3), (4, .int x4), (5, .ref x5), (6, .int x6), (7, .ref x7)] [.int r4] M3 (c + mc5) (sl + ms5)
  refine kz_pop (pc := 245) rfl dL_handsIn_245 ?_
  refine kz_goto (pc := 246) (tgt := 27) (by decide) dL_handsIn_246 ?_
  refine kz_sub [0, 1, 2, 3, 4, 5, 6] rfl ?_
  exact h
