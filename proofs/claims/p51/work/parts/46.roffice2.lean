/-! The rules of 46.roffice2: printed by program (wip/whole/rules.py) -/
theorem dX11_appeal_0 : decode cX11_appeal 0 = .ok (.aload_n 0, 1) := by decide +kernel
theorem dX11_appeal_1 : decode cX11_appeal 1 = .ok (.iload_n 1, 1) := by decide +kernel
theorem dX11_appeal_2 : decode cX11_appeal 2 = .ok (.invokevirtual 165, 3) := by decide +kernel
theorem dX11_appeal_5 : decode cX11_appeal 5 = .ok (.astore_n 3, 1) := by decide +kernel
theorem dX11_appeal_6 : decode cX11_appeal 6 = .ok (.aload_n 0, 1) := by decide +kernel
theorem dX11_appeal_7 : decode cX11_appeal 7 = .ok (.iload_n 1, 1) := by decide +kernel
theorem dX11_appeal_8 : decode cX11_appeal 8 = .ok (.iload_n 2, 1) := by decide +kernel
theorem dX11_appeal_9 : decode cX11_appeal 9 = .ok (.invokevirtual 197, 3) := by decide +kernel
theorem dX11_appeal_12 : decode cX11_appeal 12 = .ok (.astore 4, 2) := by decide +kernel
theorem dX11_appeal_14 : decode cX11_appeal 14 = .ok (.aload_n 0, 1) := by decide +kernel
theorem dX11_appeal_15 : decode cX11_appeal 15 = .ok (.getfield 26, 3) := by decide +kernel
theorem dX11_appeal_18 : decode cX11_appeal 18 = .ok (.aload_n 3, 1) := by decide +kernel
theorem dX11_appeal_19 : decode cX11_appeal 19 = .ok (.aload 4, 2) := by decide +kernel
theorem dX11_appeal_21 : decode cX11_appeal 21 = .ok (.invokevirtual 339, 3) := by decide +kernel
theorem dX11_appeal_24 : decode cX11_appeal 24 = .ok (.istore 5, 2) := by decide +kernel
theorem dX11_appeal_26 : decode cX11_appeal 26 = .ok (.iload 5, 2) := by decide +kernel
theorem dX11_appeal_28 : decode cX11_appeal 28 = .ok (.ifCond .eq 7, 3) := by decide +kernel
theorem dX11_appeal_31 : decode cX11_appeal 31 = .ok (.iload 5, 2) := by decide +kernel
theorem dX11_appeal_33 : decode cX11_appeal 33 = .ok (.ineg, 1) := by decide +kernel
theorem dX11_appeal_34 : decode cX11_appeal 34 = .ok (.ireturn, 1) := by decide +kernel
theorem dX11_appeal_35 : decode cX11_appeal 35 = .ok (.aload_n 0, 1) := by decide +kernel
theorem dX11_appeal_36 : decode cX11_appeal 36 = .ok (.getfield 36, 3) := by decide +kernel
theorem dX11_appeal_39 : decode cX11_appeal 39 = .ok (.aload_n 0, 1) := by decide +kernel
theorem dX11_appeal_40 : decode cX11_appeal 40 = .ok (.getfield 26, 3) := by decide +kernel
theorem dX11_appeal_43 : decode cX11_appeal 43 = .ok (.invokevirtual 362, 3) := by decide +kernel
theorem dX11_appeal_46 : decode cX11_appeal 46 = .ok (.aload 4, 2) := by decide +kernel
theorem dX11_appeal_48 : decode cX11_appeal 48 = .ok (.invokevirtual 219, 3) := by decide +kernel
theorem dX11_appeal_51 : decode cX11_appeal 51 = .ok (.aload_n 0, 1) := by decide +kernel
theorem dX11_appeal_52 : decode cX11_appeal 52 = .ok (.getfield 26, 3) := by decide +kernel
theorem dX11_appeal_55 : decode cX11_appeal 55 = .ok (.iconst 5, 1) := by decide +kernel
theorem dX11_appeal_56 : decode cX11_appeal 56 = .ok (.invokevirtual 144, 3) := by decide +kernel
theorem dX11_appeal_59 : decode cX11_appeal 59 = .ok (.if_icmp .lt 7, 3) := by decide +kernel
theorem dX11_appeal_62 : decode cX11_appeal 62 = .ok (.iconst 1, 1) := by decide +kernel
theorem dX11_appeal_63 : decode cX11_appeal 63 = .ok (.goto 4, 3) := by decide +kernel
theorem dX11_appeal_66 : decode cX11_appeal 66 = .ok (.iconst 0, 1) := by decide +kernel
theorem dX11_appeal_67 : decode cX11_appeal 67 = .ok (.istore 6, 2) := by decide +kernel
theorem dX11_appeal_69 : decode cX11_appeal 69 = .ok (.aload_n 0, 1) := by decide +kernel
theorem dX11_appeal_70 : decode cX11_appeal 70 = .ok (.getfield 26, 3) := by decide +kernel
theorem dX11_appeal_73 : decode cX11_appeal 73 = .ok (.iload_n 1, 1) := by decide +kernel
theorem dX11_appeal_74 : decode cX11_appeal 74 = .ok (.aload_n 3, 1) := by decide +kernel
theorem dX11_appeal_75 : decode cX11_appeal 75 = .ok (.iload_n 2, 1) := by decide +kernel
theorem dX11_appeal_76 : decode cX11_appeal 76 = .ok (.iload 6, 2) := by decide +kernel
theorem dX11_appeal_78 : decode cX11_appeal 78 = .ok (.ifCond .eq 7, 3) := by decide +kernel
theorem dX11_appeal_81 : decode cX11_appeal 81 = .ok (.iconst 2, 1) := by decide +kernel
theorem dX11_appeal_82 : decode cX11_appeal 82 = .ok (.goto 4, 3) := by decide +kernel
theorem dX11_appeal_85 : decode cX11_appeal 85 = .ok (.iconst 3, 1) := by decide +kernel
theorem dX11_appeal_86 : decode cX11_appeal 86 = .ok (.invokevirtual 368, 3) := by decide +kernel
theorem dX11_appeal_89 : decode cX11_appeal 89 = .ok (.invokevirtual 371, 3) := by decide +kernel
theorem dX11_appeal_92 : decode cX11_appeal 92 = .ok (.iload 6, 2) := by decide +kernel
theorem dX11_appeal_94 : decode cX11_appeal 94 = .ok (.ifCond .eq 32, 3) := by decide +kernel
theorem dX11_appeal_97 : decode cX11_appeal 97 = .ok (.aload_n 0, 1) := by decide +kernel
theorem dX11_appeal_98 : decode cX11_appeal 98 = .ok (.getfield 26, 3) := by decide +kernel
theorem dX11_appeal_101 : decode cX11_appeal 101 = .ok (.aload_n 3, 1) := by decide +kernel
theorem dX11_appeal_102 : decode cX11_appeal 102 = .ok (.getfield 169, 3) := by decide +kernel
theorem dX11_appeal_105 : decode cX11_appeal 105 = .ok (.iconst 2, 1) := by decide +kernel
theorem dX11_appeal_106 : decode cX11_appeal 106 = .ok (.aload 4, 2) := by decide +kernel
theorem dX11_appeal_108 : decode cX11_appeal 108 = .ok (.getfield 216, 3) := by decide +kernel
theorem dX11_appeal_111 : decode cX11_appeal 111 = .ok (.aload_n 0, 1) := by decide +kernel
theorem dX11_appeal_112 : decode cX11_appeal 112 = .ok (.getfield 26, 3) := by decide +kernel
theorem dX11_appeal_115 : decode cX11_appeal 115 = .ok (.iconst 3, 1) := by decide +kernel
theorem dX11_appeal_116 : decode cX11_appeal 116 = .ok (.invokevirtual 144, 3) := by decide +kernel
theorem dX11_appeal_119 : decode cX11_appeal 119 = .ok (.iadd, 1) := by decide +kernel
theorem dX11_appeal_120 : decode cX11_appeal 120 = .ok (.invokevirtual 375, 3) := by decide +kernel
theorem dX11_appeal_123 : decode cX11_appeal 123 = .ok (.goto 25, 3) := by decide +kernel
theorem dX11_appeal_126 : decode cX11_appeal 126 = .ok (.aload_n 0, 1) := by decide +kernel
theorem dX11_appeal_127 : decode cX11_appeal 127 = .ok (.getfield 26, 3) := by decide +kernel
theorem dX11_appeal_130 : decode cX11_appeal 130 = .ok (.aload_n 3, 1) := by decide +kernel
theorem dX11_appeal_131 : decode cX11_appeal 131 = .ok (.getfield 169, 3) := by decide +kernel
theorem dX11_appeal_134 : decode cX11_appeal 134 = .ok (.iconst 3, 1) := by decide +kernel
theorem dX11_appeal_135 : decode cX11_appeal 135 = .ok (.aload_n 0, 1) := by decide +kernel
theorem dX11_appeal_136 : decode cX11_appeal 136 = .ok (.getfield 26, 3) := by decide +kernel
theorem dX11_appeal_139 : decode cX11_appeal 139 = .ok (.bipush 6, 2) := by decide +kernel
theorem dX11_appeal_141 : decode cX11_appeal 141 = .ok (.invokevirtual 144, 3) := by decide +kernel
theorem dX11_appeal_144 : decode cX11_appeal 144 = .ok (.ineg, 1) := by decide +kernel
theorem dX11_appeal_145 : decode cX11_appeal 145 = .ok (.invokevirtual 375, 3) := by decide +kernel
theorem dX11_appeal_148 : decode cX11_appeal 148 = .ok (.iload 6, 2) := by decide +kernel
theorem dX11_appeal_150 : decode cX11_appeal 150 = .ok (.ifCond .eq 7, 3) := by decide +kernel
theorem dX11_appeal_153 : decode cX11_appeal 153 = .ok (.iconst 1, 1) := by decide +kernel
theorem dX11_appeal_154 : decode cX11_appeal 154 = .ok (.goto 4, 3) := by decide +kernel
theorem dX11_appeal_157 : decode cX11_appeal 157 = .ok (.iconst 0, 1) := by decide +kernel
theorem dX11_appeal_158 : decode cX11_appeal 158 = .ok (.ireturn, 1) := by decide +kernel
theorem rX11_appeal_0 {G : kz_G} {d : Nat} {mc ms : Nat} {Qr : Option Value → kz_M → Prop} {Qx : String → kz_M → Prop} {a0 : Nat} {p1 : Int32} {p2 : Int32}  {M : kz_M} (h : (∃ fs188, (M).1 a0 = some (.inl (10, fs188))) ∧ ∃ mc3 ms3, 0 + mc3 ≤ mc ∧ 0 + ms3 ≤ ms ∧ kz_C G (d + 8) mc3 ms3 mX11_workOrThrow [.ref a0, .int p1] M (fun v M1 => ∃ r2 : Nat, v = some (.ref r2) ∧ ((∃ fs187, (M1).1 a0 = some (.inl (10, fs187))) ∧ ∃ mc6 ms6, 0 + mc3 + mc6 ≤ mc ∧ 0 + ms3 + ms6 ≤ ms ∧ kz_C G (d + 8) mc6 ms6 mX11_lineOrThrow [.ref a0, .int p1, .int p2] M1 (fun v M4 => ∃ r5 : Nat, v = some (.ref r5) ∧ (∃ fs7 v8, (M4).1 a0 = some (.inl (10, fs7)) ∧ fs7[2]? = some (.ref v8) ∧ ((∃ fs186, (M4).1 v8 = some (.inl (8, fs186))) ∧ kz_C G (d + 8) 0 0 mX9_objectionTo [.ref v8, .ref r2, .ref r5] M4 (fun v M9 => ∃ r10 : Int32, v = some (.int r10) ∧ ((r10 = 0 → ∃ fs12 v13, (M9).1 a0 = some (.inl (10, fs12)) ∧ fs12[4]? = some (.ref v13) ∧ (∃ fs14 v15, (M9).1 a0 = some (.inl (10, fs14)) ∧ fs14[2]? = some (.ref v15) ∧ ((∃ fs185, (M9).1 v13 = some (.inl (0, fs185))) ∧ kz_C G (d + 8) 0 0 mX0_keep [.ref v13, .ref v15] M9 (fun v M16 => v = none ∧ ((∃ fs184, (M16).1 r5 = some (.inl (3, fs184))) ∧ kz_C G (d + 8) 0 0 mX3_different [.ref r5] M16 (fun v M19 => ∃ r20 : Int32, v = some (.int r20) ∧ (∃ fs22 v23, (M19).1 a0 = some (.inl (10, fs22)) ∧ fs22[2]? = some (.ref v23) ∧ ((∃ fs183, (M19).1 v23 = some (.inl (8, fs183))) ∧ kz_C G (d + 8) 0 0 mX9_rule [.ref v23, .int 5] M19 (fun v M24 => ∃ r25 : Int32, v = some (.int r25) ∧ ((r20 < r25 → ∃ fs27 v28, (M24).1 a0 = some (.inl (10, fs27)) ∧ fs27[2]? = some (.ref v28) ∧ (((0 : Int32) = 0 → (∃ fs66, (M24).1 r2 = some (.inl (9, fs66))) ∧ ∃ mc31 ms31, 0 + mc3 + mc6 + mc31 ≤ mc ∧ 0 + ms3 + ms6 + ms31 ≤ ms ∧ kz_C G (d + 8) mc31 ms31 mX10_withState [.ref r2, .int p2, .int 3] M24 (fun v M29 => ∃ r30 : Nat, v = some (.ref r30) ∧ ((∃ fs65, (M29).1 v28 = some (.inl (8, fs65))) ∧ kz_C G (d + 8) 0 0 mX9_replaceWork [.ref v28, .int p1, .ref r30] M29 (fun v M32 => v = none ∧ (((0 : Int32) = 0 → ∃ fs35 v36, (M32).1 a0 = some (.inl (10, fs35)) ∧ fs35[2]? = some (.ref v36) ∧ (∃ fs37 v38, (M32).1 r2 = some (.inl (9, fs37)) ∧ fs37[0]? = some (.int v38) ∧ (∃ fs39 v40, (M32).1 a0 = some (.inl (10, fs39)) ∧ fs39[2]? = some (.ref v40) ∧ ((∃ fs48, (M32).1 v40 = some (.inl (8, fs48))) ∧ kz_C G (d + 8) 0 0 mX9_rule [.ref v40, .int 6] M32 (fun v M41 => ∃ r42 : Int32, v = some (.int r42) ∧ ((∃ fs47, (M41).1 v36 = some (.inl (8, fs47))) ∧ kz_C G (d + 8) 0 0 mX9_book [.ref v36, .int v38, .int 3, .int (-r42)] M41 (fun v M44 => v = none ∧ (((0 : Int32) = 0 → Qr (some (.int 0)) M44) ∧ (¬ (0 : Int32) = 0 → Qr (some (.int 1)) M44))) Qx)) Qx)))) ∧ (¬ (0 : Int32) = 0 → ∃ fs49 v50, (M32).1 a0 = some (.inl (10, fs49)) ∧ fs49[2]? = some (.ref v50) ∧ (∃ fs51 v52, (M32).1 r2 = some (.inl (9, fs51)) ∧ fs51[0]? = some (.int v52) ∧ (∃ fs53 v54, (M32).1 r5 = some (.inl (3, fs53)) ∧ fs53[4]? = some (.int v54) ∧ (∃ fs55 v56, (M32).1 a0 = some (.inl (10, fs55)) ∧ fs55[2]? = some (.ref v56) ∧ ((∃ fs64, (M32).1 v56 = some (.inl (8, fs64))) ∧ kz_C G (d + 8) 0 0 mX9_rule [.ref v56, .int 3] M32 (fun v M57 => ∃ r58 : Int32, v = some (.int r58) ∧ ((∃ fs63, (M57).1 v50 = some (.inl (8, fs63))) ∧ kz_C G (d + 8) 0 0 mX9_book [.ref v50, .int v52, .int 2, .int (v54 + r58)] M57 (fun v M60 => v = none ∧ (((0 : Int32) = 0 → Qr (some (.int 0)) M60) ∧ (¬ (0 : Int32) = 0 → Qr (some (.int 1)) M60))) Qx)) Qx))))))) Qx)) Qx) ∧ (¬ (0 : Int32) = 0 → (∃ fs104, (M24).1 r2 = some (.inl (9, fs104))) ∧ ∃ mc69 ms69, 0 + mc3 + mc6 + mc69 ≤ mc ∧ 0 + ms3 + ms6 + ms69 ≤ ms ∧ kz_C G (d + 8) mc69 ms69 mX10_withState [.ref r2, .int p2, .int 2] M24 (fun v M67 => ∃ r68 : Nat, v = some (.ref r68) ∧ ((∃ fs103, (M67).1 v28 = some (.inl (8, fs103))) ∧ kz_C G (d + 8) 0 0 mX9_replaceWork [.ref v28, .int p1, .ref r68] M67 (fun v M70 => v = none ∧ (((0 : Int32) = 0 → ∃ fs73 v74, (M70).1 a0 = some (.inl (10, fs73)) ∧ fs73[2]? = some (.ref v74) ∧ (∃ fs75 v76, (M70).1 r2 = some (.inl (9, fs75)) ∧ fs75[0]? = some (.int v76) ∧ (∃ fs77 v78, (M70).1 a0 = some (.inl (10, fs77)) ∧ fs77[2]? = some (.ref v78) ∧ ((∃ fs86, (M70).1 v78 = some (.inl (8, fs86))) ∧ kz_C G (d + 8) 0 0 mX9_rule [.ref v78, .int 6] M70 (fun v M79 => ∃ r80 : Int32, v = some (.int r80) ∧ ((∃ fs85, (M79).1 v74 = some (.inl (8, fs85))) ∧ kz_C G (d + 8) 0 0 mX9_book [.ref v74, .int v76, .int 3, .int (-r80)] M79 (fun v M82 => v = none ∧ (((0 : Int32) = 0 → Qr (some (.int 0)) M82) ∧ (¬ (0 : Int32) = 0 → Qr (some (.int 1)) M82))) Qx)) Qx)))) ∧ (¬ (0 : Int32) = 0 → ∃ fs87 v88, (M70).1 a0 = some (.inl (10, fs87)) ∧ fs87[2]? = some (.ref v88) ∧ (∃ fs89 v90, (M70).1 r2 = some (.inl (9, fs89)) ∧ fs89[0]? = some (.int v90) ∧ (∃ fs91 v92, (M70).1 r5 = some (.inl (3, fs91)) ∧ fs91[4]? = some (.int v92) ∧ (∃ fs93 v94, (M70).1 a0 = some (.inl (10, fs93)) ∧ fs93[2]? = some (.ref v94) ∧ ((∃ fs102, (M70).1 v94 = some (.inl (8, fs102))) ∧ kz_C G (d + 8) 0 0 mX9_rule [.ref v94, .int 3] M70 (fun v M95 => ∃ r96 : Int32, v = some (.int r96) ∧ ((∃ fs101, (M95).1 v88 = some (.inl (8, fs101))) ∧ kz_C G (d + 8) 0 0 mX9_book [.ref v88, .int v90, .int 2, .int (v92 + r96)] M95 (fun v M98 => v = none ∧ (((0 : Int32) = 0 → Qr (some (.int 0)) M98) ∧ (¬ (0 : Int32) = 0 → Qr (some (.int 1)) M98))) Qx)) Qx))))))) Qx)) Qx))) ∧ (¬ r20 < r25 → ∃ fs105 v106, (M24).1 a0 = some (.inl (10, fs105)) ∧ fs105[2]? = some (.ref v106) ∧ (((1 : Int32) = 0 → (∃ fs144, (M24).1 r2 = some (.inl (9, fs144))) ∧ ∃ mc109 ms109, 0 + mc3 + mc6 + mc109 ≤ mc ∧ 0 + ms3 + ms6 + ms109 ≤ ms ∧ kz_C G (d + 8) mc109 ms109 mX10_withState [.ref r2, .int p2, .int 3] M24 (fun v M107 => ∃ r108 : Nat, v = some (.ref r108) ∧ ((∃ fs143, (M107).1 v106 = some (.inl (8, fs143))) ∧ kz_C G (d + 8) 0 0 mX9_replaceWork [.ref v106, .int p1, .ref r108] M107 (fun v M110 => v = none ∧ (((1 : Int32) = 0 → ∃ fs113 v114, (M110).1 a0 = some (.inl (10, fs113)) ∧ fs113[2]? = some (.ref v114) ∧ (∃ fs115 v116, (M110).1 r2 = some (.inl (9, fs115)) ∧ fs115[0]? = some (.int v116) ∧ (∃ fs117 v118, (M110).1 a0 = some (.inl (10, fs117)) ∧ fs117[2]? = some (.ref v118) ∧ ((∃ fs126, (M110).1 v118 = some (.inl (8, fs126))) ∧ kz_C G (d + 8) 0 0 mX9_rule [.ref v118, .int 6] M110 (fun v M119 => ∃ r120 : Int32, v = some (.int r120) ∧ ((∃ fs125, (M119).1 v114 = some (.inl (8, fs125))) ∧ kz_C G (d + 8) 0 0 mX9_book [.ref v114, .int v116, .int 3, .int (-r120)] M119 (fun v M122 => v = none ∧ (((1 : Int32) = 0 → Qr (some (.int 0)) M122) ∧ (¬ (1 : Int32) = 0 → Qr (some (.int 1)) M122))) Qx)) Qx)))) ∧ (¬ (1 : Int32) = 0 → ∃ fs127 v128, (M110).1 a0 = some (.inl (10, fs127)) ∧ fs127[2]? = some (.ref v128) ∧ (∃ fs129 v130, (M110).1 r2 = some (.inl (9, fs129)) ∧ fs129[0]? = some (.int v130) ∧ (∃ fs131 v132, (M110).1 r5 = some (.inl (3, fs131)) ∧ fs131[4]? = some (.int v132) ∧ (∃ fs133 v134, (M110).1 a0 = some (.inl (10, fs133)) ∧ fs133[2]? = some (.ref v134) ∧ ((∃ fs142, (M110).1 v134 = some (.inl (8, fs142))) ∧ kz_C G (d + 8) 0 0 mX9_rule [.ref v134, .int 3] M110 (fun v M135 => ∃ r136 : Int32, v = some (.int r136) ∧ ((∃ fs141, (M135).1 v128 = some (.inl (8, fs141))) ∧ kz_C G (d + 8) 0 0 mX9_book [.ref v128, .int v130, .int 2, .int (v132 + r136)] M135 (fun v M138 => v = none ∧ (((1 : Int32) = 0 → Qr (some (.int 0)) M138) ∧ (¬ (1 : Int32) = 0 → Qr (some (.int 1)) M138))) Qx)) Qx))))))) Qx)) Qx) ∧ (¬ (1 : Int32) = 0 → (∃ fs182, (M24).1 r2 = some (.inl (9, fs182))) ∧ ∃ mc147 ms147, 0 + mc3 + mc6 + mc147 ≤ mc ∧ 0 + ms3 + ms6 + ms147 ≤ ms ∧ kz_C G (d + 8) mc147 ms147 mX10_withState [.ref r2, .int p2, .int 2] M24 (fun v M145 => ∃ r146 : Nat, v = some (.ref r146) ∧ ((∃ fs181, (M145).1 v106 = some (.inl (8, fs181))) ∧ kz_C G (d + 8) 0 0 mX9_replaceWork [.ref v106, .int p1, .ref r146] M145 (fun v M148 => v = none ∧ (((1 : Int32) = 0 → ∃ fs151 v152, (M148).1 a0 = some (.inl (10, fs151)) ∧ fs151[2]? = some (.ref v152) ∧ (∃ fs153 v154, (M148).1 r2 = some (.inl (9, fs153)) ∧ fs153[0]? = some (.int v154) ∧ (∃ fs155 v156, (M148).1 a0 = some (.inl (10, fs155)) ∧ fs155[2]? = some (.ref v156) ∧ ((∃ fs164, (M148).1 v156 = some (.inl (8, fs164))) ∧ kz_C G (d + 8) 0 0 mX9_rule [.ref v156, .int 6] M148 (fun v M157 => ∃ r158 : Int32, v = some (.int r158) ∧ ((∃ fs163, (M157).1 v152 = some (.inl (8, fs163))) ∧ kz_C G (d + 8) 0 0 mX9_book [.ref v152, .int v154, .int 3, .int (-r158)] M157 (fun v M160 => v = none ∧ (((1 : Int32) = 0 → Qr (some (.int 0)) M160) ∧ (¬ (1 : Int32) = 0 → Qr (some (.int 1)) M160))) Qx)) Qx)))) ∧ (¬ (1 : Int32) = 0 → ∃ fs165 v166, (M148).1 a0 = some (.inl (10, fs165)) ∧ fs165[2]? = some (.ref v166) ∧ (∃ fs167 v168, (M148).1 r2 = some (.inl (9, fs167)) ∧ fs167[0]? = some (.int v168) ∧ (∃ fs169 v170, (M148).1 r5 = some (.inl (3, fs169)) ∧ fs169[4]? = some (.int v170) ∧ (∃ fs171 v172, (M148).1 a0 = some (.inl (10, fs171)) ∧ fs171[2]? = some (.ref v172) ∧ ((∃ fs180, (M148).1 v172 = some (.inl (8, fs180))) ∧ kz_C G (d + 8) 0 0 mX9_rule [.ref v172, .int 3] M148 (fun v M173 => ∃ r174 : Int32, v = some (.int r174) ∧ ((∃ fs179, (M173).1 v166 = some (.inl (8, fs179))) ∧ kz_C G (d + 8) 0 0 mX9_book [.ref v166, .int v168, .int 2, .int (v170 + r174)] M173 (fun v M176 => v = none ∧ (((1 : Int32) = 0 → Qr (some (.int 0)) M176) ∧ (¬ (1 : Int32) = 0 → Qr (some (.int 1)) M176))) Qx)) Qx))))))) Qx)) Qx))))) Qx))) Qx)) Qx))) ∧ (¬ r10 = 0 → Qr (some (.int (-r10))) M9))) Qx))) Qx)) Qx) : kz_C G (d + 9) mc ms mX11_appeal [.ref a0, .int p1, .int p2] M Qr Qx := by
  refine kz_enter (n := 2) kmX11_appeal.1 (Nat.le_of_ble_eq_true rfl) (ls := [(0, .ref a0), (1, .int p1), (2, .int p2)]) rfl ?_
  refine kz_aload_n (pc := 0) 0 (v := .ref a0) (i := 0) rfl rfl rfl dX11_appeal_0 ?_
  refine kz_iload_n (pc := 1) 1 (i := 1) rfl rfl dX11_appeal_1 ?_
  obtain ⟨⟨fs188, he⟩, h⟩ := h
  obtain ⟨mc3, ms3, hc3, hs3, h⟩ := h
  refine kz_callV (pc := 2) (μ' := mX11_workOrThrow) (ci := 10) (q := (RX11, TX11, 10)) (b := a0) (d' := d + 8) (mc' := mc3) (ms' := ms3) (As := [.int p1]) (st := []) (c := 0) (sl := 0) kmX11_workOrThrow kw_959 (by omega) rfl (Nat.le_of_ble_eq_true rfl) he rfl rfl hc3 hs3 dX11_appeal_2 (fun E M9 hx => kz_Tout rfl hc3 hs3 hx) (kz_Cmono (fun v M1 h => ?_) (fun _ _ h => h) h)
  obtain ⟨r2, rfl, h⟩ := h
  show kz_Z G (d + 9) mc ms mX11_appeal Qr Qx 5 [(0, .ref a0), (1, .int p1), (2, .int p2)] [.ref r2] M1 (0 + mc3) (0 + ms3)
  refine kz_astore_n (pc := 5) (i := 3) (v := .ref r2) (ls' := [(0, .ref a0), (1, .int p1), (2, .int p2)]) rfl rfl (by decide) rfl dX11_appeal_5 ?_
  refine kz_aload_n (pc := 6) 1 (v := .ref a0) (i := 0) rfl rfl rfl dX11_appeal_6 ?_
  refine kz_iload_n (pc := 7) 2 (i := 1) rfl rfl dX11_appeal_7 ?_
  refine kz_iload_n (pc := 8) 3 (i := 2) rfl rfl dX11_appeal_8 ?_
  obtain ⟨⟨fs187, he⟩, h⟩ := h
  obtain ⟨mc6, ms6, hc6, hs6, h⟩ := h
  refine kz_callV (pc := 9) (μ' := mX11_lineOrThrow) (ci := 10) (q := (RX11, TX11, 10)) (b := a0) (d' := d + 8) (mc' := mc6) (ms' := ms6) (As := [.int p1, .int p2]) (st := []) (c := 0 + mc3) (sl := 0 + ms3) kmX11_lineOrThrow kw_983 (by omega) rfl (Nat.le_of_ble_eq_true rfl) he rfl rfl hc6 hs6 dX11_appeal_9 (fun E M9 hx => kz_Tout rfl hc6 hs6 hx) (kz_Cmono (fun v M4 h => ?_) (fun _ _ h => h) h)
  obtain ⟨r5, rfl, h⟩ := h
  show kz_Z G (d + 9) mc ms mX11_appeal Qr Qx 12 [(3, .ref r2), (0, .ref a0), (1, .int p1), (2, .int p2)] [.ref r5] M4 (0 + mc3 + mc6) (0 + ms3 + ms6)
  refine kz_astore (pc := 12) (i := 4) (v := .ref r5) (ls' := [(3, .ref r2), (0, .ref a0), (1, .int p1), (2, .int p2)]) rfl (by decide) rfl dX11_appeal_12 ?_
  refine kz_aload_n (pc := 14) 2 (v := .ref a0) (i := 0) rfl rfl rfl dX11_appeal_14 ?_
  obtain ⟨fs7, v8, hM, hv, h⟩ := h
  refine kz_getf (pc := 15) (k := 2) kcX11 hM hv (by decide) kw_284 dX11_appeal_15 ?_
  refine kz_aload_n (pc := 18) 1 (v := .ref r2) (i := 3) rfl rfl rfl dX11_appeal_18 ?_
  refine kz_aload (pc := 19) 0 (v := .ref r5) (i := 4) rfl rfl dX11_appeal_19 ?_
  obtain ⟨⟨fs186, he⟩, h⟩ := h
  refine kz_callV (pc := 21) (μ' := mX9_objectionTo) (ci := 8) (q := (RX9, TX9, 10)) (b := v8) (d' := d + 8) (mc' := 0) (ms' := 0) (As := [.ref r2, .ref r5]) (st := []) (c := 0 + mc3 + mc6) (sl := 0 + ms3 + ms6) kmX9_objectionTo kw_1458 (by omega) rfl (Nat.le_of_ble_eq_true rfl) he rfl rfl hc6 hs6 dX11_appeal_21 (fun E M9 hx => kz_Tout rfl hc6 hs6 hx) (kz_Cmono (fun v M9 h => ?_) (fun _ _ h => h) h)
  obtain ⟨r10, rfl, h⟩ := h
  show kz_Z G (d + 9) mc ms mX11_appeal Qr Qx 24 [(4, .ref r5), (3, .ref r2), (0, .ref a0), (1, .int p1), (2, .int p2)] [.int r10] M9 (0 + mc3 + mc6) (0 + ms3 + ms6)
  refine kz_istore (pc := 24) (i := 5) (ls' := [(4, .ref r5), (3, .ref r2), (0, .ref a0), (1, .int p1), (2, .int p2)]) (by decide) rfl dX11_appeal_24 ?_
  refine kz_iload (pc := 26) 0 (i := 5) rfl dX11_appeal_26 ?_
  refine kz_if_eq (pc := 28) (tgt := 35) (by decide) dX11_appeal_28 (fun hb => ?_) (fun hb => ?_)
  · replace h := h.1 hb
    refine kz_aload_n (pc := 35) 3 (v := .ref a0) (i := 0) rfl rfl rfl dX11_appeal_35 ?_
    obtain ⟨fs12, v13, hM, hv, h⟩ := h
    refine kz_getf (pc := 36) (k := 4) kcX11 hM hv (by decide) kw_286 dX11_appeal_36 ?_
    refine kz_aload_n (pc := 39) 3 (v := .ref a0) (i := 0) rfl rfl rfl dX11_appeal_39 ?_
    obtain ⟨fs14, v15, hM, hv, h⟩ := h
    refine kz_getf (pc := 40) (k := 2) kcX11 hM hv (by decide) kw_284 dX11_appeal_40 ?_
    obtain ⟨⟨fs185, he⟩, h⟩ := h
    refine kz_callV (pc := 43) (μ' := mX0_keep) (ci := 0) (q := (RX0, TX0, 3)) (b := v13) (d' := d + 8) (mc' := 0) (ms' := 0) (As := [.ref v15]) (st := []) (c := 0 + mc3 + mc6) (sl := 0 + ms3 + ms6) kmX0_keep kw_1422 (by omega) rfl (Nat.le_of_ble_eq_true rfl) he rfl rfl hc6 hs6 dX11_appeal_43 (fun E M9 hx => kz_Tout rfl hc6 hs6 hx) (kz_Cmono (fun v M16 h => ?_) (fun _ _ h => h) h)
    obtain ⟨rfl, h⟩ := h
    show kz_Z G (d + 9) mc ms mX11_appeal Qr Qx 46 [(5, .int r10), (4, .ref r5), (3, .ref r2), (0, .ref a0), (1, .int p1), (2, .int p2)] [] M16 (0 + mc3 + mc6) (0 + ms3 + ms6)
    refine kz_aload (pc := 46) 1 (v := .ref r5) (i := 4) rfl rfl dX11_appeal_46 ?_
    obtain ⟨⟨fs184, he⟩, h⟩ := h
    refine kz_callV (pc := 48) (μ' := mX3_different) (ci := 3) (q := (RX3, TX3, 7)) (b := r5) (d' := d + 8) (mc' := 0) (ms' := 0) (As := []) (st := []) (c := 0 + mc3 + mc6) (sl := 0 + ms3 + ms6) kmX3_different kw_989 (by omega) rfl (Nat.le_of_ble_eq_true rfl) he rfl rfl hc6 hs6 dX11_appeal_48 (fun E M9 hx => kz_Tout rfl hc6 hs6 hx) (kz_Cmono (fun v M19 h => ?_) (fun _ _ h => h) h)
    obtain ⟨r20, rfl, h⟩ := h
    show kz_Z G (d + 9) mc ms mX11_appeal Qr Qx 51 [(5, .int r10), (4, .ref r5), (3, .ref r2), (0, .ref a0), (1, .int p1), (2, .int p2)] [.int r20] M19 (0 + mc3 + mc6) (0 + ms3 + ms6)
    refine kz_aload_n (pc := 51) 3 (v := .ref a0) (i := 0) rfl rfl rfl dX11_appeal_51 ?_
    obtain ⟨fs22, v23, hM, hv, h⟩ := h
    refine kz_getf (pc := 52) (k := 2) kcX11 hM hv (by decide) kw_284 dX11_appeal_52 ?_
    refine kz_iconst (pc := 55) (v := 5) (by decide) dX11_appeal_55 ?_
    obtain ⟨⟨fs183, he⟩, h⟩ := h
    refine kz_callV (pc := 56) (μ' := mX9_rule) (ci := 8) (q := (RX9, TX9, 10)) (b := v23) (d' := d + 8) (mc' := 0) (ms' := 0) (As := [.int 5]) (st := [.int r20]) (c := 0 + mc3 + mc6) (sl := 0 + ms3 + ms6) kmX9_rule kw_923 (by omega) rfl (Nat.le_of_ble_eq_true rfl) he rfl rfl hc6 hs6 dX11_appeal_56 (fun E M9 hx => kz_Tout rfl hc6 hs6 hx) (kz_Cmono (fun v M24 h => ?_) (fun _ _ h => h) h)
    obtain ⟨r25, rfl, h⟩ := h
    show kz_Z G (d + 9) mc ms mX11_appeal Qr Qx 59 [(5, .int r10), (4, .ref r5), (3, .ref r2), (0, .ref a0), (1, .int p1), (2, .int p2)] [.int r25, .int r20] M24 (0 + mc3 + mc6) (0 + ms3 + ms6)
    refine kz_icmp_lt (pc := 59) (tgt := 66) (by decide) dX11_appeal_59 (fun hb => ?_) (fun hb => ?_)
    · replace h := h.1 hb
      refine kz_iconst (pc := 66) (v := 0) (by decide) dX11_appeal_66 ?_
      refine kz_istore (pc := 67) (i := 6) (ls' := [(5, .int r10), (4, .ref r5), (3, .ref r2), (0, .ref a0), (1, .int p1), (2, .int p2)]) (by decide) rfl dX11_appeal_67 ?_
      refine kz_aload_n (pc := 69) 4 (v := .ref a0) (i := 0) rfl rfl rfl dX11_appeal_69 ?_
      obtain ⟨fs27, v28, hM, hv, h⟩ := h
      refine kz_getf (pc := 70) (k := 2) kcX11 hM hv (by decide) kw_284 dX11_appeal_70 ?_
      refine kz_iload_n (pc := 73) 5 (i := 1) rfl rfl dX11_appeal_73 ?_
      refine kz_aload_n (pc := 74) 3 (v := .ref r2) (i := 3) rfl rfl rfl dX11_appeal_74 ?_
      refine kz_iload_n (pc := 75) 6 (i := 2) rfl rfl dX11_appeal_75 ?_
      refine kz_iload (pc := 76) 0 (i := 6) rfl dX11_appeal_76 ?_
      refine kz_if_eq (pc := 78) (tgt := 85) (by decide) dX11_appeal_78 (fun hb => ?_) (fun hb => ?_)
      · replace h := h.1 hb
        refine kz_iconst (pc := 85) (v := 3) (by decide) dX11_appeal_85 ?_
        obtain ⟨⟨fs66, he⟩, h⟩ := h
        obtain ⟨mc31, ms31, hc31, hs31, h⟩ := h
        refine kz_callV (pc := 86) (μ' := mX10_withState) (ci := 9) (q := (RX10, TX10, 4)) (b := r2) (d' := d + 8) (mc' := mc31) (ms' := ms31) (As := [.int p2, .int 3]) (st := [.int p1, .ref v28]) (c := 0 + mc3 + mc6) (sl := 0 + ms3 + ms6) kmX10_withState kw_1471 (by omega) rfl (Nat.le_of_ble_eq_true rfl) he rfl rfl hc31 hs31 dX11_appeal_86 (fun E M9 hx => kz_Tout rfl hc31 hs31 hx) (kz_Cmono (fun v M29 h => ?_) (fun _ _ h => h) h)
        obtain ⟨r30, rfl, h⟩ := h
        show kz_Z G (d + 9) mc ms mX11_appeal Qr Qx 89 [(6, .int 0), (5, .int r10), (4, .ref r5), (3, .ref r2), (0, .ref a0), (1, .int p1), (2, .int p2)] [.ref r30, .int p1, .ref v28] M29 (0 + mc3 + mc6 + mc31) (0 + ms3 + ms6 + ms31)
        obtain ⟨⟨fs65, he⟩, h⟩ := h
        refine kz_callV (pc := 89) (μ' := mX9_replaceWork) (ci := 8) (q := (RX9, TX9, 10)) (b := v28) (d' := d + 8) (mc' := 0) (ms' := 0) (As := [.int p1, .ref r30]) (st := []) (c := 0 + mc3 + mc6 + mc31) (sl := 0 + ms3 + ms6 + ms31) kmX9_replaceWork kw_1493 (by omega) rfl (Nat.le_of_ble_eq_true rfl) he rfl rfl hc31 hs31 dX11_appeal_89 (fun E M9 hx => kz_Tout rfl hc31 hs31 hx) (kz_Cmono (fun v M32 h => ?_) (fun _ _ h => h) h)
        obtain ⟨rfl, h⟩ := h
        show kz_Z G (d + 9) mc ms mX11_appeal Qr Qx 92 [(6, .int 0), (5, .int r10), (4, .ref r5), (3, .ref r2), (0, .ref a0), (1, .int p1), (2, .int p2)] [] M32 (0 + mc3 + mc6 + mc31) (0 + ms3 + ms6 + ms31)
        refine kz_iload (pc := 92) 0 (i := 6) rfl dX11_appeal_92 ?_
        refine kz_if_eq (pc := 94) (tgt := 126) (by decide) dX11_appeal_94 (fun hb => ?_) (fun hb => ?_)
        · replace h := h.1 hb
          refine kz_aload_n (pc := 126) 4 (v := .ref a0) (i := 0) rfl rfl rfl dX11_appeal_126 ?_
          obtain ⟨fs35, v36, hM, hv, h⟩ := h
          refine kz_getf (pc := 127) (k := 2) kcX11 hM hv (by decide) kw_284 dX11_appeal_127 ?_
          refine kz_aload_n (pc := 130) 3 (v := .ref r2) (i := 3) rfl rfl rfl dX11_appeal_130 ?_
          obtain ⟨fs37, v38, hM, hv, h⟩ := h
          refine kz_getf (pc := 131) (k := 0) kcX10 hM hv (by decide) kw_1188 dX11_appeal_131 ?_
          refine kz_iconst (pc := 134) (v := 3) (by decide) dX11_appeal_134 ?_
          refine kz_aload_n (pc := 135) 4 (v := .ref a0) (i := 0) rfl rfl rfl dX11_appeal_135 ?_
          obtain ⟨fs39, v40, hM, hv, h⟩ := h
          refine kz_getf (pc := 136) (k := 2) kcX11 hM hv (by decide) kw_284 dX11_appeal_136 ?_
          refine kz_bipush (pc := 139) (v := 6) (by decide) dX11_appeal_139 ?_
          obtain ⟨⟨fs48, he⟩, h⟩ := h
          refine kz_callV (pc := 141) (μ' := mX9_rule) (ci := 8) (q := (RX9, TX9, 10)) (b := v40) (d' := d + 8) (mc' := 0) (ms' := 0) (As := [.int 6]) (st := [.int 3, .int v38, .ref v36]) (c := 0 + mc3 + mc6 + mc31) (sl := 0 + ms3 + ms6 + ms31) kmX9_rule kw_923 (by omega) rfl (Nat.le_of_ble_eq_true rfl) he rfl rfl hc31 hs31 dX11_appeal_141 (fun E M9 hx => kz_Tout rfl hc31 hs31 hx) (kz_Cmono (fun v M41 h => ?_) (fun _ _ h => h) h)
          obtain ⟨r42, rfl, h⟩ := h
          show kz_Z G (d + 9) mc ms mX11_appeal Qr Qx 144 [(6, .int 0), (5, .int r10), (4, .ref r5), (3, .ref r2), (0, .ref a0), (1, .int p1), (2, .int p2)] [.int r42, .int 3, .int v38, .ref v36] M41 (0 + mc3 + mc6 + mc31) (0 + ms3 + ms6 + ms31)
          refine kz_ineg (pc := 144) dX11_appeal_144 ?_
          obtain ⟨⟨fs47, he⟩, h⟩ := h
          refine kz_callV (pc := 145) (μ' := mX9_book) (ci := 8) (q := (RX9, TX9, 10)) (b := v36) (d' := d + 8) (mc' := 0) (ms' := 0) (As := [.int v38, .int 3, .int (-r42)]) (st := []) (c := 0 + mc3 + mc6 + mc31) (sl := 0 + ms3 + ms6 + ms31) kmX9_book kw_1494 (by omega) rfl (Nat.le_of_ble_eq_true rfl) he rfl rfl hc31 hs31 dX11_appeal_145 (fun E M9 hx => kz_Tout rfl hc31 hs31 hx) (kz_Cmono (fun v M44 h => ?_) (fun _ _ h => h) h)
          obtain ⟨rfl, h⟩ := h
          show kz_Z G (d + 9) mc ms mX11_appeal Qr Qx 148 [(6, .int 0), (5, .int r10), (4, .ref r5), (3, .ref r2), (0, .ref a0), (1, .int p1), (2, .int p2)] [] M44 (0 + mc3 + mc6 + mc31) (0 + ms3 + ms6 + ms31)
          refine kz_iload (pc := 148) 0 (i := 6) rfl dX11_appeal_148 ?_
          refine kz_if_eq (pc := 150) (tgt := 157) (by decide) dX11_appeal_150 (fun hb => ?_) (fun hb => ?_)
          · replace h := h.1 hb
            refine kz_iconst (pc := 157) (v := 0) (by decide) dX11_appeal_157 ?_
            exact kz_iret (pc := 158) rfl hc31 hs31 dX11_appeal_158 h
          · replace h := h.2 hb
            refine kz_iconst (pc := 153) (v := 1) (by decide) dX11_appeal_153 ?_
            refine kz_goto (pc := 154) (tgt := 158) (by decide) dX11_appeal_154 ?_
            exact kz_iret (pc := 158) rfl hc31 hs31 dX11_appeal_158 h
        · replace h := h.2 hb
          refine kz_aload_n (pc := 97) 4 (v := .ref a0) (i := 0) rfl rfl rfl dX11_appeal_97 ?_
          obtain ⟨fs49, v50, hM, hv, h⟩ := h
          refine kz_getf (pc := 98) (k := 2) kcX11 hM hv (by decide) kw_284 dX11_appeal_98 ?_
          refine kz_aload_n (pc := 101) 3 (v := .ref r2) (i := 3) rfl rfl rfl dX11_appeal_101 ?_
          obtain ⟨fs51, v52, hM, hv, h⟩ := h
          refine kz_getf (pc := 102) (k := 0) kcX10 hM hv (by decide) kw_1188 dX11_appeal_102 ?_
          refine kz_iconst (pc := 105) (v := 2) (by decide) dX11_appeal_105 ?_
          refine kz_aload (pc := 106) 2 (v := .ref r5) (i := 4) rfl rfl dX11_appeal_106 ?_
          obtain ⟨fs53, v54, hM, hv, h⟩ := h
          refine kz_getf (pc := 108) (k := 4) kcX3 hM hv (by decide) kw_1166 dX11_appeal_108 ?_
          refine kz_aload_n (pc := 111) 4 (v := .ref a0) (i := 0) rfl rfl rfl dX11_appeal_111 ?_
          obtain ⟨fs55, v56, hM, hv, h⟩ := h
          refine kz_getf (pc := 112) (k := 2) kcX11 hM hv (by decide) kw_284 dX11_appeal_112 ?_
          refine kz_iconst (pc := 115) (v := 3) (by decide) dX11_appeal_115 ?_
          obtain ⟨⟨fs64, he⟩, h⟩ := h
          refine kz_callV (pc := 116) (μ' := mX9_rule) (ci := 8) (q := (RX9, TX9, 10)) (b := v56) (d' := d + 8) (mc' := 0) (ms' := 0) (As := [.int 3]) (st := [.int v54, .int 2, .int v52, .ref v50]) (c := 0 + mc3 + mc6 + mc31) (sl := 0 + ms3 + ms6 + ms31) kmX9_rule kw_923 (by omega) rfl (Nat.le_of_ble_eq_true rfl) he rfl rfl hc31 hs31 dX11_appeal_116 (fun E M9 hx => kz_Tout rfl hc31 hs31 hx) (kz_Cmono (fun v M57 h => ?_) (fun _ _ h => h) h)
          obtain ⟨r58, rfl, h⟩ := h
          show kz_Z G (d + 9) mc ms mX11_appeal Qr Qx 119 [(6, .int 0), (5, .int r10), (4, .ref r5), (3, .ref r2), (0, .ref a0), (1, .int p1), (2, .int p2)] [.int r58, .int v54, .int 2, .int v52, .ref v50] M57 (0 + mc3 + mc6 + mc31) (0 + ms3 + ms6 + ms31)
          refine kz_iadd (pc := 119) dX11_appeal_119 ?_
          obtain ⟨⟨fs63, he⟩, h⟩ := h
          refine kz_callV (pc := 120) (μ' := mX9_book) (ci := 8) (q := (RX9, TX9, 10)) (b := v50) (d' := d + 8) (mc' := 0) (ms' := 0) (As := [.int v52, .int 2, .int (v54 + r58)]) (st := []) (c := 0 + mc3 + mc6 + mc31) (sl := 0 + ms3 + ms6 + ms31) kmX9_book kw_1494 (by omega) rfl (Nat.le_of_ble_eq_true rfl) he rfl rfl hc31 hs31 dX11_appeal_120 (fun E M9 hx => kz_Tout rfl hc31 hs31 hx) (kz_Cmono (fun v M60 h => ?_) (fun _ _ h => h) h)
          obtain ⟨rfl, h⟩ := h
          show kz_Z G (d + 9) mc ms mX11_appeal Qr Qx 123 [(6, .int 0), (5, .int r10), (4, .ref r5), (3, .ref r2), (0, .ref a0), (1, .int p1), (2, .int p2)] [] M60 (0 + mc3 + mc6 + mc31) (0 + ms3 + ms6 + ms31)
          refine kz_goto (pc := 123) (tgt := 148) (by decide) dX11_appeal_123 ?_
          refine kz_iload (pc := 148) 0 (i := 6) rfl dX11_appeal_148 ?_
          refine kz_if_eq (pc := 150) (tgt := 157) (by decide) dX11_appeal_150 (fun hb => ?_) (fun hb => ?_)
          · replace h := h.1 hb
            refine kz_iconst (pc := 157) (v := 0) (by decide) dX11_appeal_157 ?_
            exact kz_iret (pc := 158) rfl hc31 hs31 dX11_appeal_158 h
          · replace h := h.2 hb
            refine kz_iconst (pc := 153) (v := 1) (by decide) dX11_appeal_153 ?_
            refine kz_goto (pc := 154) (tgt := 158) (by decide) dX11_appeal_154 ?_
            exact kz_iret (pc := 158) rfl hc31 hs31 dX11_appeal_158 h
      · replace h := h.2 hb
        refine kz_iconst (pc := 81) (v := 2) (by decide) dX11_appeal_81 ?_
        refine kz_goto (pc := 82) (tgt := 86) (by decide) dX11_appeal_82 ?_
        obtain ⟨⟨fs104, he⟩, h⟩ := h
        obtain ⟨mc69, ms69, hc69, hs69, h⟩ := h
        refine kz_callV (pc := 86) (μ' := mX10_withState) (ci := 9) (q := (RX10, TX10, 4)) (b := r2) (d' := d + 8) (mc' := mc69) (ms' := ms69) (As := [.int p2, .int 2]) (st := [.int p1, .ref v28]) (c := 0 + mc3 + mc6) (sl := 0 + ms3 + ms6) kmX10_withState kw_1471 (by omega) rfl (Nat.le_of_ble_eq_true rfl) he rfl rfl hc69 hs69 dX11_appeal_86 (fun E M9 hx => kz_Tout rfl hc69 hs69 hx) (kz_Cmono (fun v M67 h => ?_) (fun _ _ h => h) h)
        obtain ⟨r68, rfl, h⟩ := h
        show kz_Z G (d + 9) mc ms mX11_appeal Qr Qx 89 [(6, .int 0), (5, .int r10), (4, .ref r5), (3, .ref r2), (0, .ref a0), (1, .int p1), (2, .int p2)] [.ref r68, .int p1, .ref v28] M67 (0 + mc3 + mc6 + mc69) (0 + ms3 + ms6 + ms69)
        obtain ⟨⟨fs103, he⟩, h⟩ := h
        refine kz_callV (pc := 89) (μ' := mX9_replaceWork) (ci := 8) (q := (RX9, TX9, 10)) (b := v28) (d' := d + 8) (mc' := 0) (ms' := 0) (As := [.int p1, .ref r68]) (st := []) (c := 0 + mc3 + mc6 + mc69) (sl := 0 + ms3 + ms6 + ms69) kmX9_replaceWork kw_1493 (by omega) rfl (Nat.le_of_ble_eq_true rfl) he rfl rfl hc69 hs69 dX11_appeal_89 (fun E M9 hx => kz_Tout rfl hc69 hs69 hx) (kz_Cmono (fun v M70 h => ?_) (fun _ _ h => h) h)
        obtain ⟨rfl, h⟩ := h
        show kz_Z G (d + 9) mc ms mX11_appeal Qr Qx 92 [(6, .int 0), (5, .int r10), (4, .ref r5), (3, .ref r2), (0, .ref a0), (1, .int p1), (2, .int p2)] [] M70 (0 + mc3 + mc6 + mc69) (0 + ms3 + ms6 + ms69)
        refine kz_iload (pc := 92) 0 (i := 6) rfl dX11_appeal_92 ?_
        refine kz_if_eq (pc := 94) (tgt := 126) (by decide) dX11_appeal_94 (fun hb => ?_) (fun hb => ?_)
        · replace h := h.1 hb
          refine kz_aload_n (pc := 126) 4 (v := .ref a0) (i := 0) rfl rfl rfl dX11_appeal_126 ?_
          obtain ⟨fs73, v74, hM, hv, h⟩ := h
          refine kz_getf (pc := 127) (k := 2) kcX11 hM hv (by decide) kw_284 dX11_appeal_127 ?_
          refine kz_aload_n (pc := 130) 3 (v := .ref r2) (i := 3) rfl rfl rfl dX11_appeal_130 ?_
          obtain ⟨fs75, v76, hM, hv, h⟩ := h
          refine kz_getf (pc := 131) (k := 0) kcX10 hM hv (by decide) kw_1188 dX11_appeal_131 ?_
          refine kz_iconst (pc := 134) (v := 3) (by decide) dX11_appeal_134 ?_
          refine kz_aload_n (pc := 135) 4 (v := .ref a0) (i := 0) rfl rfl rfl dX11_appeal_135 ?_
          obtain ⟨fs77, v78, hM, hv, h⟩ := h
          refine kz_getf (pc := 136) (k := 2) kcX11 hM hv (by decide) kw_284 dX11_appeal_136 ?_
          refine kz_bipush (pc := 139) (v := 6) (by decide) dX11_appeal_139 ?_
          obtain ⟨⟨fs86, he⟩, h⟩ := h
          refine kz_callV (pc := 141) (μ' := mX9_rule) (ci := 8) (q := (RX9, TX9, 10)) (b := v78) (d' := d + 8) (mc' := 0) (ms' := 0) (As := [.int 6]) (st := [.int 3, .int v76, .ref v74]) (c := 0 + mc3 + mc6 + mc69) (sl := 0 + ms3 + ms6 + ms69) kmX9_rule kw_923 (by omega) rfl (Nat.le_of_ble_eq_true rfl) he rfl rfl hc69 hs69 dX11_appeal_141 (fun E M9 hx => kz_Tout rfl hc69 hs69 hx) (kz_Cmono (fun v M79 h => ?_) (fun _ _ h => h) h)
          obtain ⟨r80, rfl, h⟩ := h
          show kz_Z G (d + 9) mc ms mX11_appeal Qr Qx 144 [(6, .int 0), (5, .int r10), (4, .ref r5), (3, .ref r2), (0, .ref a0), (1, .int p1), (2, .int p2)] [.int r80, .int 3, .int v76, .ref v74] M79 (0 + mc3 + mc6 + mc69) (0 + ms3 + ms6 + ms69)
          refine kz_ineg (pc := 144) dX11_appeal_144 ?_
          obtain ⟨⟨fs85, he⟩, h⟩ := h
          refine kz_callV (pc := 145) (μ' := mX9_book) (ci := 8) (q := (RX9, TX9, 10)) (b := v74) (d' := d + 8) (mc' := 0) (ms' := 0) (As := [.int v76, .int 3, .int (-r80)]) (st := []) (c := 0 + mc3 + mc6 + mc69) (sl := 0 + ms3 + ms6 + ms69) kmX9_book kw_1494 (by omega) rfl (Nat.le_of_ble_eq_true rfl) he rfl rfl hc69 hs69 dX11_appeal_145 (fun E M9 hx => kz_Tout rfl hc69 hs69 hx) (kz_Cmono (fun v M82 h => ?_) (fun _ _ h => h) h)
          obtain ⟨rfl, h⟩ := h
          show kz_Z G (d + 9) mc ms mX11_appeal Qr Qx 148 [(6, .int 0), (5, .int r10), (4, .ref r5), (3, .ref r2), (0, .ref a0), (1, .int p1), (2, .int p2)] [] M82 (0 + mc3 + mc6 + mc69) (0 + ms3 + ms6 + ms69)
          refine kz_iload (pc := 148) 0 (i := 6) rfl dX11_appeal_148 ?_
          refine kz_if_eq (pc := 150) (tgt := 157) (by decide) dX11_appeal_150 (fun hb => ?_) (fun hb => ?_)
          · replace h := h.1 hb
            refine kz_iconst (pc := 157) (v := 0) (by decide) dX11_appeal_157 ?_
            exact kz_iret (pc := 158) rfl hc69 hs69 dX11_appeal_158 h
          · replace h := h.2 hb
            refine kz_iconst (pc := 153) (v := 1) (by decide) dX11_appeal_153 ?_
            refine kz_goto (pc := 154) (tgt := 158) (by decide) dX11_appeal_154 ?_
            exact kz_iret (pc := 158) rfl hc69 hs69 dX11_appeal_158 h
        · replace h := h.2 hb
          refine kz_aload_n (pc := 97) 4 (v := .ref a0) (i := 0) rfl rfl rfl dX11_appeal_97 ?_
          obtain ⟨fs87, v88, hM, hv, h⟩ := h
          refine kz_getf (pc := 98) (k := 2) kcX11 hM hv (by decide) kw_284 dX11_appeal_98 ?_
          refine kz_aload_n (pc := 101) 3 (v := .ref r2) (i := 3) rfl rfl rfl dX11_appeal_101 ?_
          obtain ⟨fs89, v90, hM, hv, h⟩ := h
          refine kz_getf (pc := 102) (k := 0) kcX10 hM hv (by decide) kw_1188 dX11_appeal_102 ?_
          refine kz_iconst (pc := 105) (v := 2) (by decide) dX11_appeal_105 ?_
          refine kz_aload (pc := 106) 2 (v := .ref r5) (i := 4) rfl rfl dX11_appeal_106 ?_
          obtain ⟨fs91, v92, hM, hv, h⟩ := h
          refine kz_getf (pc := 108) (k := 4) kcX3 hM hv (by decide) kw_1166 dX11_appeal_108 ?_
          refine kz_aload_n (pc := 111) 4 (v := .ref a0) (i := 0) rfl rfl rfl dX11_appeal_111 ?_
          obtain ⟨fs93, v94, hM, hv, h⟩ := h
          refine kz_getf (pc := 112) (k := 2) kcX11 hM hv (by decide) kw_284 dX11_appeal_112 ?_
          refine kz_iconst (pc := 115) (v := 3) (by decide) dX11_appeal_115 ?_
          obtain ⟨⟨fs102, he⟩, h⟩ := h
          refine kz_callV (pc := 116) (μ' := mX9_rule) (ci := 8) (q := (RX9, TX9, 10)) (b := v94) (d' := d + 8) (mc' := 0) (ms' := 0) (As := [.int 3]) (st := [.int v92, .int 2, .int v90, .ref v88]) (c := 0 + mc3 + mc6 + mc69) (sl := 0 + ms3 + ms6 + ms69) kmX9_rule kw_923 (by omega) rfl (Nat.le_of_ble_eq_true rfl) he rfl rfl hc69 hs69 dX11_appeal_116 (fun E M9 hx => kz_Tout rfl hc69 hs69 hx) (kz_Cmono (fun v M95 h => ?_) (fun _ _ h => h) h)
          obtain ⟨r96, rfl, h⟩ := h
          show kz_Z G (d + 9) mc ms mX11_appeal Qr Qx 119 [(6, .int 0), (5, .int r10), (4, .ref r5), (3, .ref r2), (0, .ref a0), (1, .int p1), (2, .int p2)] [.int r96, .int v92, .int 2, .int v90, .ref v88] M95 (0 + mc3 + mc6 + mc69) (0 + ms3 + ms6 + ms69)
          refine kz_iadd (pc := 119) dX11_appeal_119 ?_
          obtain ⟨⟨fs101, he⟩, h⟩ := h
          refine kz_callV (pc := 120) (μ' := mX9_book) (ci := 8) (q := (RX9, TX9, 10)) (b := v88) (d' := d + 8) (mc' := 0) (ms' := 0) (As := [.int v90, .int 2, .int (v92 + r96)]) (st := []) (c := 0 + mc3 + mc6 + mc69) (sl := 0 + ms3 + ms6 + ms69) kmX9_book kw_1494 (by omega) rfl (Nat.le_of_ble_eq_true rfl) he rfl rfl hc69 hs69 dX11_appeal_120 (fun E M9 hx => kz_Tout rfl hc69 hs69 hx) (kz_Cmono (fun v M98 h => ?_) (fun _ _ h => h) h)
          obtain ⟨rfl, h⟩ := h
          show kz_Z G (d + 9) mc ms mX11_appeal Qr Qx 123 [(6, .int 0), (5, .int r10), (4, .ref r5), (3, .ref r2), (0, .ref a0), (1, .int p1), (2, .int p2)] [] M98 (0 + mc3 + mc6 + mc69) (0 + ms3 + ms6 + ms69)
          refine kz_goto (pc := 123) (tgt := 148) (by decide) dX11_appeal_123 ?_
          refine kz_iload (pc := 148) 0 (i := 6) rfl dX11_appeal_148 ?_
          refine kz_if_eq (pc := 150) (tgt := 157) (by decide) dX11_appeal_150 (fun hb => ?_) (fun hb => ?_)
          · replace h := h.1 hb
            refine kz_iconst (pc := 157) (v := 0) (by decide) dX11_appeal_157 ?_
            exact kz_iret (pc := 158) rfl hc69 hs69 dX11_appeal_158 h
          · replace h := h.2 hb
            refine kz_iconst (pc := 153) (v := 1) (by decide) dX11_appeal_153 ?_
            refine kz_goto (pc := 154) (tgt := 158) (by decide) dX11_appeal_154 ?_
            exact kz_iret (pc := 158) rfl hc69 hs69 dX11_appeal_158 h
    · replace h := h.2 hb
      refine kz_iconst (pc := 62) (v := 1) (by decide) dX11_appeal_62 ?_
      refine kz_goto (pc := 63) (tgt := 67) (by decide) dX11_appeal_63 ?_
      refine kz_istore (pc := 67) (i := 6) (ls' := [(5, .int r10), (4, .ref r5), (3, .ref r2), (0, .ref a0), (1, .int p1), (2, .int p2)]) (by decide) rfl dX11_appeal_67 ?_
      refine kz_aload_n (pc := 69) 4 (v := .ref a0) (i := 0) rfl rfl rfl dX11_appeal_69 ?_
      obtain ⟨fs105, v106, hM, hv, h⟩ := h
      refine kz_getf (pc := 70) (k := 2) kcX11 hM hv (by decide) kw_284 dX11_appeal_70 ?_
      refine kz_iload_n (pc := 73) 5 (i := 1) rfl rfl dX11_appeal_73 ?_
      refine kz_aload_n (pc := 74) 3 (v := .ref r2) (i := 3) rfl rfl rfl dX11_appeal_74 ?_
      refine kz_iload_n (pc := 75) 6 (i := 2) rfl rfl dX11_appeal_75 ?_
      refine kz_iload (pc := 76) 0 (i := 6) rfl dX11_appeal_76 ?_
      refine kz_if_eq (pc := 78) (tgt := 85) (by decide) dX11_appeal_78 (fun hb => ?_) (fun hb => ?_)
      · replace h := h.1 hb
        refine kz_iconst (pc := 85) (v := 3) (by decide) dX11_appeal_85 ?_
        obtain ⟨⟨fs144, he⟩, h⟩ := h
        obtain ⟨mc109, ms109, hc109, hs109, h⟩ := h
        refine kz_callV (pc := 86) (μ' := mX10_withState) (ci := 9) (q := (RX10, TX10, 4)) (b := r2) (d' := d + 8) (mc' := mc109) (ms' := ms109) (As := [.int p2, .int 3]) (st := [.int p1, .ref v106]) (c := 0 + mc3 + mc6) (sl := 0 + ms3 + ms6) kmX10_withState kw_1471 (by omega) rfl (Nat.le_of_ble_eq_true rfl) he rfl rfl hc109 hs109 dX11_appeal_86 (fun E M9 hx => kz_Tout rfl hc109 hs109 hx) (kz_Cmono (fun v M107 h => ?_) (fun _ _ h => h) h)
        obtain ⟨r108, rfl, h⟩ := h
        show kz_Z G (d + 9) mc ms mX11_appeal Qr Qx 89 [(6, .int 1), (5, .int r10), (4, .ref r5), (3, .ref r2), (0, .ref a0), (1, .int p1), (2, .int p2)] [.ref r108, .int p1, .ref v106] M107 (0 + mc3 + mc6 + mc109) (0 + ms3 + ms6 + ms109)
        obtain ⟨⟨fs143, he⟩, h⟩ := h
        refine kz_callV (pc := 89) (μ' := mX9_replaceWork) (ci := 8) (q := (RX9, TX9, 10)) (b := v106) (d' := d + 8) (mc' := 0) (ms' := 0) (As := [.int p1, .ref r108]) (st := []) (c := 0 + mc3 + mc6 + mc109) (sl := 0 + ms3 + ms6 + ms109) kmX9_replaceWork kw_1493 (by omega) rfl (Nat.le_of_ble_eq_true rfl) he rfl rfl hc109 hs109 dX11_appeal_89 (fun E M9 hx => kz_Tout rfl hc109 hs109 hx) (kz_Cmono (fun v M110 h => ?_) (fun _ _ h => h) h)
        obtain ⟨rfl, h⟩ := h
        show kz_Z G (d + 9) mc ms mX11_appeal Qr Qx 92 [(6, .int 1), (5, .int r10), (4, .ref r5), (3, .ref r2), (0, .ref a0), (1, .int p1), (2, .int p2)] [] M110 (0 + mc3 + mc6 + mc109) (0 + ms3 + ms6 + ms109)
        refine kz_iload (pc := 92) 0 (i := 6) rfl dX11_appeal_92 ?_
        refine kz_if_eq (pc := 94) (tgt := 126) (by decide) dX11_appeal_94 (fun hb => ?_) (fun hb => ?_)
        · replace h := h.1 hb
          refine kz_aload_n (pc := 126) 4 (v := .ref a0) (i := 0) rfl rfl rfl dX11_appeal_126 ?_
          obtain ⟨fs113, v114, hM, hv, h⟩ := h
          refine kz_getf (pc := 127) (k := 2) kcX11 hM hv (by decide) kw_284 dX11_appeal_127 ?_
          refine kz_aload_n (pc := 130) 3 (v := .ref r2) (i := 3) rfl rfl rfl dX11_appeal_130 ?_
          obtain ⟨fs115, v116, hM, hv, h⟩ := h
          refine kz_getf (pc := 131) (k := 0) kcX10 hM hv (by decide) kw_1188 dX11_appeal_131 ?_
          refine kz_iconst (pc := 134) (v := 3) (by decide) dX11_appeal_134 ?_
          refine kz_aload_n (pc := 135) 4 (v := .ref a0) (i := 0) rfl rfl rfl dX11_appeal_135 ?_
          obtain ⟨fs117, v118, hM, hv, h⟩ := h
          refine kz_getf (pc := 136) (k := 2) kcX11 hM hv (by decide) kw_284 dX11_appeal_136 ?_
          refine kz_bipush (pc := 139) (v := 6) (by decide) dX11_appeal_139 ?_
          obtain ⟨⟨fs126, he⟩, h⟩ := h
          refine kz_callV (pc := 141) (μ' := mX9_rule) (ci := 8) (q := (RX9, TX9, 10)) (b := v118) (d' := d + 8) (mc' := 0) (ms' := 0) (As := [.int 6]) (st := [.int 3, .int v116, .ref v114]) (c := 0 + mc3 + mc6 + mc109) (sl := 0 + ms3 + ms6 + ms109) kmX9_rule kw_923 (by omega) rfl (Nat.le_of_ble_eq_true rfl) he rfl rfl hc109 hs109 dX11_appeal_141 (fun E M9 hx => kz_Tout rfl hc109 hs109 hx) (kz_Cmono (fun v M119 h => ?_) (fun _ _ h => h) h)
          obtain ⟨r120, rfl, h⟩ := h
          show kz_Z G (d + 9) mc ms mX11_appeal Qr Qx 144 [(6, .int 1), (5, .int r10), (4, .ref r5), (3, .ref r2), (0, .ref a0), (1, .int p1), (2, .int p2)] [.int r120, .int 3, .int v116, .ref v114] M119 (0 + mc3 + mc6 + mc109) (0 + ms3 + ms6 + ms109)
          refine kz_ineg (pc := 144) dX11_appeal_144 ?_
          obtain ⟨⟨fs125, he⟩, h⟩ := h
          refine kz_callV (pc := 145) (μ' := mX9_book) (ci := 8) (q := (RX9, TX9, 10)) (b := v114) (d' := d + 8) (mc' := 0) (ms' := 0) (As := [.int v116, .int 3, .int (-r120)]) (st := []) (c := 0 + mc3 + mc6 + mc109) (sl := 0 + ms3 + ms6 + ms109) kmX9_book kw_1494 (by omega) rfl (Nat.le_of_ble_eq_true rfl) he rfl rfl hc109 hs109 dX11_appeal_145 (fun E M9 hx => kz_Tout rfl hc109 hs109 hx) (kz_Cmono (fun v M122 h => ?_) (fun _ _ h => h) h)
          obtain ⟨rfl, h⟩ := h
          show kz_Z G (d + 9) mc ms mX11_appeal Qr Qx 148 [(6, .int 1), (5, .int r10), (4, .ref r5), (3, .ref r2), (0, .ref a0), (1, .int p1), (2, .int p2)] [] M122 (0 + mc3 + mc6 + mc109) (0 + ms3 + ms6 + ms109)
          refine kz_iload (pc := 148) 0 (i := 6) rfl dX11_appeal_148 ?_
          refine kz_if_eq (pc := 150) (tgt := 157) (by decide) dX11_appeal_150 (fun hb => ?_) (fun hb => ?_)
          · replace h := h.1 hb
            refine kz_iconst (pc := 157) (v := 0) (by decide) dX11_appeal_157 ?_
            exact kz_iret (pc := 158) rfl hc109 hs109 dX11_appeal_158 h
          · replace h := h.2 hb
            refine kz_iconst (pc := 153) (v := 1) (by decide) dX11_appeal_153 ?_
            refine kz_goto (pc := 154) (tgt := 158) (by decide) dX11_appeal_154 ?_
            exact kz_iret (pc := 158) rfl hc109 hs109 dX11_appeal_158 h
        · replace h := h.2 hb
          refine kz_aload_n (pc := 97) 4 (v := .ref a0) (i := 0) rfl rfl rfl dX11_appeal_97 ?_
          obtain ⟨fs127, v128, hM, hv, h⟩ := h
          refine kz_getf (pc := 98) (k := 2) kcX11 hM hv (by decide) kw_284 dX11_appeal_98 ?_
          refine kz_aload_n (pc := 101) 3 (v := .ref r2) (i := 3) rfl rfl rfl dX11_appeal_101 ?_
          obtain ⟨fs129, v130, hM, hv, h⟩ := h
          refine kz_getf (pc := 102) (k := 0) kcX10 hM hv (by decide) kw_1188 dX11_appeal_102 ?_
          refine kz_iconst (pc := 105) (v := 2) (by decide) dX11_appeal_105 ?_
          refine kz_aload (pc := 106) 2 (v := .ref r5) (i := 4) rfl rfl dX11_appeal_106 ?_
          obtain ⟨fs131, v132, hM, hv, h⟩ := h
          refine kz_getf (pc := 108) (k := 4) kcX3 hM hv (by decide) kw_1166 dX11_appeal_108 ?_
          refine kz_aload_n (pc := 111) 4 (v := .ref a0) (i := 0) rfl rfl rfl dX11_appeal_111 ?_
          obtain ⟨fs133, v134, hM, hv, h⟩ := h
          refine kz_getf (pc := 112) (k := 2) kcX11 hM hv (by decide) kw_284 dX11_appeal_112 ?_
          refine kz_iconst (pc := 115) (v := 3) (by decide) dX11_appeal_115 ?_
          obtain ⟨⟨fs142, he⟩, h⟩ := h
          refine kz_callV (pc := 116) (μ' := mX9_rule) (ci := 8) (q := (RX9, TX9, 10)) (b := v134) (d' := d + 8) (mc' := 0) (ms' := 0) (As := [.int 3]) (st := [.int v132, .int 2, .int v130, .ref v128]) (c := 0 + mc3 + mc6 + mc109) (sl := 0 + ms3 + ms6 + ms109) kmX9_rule kw_923 (by omega) rfl (Nat.le_of_ble_eq_true rfl) he rfl rfl hc109 hs109 dX11_appeal_116 (fun E M9 hx => kz_Tout rfl hc109 hs109 hx) (kz_Cmono (fun v M135 h => ?_) (fun _ _ h => h) h)
          obtain ⟨r136, rfl, h⟩ := h
          show kz_Z G (d + 9) mc ms mX11_appeal Qr Qx 119 [(6, .int 1), (5, .int r10), (4, .ref r5), (3, .ref r2), (0, .ref a0), (1, .int p1), (2, .int p2)] [.int r136, .int v132, .int 2, .int v130, .ref v128] M135 (0 + mc3 + mc6 + mc109) (0 + ms3 + ms6 + ms109)
          refine kz_iadd (pc := 119) dX11_appeal_119 ?_
          obtain ⟨⟨fs141, he⟩, h⟩ := h
          refine kz_callV (pc := 120) (μ' := mX9_book) (ci := 8) (q := (RX9, TX9, 10)) (b := v128) (d' := d + 8) (mc' := 0) (ms' := 0) (As := [.int v130, .int 2, .int (v132 + r136)]) (st := []) (c := 0 + mc3 + mc6 + mc109) (sl := 0 + ms3 + ms6 + ms109) kmX9_book kw_1494 (by omega) rfl (Nat.le_of_ble_eq_true rfl) he rfl rfl hc109 hs109 dX11_appeal_120 (fun E M9 hx => kz_Tout rfl hc109 hs109 hx) (kz_Cmono (fun v M138 h => ?_) (fun _ _ h => h) h)
          obtain ⟨rfl, h⟩ := h
          show kz_Z G (d + 9) mc ms mX11_appeal Qr Qx 123 [(6, .int 1), (5, .int r10), (4, .ref r5), (3, .ref r2), (0, .ref a0), (1, .int p1), (2, .int p2)] [] M138 (0 + mc3 + mc6 + mc109) (0 + ms3 + ms6 + ms109)
          refine kz_goto (pc := 123) (tgt := 148) (by decide) dX11_appeal_123 ?_
          refine kz_iload (pc := 148) 0 (i := 6) rfl dX11_appeal_148 ?_
          refine kz_if_eq (pc := 150) (tgt := 157) (by decide) dX11_appeal_150 (fun hb => ?_) (fun hb => ?_)
          · replace h := h.1 hb
            refine kz_iconst (pc := 157) (v := 0) (by decide) dX11_appeal_157 ?_
            exact kz_iret (pc := 158) rfl hc109 hs109 dX11_appeal_158 h
          · replace h := h.2 hb
            refine kz_iconst (pc := 153) (v := 1) (by decide) dX11_appeal_153 ?_
            refine kz_goto (pc := 154) (tgt := 158) (by decide) dX11_appeal_154 ?_
            exact kz_iret (pc := 158) rfl hc109 hs109 dX11_appeal_158 h
      · replace h := h.2 hb
        refine kz_iconst (pc := 81) (v := 2) (by decide) dX11_appeal_81 ?_
        refine kz_goto (pc := 82) (tgt := 86) (by decide) dX11_appeal_82 ?_
        obtain ⟨⟨fs182, he⟩, h⟩ := h
        obtain ⟨mc147, ms147, hc147, hs147, h⟩ := h
        refine kz_callV (pc := 86) (μ' := mX10_withState) (ci := 9) (q := (RX10, TX10, 4)) (b := r2) (d' := d + 8) (mc' := mc147) (ms' := ms147) (As := [.int p2, .int 2]) (st := [.int p1, .ref v106]) (c := 0 + mc3 + mc6) (sl := 0 + ms3 + ms6) kmX10_withState kw_1471 (by omega) rfl (Nat.le_of_ble_eq_true rfl) he rfl rfl hc147 hs147 dX11_appeal_86 (fun E M9 hx => kz_Tout rfl hc147 hs147 hx) (kz_Cmono (fun v M145 h => ?_) (fun _ _ h => h) h)
        obtain ⟨r146, rfl, h⟩ := h
        show kz_Z G (d + 9) mc ms mX11_appeal Qr Qx 89 [(6, .int 1), (5, .int r10), (4, .ref r5), (3, .ref r2), (0, .ref a0), (1, .int p1), (2, .int p2)] [.ref r146, .int p1, .ref v106] M145 (0 + mc3 + mc6 + mc147) (0 + ms3 + ms6 + ms147)
        obtain ⟨⟨fs181, he⟩, h⟩ := h
        refine kz_callV (pc := 89) (μ' := mX9_replaceWork) (ci := 8) (q := (RX9, TX9, 10)) (b := v106) (d' := d + 8) (mc' := 0) (ms' := 0) (As := [.int p1, .ref r146]) (st := []) (c := 0 + mc3 + mc6 + mc147) (sl := 0 + ms3 + ms6 + ms147) kmX9_replaceWork kw_1493 (by omega) rfl (Nat.le_of_ble_eq_true rfl) he rfl rfl hc147 hs147 dX11_appeal_89 (fun E M9 hx => kz_Tout rfl hc147 hs147 hx) (kz_Cmono (fun v M148 h => ?_) (fun _ _ h => h) h)
        obtain ⟨rfl, h⟩ := h
        show kz_Z G (d + 9) mc ms mX11_appeal Qr Qx 92 [(6, .int 1), (5, .int r10), (4, .ref r5), (3, .ref r2), (0, .ref a0), (1, .int p1), (2, .int p2)] [] M148 (0 + mc3 + mc6 + mc147) (0 + ms3 + ms6 + ms147)
        refine kz_iload (pc := 92) 0 (i := 6) rfl dX11_appeal_92 ?_
        refine kz_if_eq (pc := 94) (tgt := 126) (by decide) dX11_appeal_94 (fun hb => ?_) (fun hb => ?_)
        · replace h := h.1 hb
          refine kz_aload_n (pc := 126) 4 (v := .ref a0) (i := 0) rfl rfl rfl dX11_appeal_126 ?_
          obtain ⟨fs151, v152, hM, hv, h⟩ := h
          refine kz_getf (pc := 127) (k := 2) kcX11 hM hv (by decide) kw_284 dX11_appeal_127 ?_
          refine kz_aload_n (pc := 130) 3 (v := .ref r2) (i := 3) rfl rfl rfl dX11_appeal_130 ?_
          obtain ⟨fs153, v154, hM, hv, h⟩ := h
          refine kz_getf (pc := 131) (k := 0) kcX10 hM hv (by decide) kw_1188 dX11_appeal_131 ?_
          refine kz_iconst (pc := 134) (v := 3) (by decide) dX11_appeal_134 ?_
          refine kz_aload_n (pc := 135) 4 (v := .ref a0) (i := 0) rfl rfl rfl dX11_appeal_135 ?_
          obtain ⟨fs155, v156, hM, hv, h⟩ := h
          refine kz_getf (pc := 136) (k := 2) kcX11 hM hv (by decide) kw_284 dX11_appeal_136 ?_
          refine kz_bipush (pc := 139) (v := 6) (by decide) dX11_appeal_139 ?_
          obtain ⟨⟨fs164, he⟩, h⟩ := h
          refine kz_callV (pc := 141) (μ' := mX9_rule) (ci := 8) (q := (RX9, TX9, 10)) (b := v156) (d' := d + 8) (mc' := 0) (ms' := 0) (As := [.int 6]) (st := [.int 3, .int v154, .ref v152]) (c := 0 + mc3 + mc6 + mc147) (sl := 0 + ms3 + ms6 + ms147) kmX9_rule kw_923 (by omega) rfl (Nat.le_of_ble_eq_true rfl) he rfl rfl hc147 hs147 dX11_appeal_141 (fun E M9 hx => kz_Tout rfl hc147 hs147 hx) (kz_Cmono (fun v M157 h => ?_) (fun _ _ h => h) h)
          obtain ⟨r158, rfl, h⟩ := h
          show kz_Z G (d + 9) mc ms mX11_appeal Qr Qx 144 [(6, .int 1), (5, .int r10), (4, .ref r5), (3, .ref r2), (0, .ref a0), (1, .int p1), (2, .int p2)] [.int r158, .int 3, .int v154, .ref v152] M157 (0 + mc3 + mc6 + mc147) (0 + ms3 + ms6 + ms147)
          refine kz_ineg (pc := 144) dX11_appeal_144 ?_
          obtain ⟨⟨fs163, he⟩, h⟩ := h
          refine kz_callV (pc := 145) (μ' := mX9_book) (ci := 8) (q := (RX9, TX9, 10)) (b := v152) (d' := d + 8) (mc' := 0) (ms' := 0) (As := [.int v154, .int 3, .int (-r158)]) (st := []) (c := 0 + mc3 + mc6 + mc147) (sl := 0 + ms3 + ms6 + ms147) kmX9_book kw_1494 (by omega) rfl (Nat.le_of_ble_eq_true rfl) he rfl rfl hc147 hs147 dX11_appeal_145 (fun E M9 hx => kz_Tout rfl hc147 hs147 hx) (kz_Cmono (fun v M160 h => ?_) (fun _ _ h => h) h)
          obtain ⟨rfl, h⟩ := h
          show kz_Z G (d + 9) mc ms mX11_appeal Qr Qx 148 [(6, .int 1), (5, .int r10), (4, .ref r5), (3, .ref r2), (0, .ref a0), (1, .int p1), (2, .int p2)] [] M160 (0 + mc3 + mc6 + mc147) (0 + ms3 + ms6 + ms147)
          refine kz_iload (pc := 148) 0 (i := 6) rfl dX11_appeal_148 ?_
          refine kz_if_eq (pc := 150) (tgt := 157) (by decide) dX11_appeal_150 (fun hb => ?_) (fun hb => ?_)
          · replace h := h.1 hb
            refine kz_iconst (pc := 157) (v := 0) (by decide) dX11_appeal_157 ?_
            exact kz_iret (pc := 158) rfl hc147 hs147 dX11_appeal_158 h
          · replace h := h.2 hb
            refine kz_iconst (pc := 153) (v := 1) (by decide) dX11_appeal_153 ?_
            refine kz_goto (pc := 154) (tgt := 158) (by decide) dX11_appeal_154 ?_
            exact kz_iret (pc := 158) rfl hc147 hs147 dX11_appeal_158 h
        · replace h := h.2 hb
          refine kz_aload_n (pc := 97) 4 (v := .ref a0) (i := 0) rfl rfl rfl dX11_appeal_97 ?_
          obtain ⟨fs165, v166, hM, hv, h⟩ := h
          refine kz_getf (pc := 98) (k := 2) kcX11 hM hv (by decide) kw_284 dX11_appeal_98 ?_
          refine kz_aload_n (pc := 101) 3 (v := .ref r2) (i := 3) rfl rfl rfl dX11_appeal_101 ?_
          obtain ⟨fs167, v168, hM, hv, h⟩ := h
          refine kz_getf (pc := 102) (k := 0) kcX10 hM hv (by decide) kw_1188 dX11_appeal_102 ?_
          refine kz_iconst (pc := 105) (v := 2) (by decide) dX11_appeal_105 ?_
          refine kz_aload (pc := 106) 2 (v := .ref r5) (i := 4) rfl rfl dX11_appeal_106 ?_
          obtain ⟨fs169, v170, hM, hv, h⟩ := h
          refine kz_getf (pc := 108) (k := 4) kcX3 hM hv (by decide) kw_1166 dX11_appeal_108 ?_
          refine kz_aload_n (pc := 111) 4 (v := .ref a0) (i := 0) rfl rfl rfl dX11_appeal_111 ?_
          obtain ⟨fs171, v172, hM, hv, h⟩ := h
          refine kz_getf (pc := 112) (k := 2) kcX11 hM hv (by decide) kw_284 dX11_appeal_112 ?_
          refine kz_iconst (pc := 115) (v := 3) (by decide) dX11_appeal_115 ?_
          obtain ⟨⟨fs180, he⟩, h⟩ := h
          refine kz_callV (pc := 116) (μ' := mX9_rule) (ci := 8) (q := (RX9, TX9, 10)) (b := v172) (d' := d + 8) (mc' := 0) (ms' := 0) (As := [.int 3]) (st := [.int v170, .int 2, .int v168, .ref v166]) (c := 0 + mc3 + mc6 + mc147) (sl := 0 + ms3 + ms6 + ms147) kmX9_rule kw_923 (by omega) rfl (Nat.le_of_ble_eq_true rfl) he rfl rfl hc147 hs147 dX11_appeal_116 (fun E M9 hx => kz_Tout rfl hc147 hs147 hx) (kz_Cmono (fun v M173 h => ?_) (fun _ _ h => h) h)
          obtain ⟨r174, rfl, h⟩ := h
          show kz_Z G (d + 9) mc ms mX11_appeal Qr Qx 119 [(6, .int 1), (5, .int r10), (4, .ref r5), (3, .ref r2), (0, .ref a0), (1, .int p1), (2, .int p2)] [.int r174, .int v170, .int 2, .int v168, .ref v166] M173 (0 + mc3 + mc6 + mc147) (0 + ms3 + ms6 + ms147)
          refine kz_iadd (pc := 119) dX11_appeal_119 ?_
          obtain ⟨⟨fs179, he⟩, h⟩ := h
          refine kz_callV (pc := 120) (μ' := mX9_book) (ci := 8) (q := (RX9, TX9, 10)) (b := v166) (d' := d + 8) (mc' := 0) (ms' := 0) (As := [.int v168, .int 2, .int (v170 + r174)]) (st := []) (c := 0 + mc3 + mc6 + mc147) (sl := 0 + ms3 + ms6 + ms147) kmX9_book kw_1494 (by omega) rfl (Nat.le_of_ble_eq_true rfl) he rfl rfl hc147 hs147 dX11_appeal_120 (fun E M9 hx => kz_Tout rfl hc147 hs147 hx) (kz_Cmono (fun v M176 h => ?_) (fun _ _ h => h) h)
          obtain ⟨rfl, h⟩ := h
          show kz_Z G (d + 9) mc ms mX11_appeal Qr Qx 123 [(6, .int 1), (5, .int r10), (4, .ref r5), (3, .ref r2), (0, .ref a0), (1, .int p1), (2, .int p2)] [] M176 (0 + mc3 + mc6 + mc147) (0 + ms3 + ms6 + ms147)
          refine kz_goto (pc := 123) (tgt := 148) (by decide) dX11_appeal_123 ?_
          refine kz_iload (pc := 148) 0 (i := 6) rfl dX11_appeal_148 ?_
          refine kz_if_eq (pc := 150) (tgt := 157) (by decide) dX11_appeal_150 (fun hb => ?_) (fun hb => ?_)
          · replace h := h.1 hb
            refine kz_iconst (pc := 157) (v := 0) (by decide) dX11_appeal_157 ?_
            exact kz_iret (pc := 158) rfl hc147 hs147 dX11_appeal_158 h
          · replace h := h.2 hb
            refine kz_iconst (pc := 153) (v := 1) (by decide) dX11_appeal_153 ?_
            refine kz_goto (pc := 154) (tgt := 158) (by decide) dX11_appeal_154 ?_
            exact kz_iret (pc := 158) rfl hc147 hs147 dX11_appeal_158 h
  · replace h := h.2 hb
    refine kz_iload (pc := 31) 0 (i := 5) rfl dX11_appeal_31 ?_
    refine kz_ineg (pc := 33) dX11_appeal_33 ?_
    exact kz_iret (pc := 34) rfl hc6 hs6 dX11_appeal_34 h
theorem dX11_payOut_0 : decode cX11_payOut 0 = .ok (.aload_n 0, 1) := by decide +kernel
theorem dX11_payOut_1 : decode cX11_payOut 1 = .ok (.iload_n 1, 1) := by decide +kernel
theorem dX11_payOut_2 : decode cX11_payOut 2 = .ok (.invokevirtual 148, 3) := by decide +kernel
theorem dX11_payOut_5 : decode cX11_payOut 5 = .ok (.aload_n 0, 1) := by decide +kernel
theorem dX11_payOut_6 : decode cX11_payOut 6 = .ok (.getfield 36, 3) := by decide +kernel
theorem dX11_payOut_9 : decode cX11_payOut 9 = .ok (.aload_n 0, 1) := by decide +kernel
theorem dX11_payOut_10 : decode cX11_payOut 10 = .ok (.getfield 26, 3) := by decide +kernel
theorem dX11_payOut_13 : decode cX11_payOut 13 = .ok (.invokevirtual 362, 3) := by decide +kernel
theorem dX11_payOut_16 : decode cX11_payOut 16 = .ok (.iconst 0, 1) := by decide +kernel
theorem dX11_payOut_17 : decode cX11_payOut 17 = .ok (.aload_n 0, 1) := by decide +kernel
theorem dX11_payOut_18 : decode cX11_payOut 18 = .ok (.getfield 26, 3) := by decide +kernel
theorem dX11_payOut_21 : decode cX11_payOut 21 = .ok (.iload_n 1, 1) := by decide +kernel
theorem dX11_payOut_22 : decode cX11_payOut 22 = .ok (.invokevirtual 151, 3) := by decide +kernel
theorem dX11_payOut_25 : decode cX11_payOut 25 = .ok (.aload_n 0, 1) := by decide +kernel
theorem dX11_payOut_26 : decode cX11_payOut 26 = .ok (.getfield 26, 3) := by decide +kernel
theorem dX11_payOut_29 : decode cX11_payOut 29 = .ok (.getfield 117, 3) := by decide +kernel
theorem dX11_payOut_32 : decode cX11_payOut 32 = .ok (.invokestatic 378, 3) := by decide +kernel
theorem dX11_payOut_35 : decode cX11_payOut 35 = .ok (.invokestatic 357, 3) := by decide +kernel
theorem dX11_payOut_38 : decode cX11_payOut 38 = .ok (.istore_n 2, 1) := by decide +kernel
theorem dX11_payOut_39 : decode cX11_payOut 39 = .ok (.aload_n 0, 1) := by decide +kernel
theorem dX11_payOut_40 : decode cX11_payOut 40 = .ok (.getfield 26, 3) := by decide +kernel
theorem dX11_payOut_43 : decode cX11_payOut 43 = .ok (.iload_n 1, 1) := by decide +kernel
theorem dX11_payOut_44 : decode cX11_payOut 44 = .ok (.iconst 4, 1) := by decide +kernel
theorem dX11_payOut_45 : decode cX11_payOut 45 = .ok (.iload_n 2, 1) := by decide +kernel
theorem dX11_payOut_46 : decode cX11_payOut 46 = .ok (.invokevirtual 381, 3) := by decide +kernel
theorem dX11_payOut_49 : decode cX11_payOut 49 = .ok (.iload_n 2, 1) := by decide +kernel
theorem dX11_payOut_50 : decode cX11_payOut 50 = .ok (.ireturn, 1) := by decide +kernel
theorem rX11_payOut_0 {G : kz_G} {d : Nat} {mc ms : Nat} {Qr : Option Value → kz_M → Prop} {Qx : String → kz_M → Prop} {a0 : Nat} {p1 : Int32}  {M : kz_M} (h : (∃ fs28, (M).1 a0 = some (.inl (10, fs28))) ∧ ∃ mc3 ms3, 0 + mc3 ≤ mc ∧ 0 + ms3 ≤ ms ∧ kz_C G (d + 7) mc3 ms3 mX11_checkWriter [.ref a0, .int p1] M (fun v M1 => v = none ∧ (∃ fs4 v5, (M1).1 a0 = some (.inl (10, fs4)) ∧ fs4[4]? = some (.ref v5) ∧ (∃ fs6 v7, (M1).1 a0 = some (.inl (10, fs6)) ∧ fs6[2]? = some (.ref v7) ∧ ((∃ fs27, (M1).1 v5 = some (.inl (0, fs27))) ∧ kz_C G (d + 7) 0 0 mX0_keep [.ref v5, .ref v7] M1 (fun v M8 => v = none ∧ (∃ fs11 v12, (M8).1 a0 = some (.inl (10, fs11)) ∧ fs11[2]? = some (.ref v12) ∧ ((∃ fs26, (M8).1 v12 = some (.inl (8, fs26))) ∧ kz_C G (d + 7) 0 0 mX9_balanceOf [.ref v12, .int p1] M8 (fun v M13 => ∃ r14 : Int32, v = some (.int r14) ∧ (∃ fs16 v17, (M13).1 a0 = some (.inl (10, fs16)) ∧ fs16[2]? = some (.ref v17) ∧ (∃ fs18 v19, (M13).1 v17 = some (.inl (8, fs18)) ∧ fs18[1]? = some (.int v19) ∧ (∃ fs20 v21, (M13).1 a0 = some (.inl (10, fs20)) ∧ fs20[2]? = some (.ref v21) ∧ ((∃ fs25, (M13).1 v21 = some (.inl (8, fs25))) ∧ kz_C G (d + 7) 0 0 mX9_handOver [.ref v21, .int p1, .int 4, .int (if 0 < (if v19 < r14 then v19 else r14) then (if v19 < r14 then v19 else r14) else 0)] M13 (fun v M22 => v = none ∧ (Qr (some (.int (if 0 < (if v19 < r14 then v19 else r14) then (if v19 < r14 then v19 else r14) else 0))) M22)) Qx))))) Qx))) Qx)))) Qx) : kz_C G (d + 8) mc ms mX11_payOut [.ref a0, .int p1] M Qr Qx := by
  refine kz_enter (n := 1) kmX11_payOut.1 (Nat.le_of_ble_eq_true rfl) (ls := [(0, .ref a0), (1, .int p1)]) rfl ?_
  refine kz_aload_n (pc := 0) 0 (v := .ref a0) (i := 0) rfl rfl rfl dX11_payOut_0 ?_
  refine kz_iload_n (pc := 1) 1 (i := 1) rfl rfl dX11_payOut_1 ?_
  obtain ⟨⟨fs28, he⟩, h⟩ := h
  obtain ⟨mc3, ms3, hc3, hs3, h⟩ := h
  refine kz_callV (pc := 2) (μ' := mX11_checkWriter) (ci := 10) (q := (RX11, TX11, 10)) (b := a0) (d' := d + 7) (mc' := mc3) (ms' := ms3) (As := [.int p1]) (st := []) (c := 0) (sl := 0) kmX11_checkWriter kw_827 (by omega) rfl (Nat.le_of_ble_eq_true rfl) he rfl rfl hc3 hs3 dX11_payOut_2 (fun E M9 hx => kz_Tout rfl hc3 hs3 hx) (kz_Cmono (fun v M1 h => ?_) (fun _ _ h => h) h)
  obtain ⟨rfl, h⟩ := h
  show kz_Z G (d + 8) mc ms mX11_payOut Qr Qx 5 [(0, .ref a0), (1, .int p1)] [] M1 (0 + mc3) (0 + ms3)
  refine kz_aload_n (pc := 5) 0 (v := .ref a0) (i := 0) rfl rfl rfl dX11_payOut_5 ?_
  obtain ⟨fs4, v5, hM, hv, h⟩ := h
  refine kz_getf (pc := 6) (k := 4) kcX11 hM hv (by decide) kw_286 dX11_payOut_6 ?_
  refine kz_aload_n (pc := 9) 0 (v := .ref a0) (i := 0) rfl rfl rfl dX11_payOut_9 ?_
  obtain ⟨fs6, v7, hM, hv, h⟩ := h
  refine kz_getf (pc := 10) (k := 2) kcX11 hM hv (by decide) kw_284 dX11_payOut_10 ?_
  obtain ⟨⟨fs27, he⟩, h⟩ := h
  refine kz_callV (pc := 13) (μ' := mX0_keep) (ci := 0) (q := (RX0, TX0, 3)) (b := v5) (d' := d + 7) (mc' := 0) (ms' := 0) (As := [.ref v7]) (st := []) (c := 0 + mc3) (sl := 0 + ms3) kmX0_keep kw_1422 (by omega) rfl (Nat.le_of_ble_eq_true rfl) he rfl rfl hc3 hs3 dX11_payOut_13 (fun E M9 hx => kz_Tout rfl hc3 hs3 hx) (kz_Cmono (fun v M8 h => ?_) (fun _ _ h => h) h)
  obtain ⟨rfl, h⟩ := h
  show kz_Z G (d + 8) mc ms mX11_payOut Qr Qx 16 [(0, .ref a0), (1, .int p1)] [] M8 (0 + mc3) (0 + ms3)
  refine kz_iconst (pc := 16) (v := 0) (by decide) dX11_payOut_16 ?_
  refine kz_aload_n (pc := 17) 0 (v := .ref a0) (i := 0) rfl rfl rfl dX11_payOut_17 ?_
  obtain ⟨fs11, v12, hM, hv, h⟩ := h
  refine kz_getf (pc := 18) (k := 2) kcX11 hM hv (by decide) kw_284 dX11_payOut_18 ?_
  refine kz_iload_n (pc := 21) 1 (i := 1) rfl rfl dX11_payOut_21 ?_
  obtain ⟨⟨fs26, he⟩, h⟩ := h
  refine kz_callV (pc := 22) (μ' := mX9_balanceOf) (ci := 8) (q := (RX9, TX9, 10)) (b := v12) (d' := d + 7) (mc' := 0) (ms' := 0) (As := [.int p1]) (st := [.int 0]) (c := 0 + mc3) (sl := 0 + ms3) kmX9_balanceOf kw_851 (by omega) rfl (Nat.le_of_ble_eq_true rfl) he rfl rfl hc3 hs3 dX11_payOut_22 (fun E M9 hx => kz_Tout rfl hc3 hs3 hx) (kz_Cmono (fun v M13 h => ?_) (fun _ _ h => h) h)
  obtain ⟨r14, rfl, h⟩ := h
  show kz_Z G (d + 8) mc ms mX11_payOut Qr Qx 25 [(0, .ref a0), (1, .int p1)] [.int r14, .int 0] M13 (0 + mc3) (0 + ms3)
  refine kz_aload_n (pc := 25) 0 (v := .ref a0) (i := 0) rfl rfl rfl dX11_payOut_25 ?_
  obtain ⟨fs16, v17, hM, hv, h⟩ := h
  refine kz_getf (pc := 26) (k := 2) kcX11 hM hv (by decide) kw_284 dX11_payOut_26 ?_
  obtain ⟨fs18, v19, hM, hv, h⟩ := h
  refine kz_getf (pc := 29) (k := 1) kcX9 hM hv (by decide) kw_111 dX11_payOut_29 ?_
  refine kz_mmin (pc := 32) kw_1501 kw_557 kw_9 kw_558 (by omega) (Nat.le_of_ble_eq_true rfl) hc3 hs3 dX11_payOut_32 ?_
  refine kz_mmax (pc := 35) kw_1502 kw_539 kw_9 kw_540 (by omega) (Nat.le_of_ble_eq_true rfl) hc3 hs3 dX11_payOut_35 ?_
  refine kz_istore_n (pc := 38) (i := 2) (ls' := [(0, .ref a0), (1, .int p1)]) rfl (by decide) rfl dX11_payOut_38 ?_
  refine kz_aload_n (pc := 39) 1 (v := .ref a0) (i := 0) rfl rfl rfl dX11_payOut_39 ?_
  obtain ⟨fs20, v21, hM, hv, h⟩ := h
  refine kz_getf (pc := 40) (k := 2) kcX11 hM hv (by decide) kw_284 dX11_payOut_40 ?_
  refine kz_iload_n (pc := 43) 2 (i := 1) rfl rfl dX11_payOut_43 ?_
  refine kz_iconst (pc := 44) (v := 4) (by decide) dX11_payOut_44 ?_
  refine kz_iload_n (pc := 45) 0 (i := 2) rfl rfl dX11_payOut_45 ?_
  obtain ⟨⟨fs25, he⟩, h⟩ := h
  refine kz_callV (pc := 46) (μ' := mX9_handOver) (ci := 8) (q := (RX9, TX9, 10)) (b := v21) (d' := d + 7) (mc' := 0) (ms' := 0) (As := [.int p1, .int 4, .int (if 0 < (if v19 < r14 then v19 else r14) then (if v19 < r14 then v19 else r14) else 0)]) (st := []) (c := 0 + mc3) (sl := 0 + ms3) kmX9_handOver kw_1503 (by omega) rfl (Nat.le_of_ble_eq_true rfl) he rfl rfl hc3 hs3 dX11_payOut_46 (fun E M9 hx => kz_Tout rfl hc3 hs3 hx) (kz_Cmono (fun v M22 h => ?_) (fun _ _ h => h) h)
  obtain ⟨rfl, h⟩ := h
  show kz_Z G (d + 8) mc ms mX11_payOut Qr Qx 49 [(2, .int (if 0 < (if v19 < r14 then v19 else r14) then (if v19 < r14 then v19 else r14) else 0)), (0, .ref a0), (1, .int p1)] [] M22 (0 + mc3) (0 + ms3)
  refine kz_iload_n (pc := 49) 0 (i := 2) rfl rfl dX11_payOut_49 ?_
  exact kz_iret (pc := 50) rfl hc3 hs3 dX11_payOut_50 h
theorem dX11_pass_0 : decode cX11_pass 0 = .ok (.iload_n 1, 1) := by decide +kernel
theorem dX11_pass_1 : decode cX11_pass 1 = .ok (.iconst 1, 1) := by decide +kernel
theorem dX11_pass_2 : decode cX11_pass 2 = .ok (.if_icmp .lt 9, 3) := by decide +kernel
theorem dX11_pass_5 : decode cX11_pass 5 = .ok (.iload_n 1, 1) := by decide +kernel
theorem dX11_pass_6 : decode cX11_pass 6 = .ok (.bipush 99, 2) := by decide +kernel
theorem dX11_pass_8 : decode cX11_pass 8 = .ok (.if_icmp .le 14, 3) := by decide +kernel
theorem dX11_pass_11 : decode cX11_pass 11 = .ok (.new 134, 3) := by decide +kernel
theorem dX11_pass_14 : decode cX11_pass 14 = .ok (.dup, 1) := by decide +kernel
theorem dX11_pass_15 : decode cX11_pass 15 = .ok (.ldc_w 401, 3) := by decide +kernel
theorem dX11_pass_18 : decode cX11_pass 18 = .ok (.invokespecial 138, 3) := by decide +kernel
theorem dX11_pass_21 : decode cX11_pass 21 = .ok (.athrow, 1) := by decide +kernel
theorem dX11_pass_22 : decode cX11_pass 22 = .ok (.aload_n 0, 1) := by decide +kernel
theorem dX11_pass_23 : decode cX11_pass 23 = .ok (.getfield 26, 3) := by decide +kernel
theorem dX11_pass_26 : decode cX11_pass 26 = .ok (.getfield 114, 3) := by decide +kernel
theorem dX11_pass_29 : decode cX11_pass 29 = .ok (.iload_n 1, 1) := by decide +kernel
theorem dX11_pass_30 : decode cX11_pass 30 = .ok (.iadd, 1) := by decide +kernel
theorem dX11_pass_31 : decode cX11_pass 31 = .ok (.sipush 9999, 3) := by decide +kernel
theorem dX11_pass_34 : decode cX11_pass 34 = .ok (.if_icmp .le 14, 3) := by decide +kernel
theorem dX11_pass_37 : decode cX11_pass 37 = .ok (.new 386, 3) := by decide +kernel
theorem dX11_pass_40 : decode cX11_pass 40 = .ok (.dup, 1) := by decide +kernel
theorem dX11_pass_41 : decode cX11_pass 41 = .ok (.ldc_w 403, 3) := by decide +kernel
theorem dX11_pass_44 : decode cX11_pass 44 = .ok (.invokespecial 390, 3) := by decide +kernel
theorem dX11_pass_47 : decode cX11_pass 47 = .ok (.athrow, 1) := by decide +kernel
theorem dX11_pass_48 : decode cX11_pass 48 = .ok (.aload_n 0, 1) := by decide +kernel
theorem dX11_pass_49 : decode cX11_pass 49 = .ok (.getfield 36, 3) := by decide +kernel
theorem dX11_pass_52 : decode cX11_pass 52 = .ok (.aload_n 0, 1) := by decide +kernel
theorem dX11_pass_53 : decode cX11_pass 53 = .ok (.getfield 26, 3) := by decide +kernel
theorem dX11_pass_56 : decode cX11_pass 56 = .ok (.invokevirtual 362, 3) := by decide +kernel
theorem dX11_pass_59 : decode cX11_pass 59 = .ok (.aload_n 0, 1) := by decide +kernel
theorem dX11_pass_60 : decode cX11_pass 60 = .ok (.getfield 26, 3) := by decide +kernel
theorem dX11_pass_63 : decode cX11_pass 63 = .ok (.dup, 1) := by decide +kernel
theorem dX11_pass_64 : decode cX11_pass 64 = .ok (.getfield 114, 3) := by decide +kernel
theorem dX11_pass_67 : decode cX11_pass 67 = .ok (.iload_n 1, 1) := by decide +kernel
theorem dX11_pass_68 : decode cX11_pass 68 = .ok (.iadd, 1) := by decide +kernel
theorem dX11_pass_69 : decode cX11_pass 69 = .ok (.putfield 114, 3) := by decide +kernel
theorem dX11_pass_72 : decode cX11_pass 72 = .ok (.aload_n 0, 1) := by decide +kernel
theorem dX11_pass_73 : decode cX11_pass 73 = .ok (.getfield 26, 3) := by decide +kernel
theorem dX11_pass_76 : decode cX11_pass 76 = .ok (.getfield 114, 3) := by decide +kernel
theorem dX11_pass_79 : decode cX11_pass 79 = .ok (.ireturn, 1) := by decide +kernel
theorem rX11_pass_0 {G : kz_G} {d : Nat} {mc ms : Nat} {Qr : Option Value → kz_M → Prop} {Qx : String → kz_M → Prop} {a0 : Nat} {p1 : Int32}  {M : kz_M} (hG : kz_stat G) (h : (p1 < (1 : Int32) → 0 + 1 ≤ mc ∧ 0 + 6 ≤ ms ∧ ∀ g1, Qx "java/lang/IllegalArgumentException" ((M).1, (M).2 + g1)) ∧ (¬ p1 < (1 : Int32) → (p1 ≤ (99 : Int32) → ∃ fs2 v3, (M).1 a0 = some (.inl (10, fs2)) ∧ fs2[2]? = some (.ref v3) ∧ (∃ fs4 v5, (M).1 v3 = some (.inl (8, fs4)) ∧ fs4[0]? = some (.int v5) ∧ (((v5 + p1) ≤ (9999 : Int32) → ∃ fs6 v7, (M).1 a0 = some (.inl (10, fs6)) ∧ fs6[4]? = some (.ref v7) ∧ (∃ fs8 v9, (M).1 a0 = some (.inl (10, fs8)) ∧ fs8[2]? = some (.ref v9) ∧ ((∃ fs22, (M).1 v7 = some (.inl (0, fs22))) ∧ kz_C G (d + 6) 0 0 mX0_keep [.ref v7, .ref v9] M (fun v M10 => v = none ∧ (∃ fs13 v14, (M10).1 a0 = some (.inl (10, fs13)) ∧ fs13[2]? = some (.ref v14) ∧ (∃ fs15 v16, (M10).1 v14 = some (.inl (8, fs15)) ∧ fs15[0]? = some (.int v16) ∧ (∃ fs17, (M10).1 v14 = some (.inl (8, fs17)) ∧ 0 < fs17.length ∧ (∃ fs18 v19, ((kz_up M10 v14 (.inl (8, fs17.set 0 (.int (v16 + p1)))))).1 a0 = some (.inl (10, fs18)) ∧ fs18[2]? = some (.ref v19) ∧ (∃ fs20 v21, ((kz_up M10 v14 (.inl (8, fs17.set 0 (.int (v16 + p1)))))).1 v19 = some (.inl (8, fs20)) ∧ fs20[0]? = some (.int v21) ∧ (Qr (some (.int v21)) (kz_up M10 v14 (.inl (8, fs17.set 0 (.int (v16 + p1)))))))))))) Qx))) ∧ (¬ (v5 + p1) ≤ (9999 : Int32) → 0 + 1 ≤ mc ∧ 0 + 6 ≤ ms ∧ ∀ g23, Qx "java/lang/IllegalStateException" ((M).1, (M).2 + g23))))) ∧ (¬ p1 ≤ (99 : Int32) → 0 + 1 ≤ mc ∧ 0 + 6 ≤ ms ∧ ∀ g24, Qx "java/lang/IllegalArgumentException" ((M).1, (M).2 + g24)))) : kz_C G (d + 7) mc ms mX11_pass [.ref a0, .int p1] M Qr Qx := by
  refine kz_enter (n := 1) kmX11_pass.1 (Nat.le_of_ble_eq_true rfl) (ls := [(0, .ref a0), (1, .int p1)]) rfl ?_
  refine kz_iload_n (pc := 0) 1 (i := 1) rfl rfl dX11_pass_0 ?_
  refine kz_iconst (pc := 1) (v := 1) (by decide) dX11_pass_1 ?_
  refine kz_icmp_lt (pc := 2) (tgt := 11) (by decide) dX11_pass_2 (fun hb => ?_) (fun hb => ?_)
  · replace h := h.1 hb
    exact kz_throwSW (pc := 11) (ik := 134) (is := 401) (ic := 138) (j := 1011) (text := "no such number of days") hG.1 hG.2.1 hG.2.2.1 (by decide +kernel) kz_xn kw_746 kw_27 (List.mem_of_getElem? (i := 11) rfl) kz_xw_IllegalArgumentException kz_xg_IllegalArgumentException rfl (by show 2 + 3 < _; omega) (by decide) (Nat.le_of_ble_eq_true rfl) h.1 h.2.1 dX11_pass_11 dX11_pass_14 dX11_pass_15 dX11_pass_18 dX11_pass_21 h.2.2
  · replace h := h.2 hb
    refine kz_iload_n (pc := 5) 1 (i := 1) rfl rfl dX11_pass_5 ?_
    refine kz_bipush (pc := 6) (v := 99) (by decide) dX11_pass_6 ?_
    refine kz_icmp_le (pc := 8) (tgt := 22) (by decide) dX11_pass_8 (fun hb => ?_) (fun hb => ?_)
    · replace h := h.1 hb
      refine kz_aload_n (pc := 22) 0 (v := .ref a0) (i := 0) rfl rfl rfl dX11_pass_22 ?_
      obtain ⟨fs2, v3, hM, hv, h⟩ := h
      refine kz_getf (pc := 23) (k := 2) kcX11 hM hv (by decide) kw_284 dX11_pass_23 ?_
      obtain ⟨fs4, v5, hM, hv, h⟩ := h
      refine kz_getf (pc := 26) (k := 0) kcX9 hM hv (by decide) kw_108 dX11_pass_26 ?_
      refine kz_iload_n (pc := 29) 1 (i := 1) rfl rfl dX11_pass_29 ?_
      refine kz_iadd (pc := 30) dX11_pass_30 ?_
      refine kz_sipush (pc := 31) (v := 9999) (by decide) dX11_pass_31 ?_
      refine kz_icmp_le (pc := 34) (tgt := 48) (by decide) dX11_pass_34 (fun hb => ?_) (fun hb => ?_)
      · replace h := h.1 hb
        refine kz_aload_n (pc := 48) 0 (v := .ref a0) (i := 0) rfl rfl rfl dX11_pass_48 ?_
        obtain ⟨fs6, v7, hM, hv, h⟩ := h
        refine kz_getf (pc := 49) (k := 4) kcX11 hM hv (by decide) kw_286 dX11_pass_49 ?_
        refine kz_aload_n (pc := 52) 0 (v := .ref a0) (i := 0) rfl rfl rfl dX11_pass_52 ?_
        obtain ⟨fs8, v9, hM, hv, h⟩ := h
        refine kz_getf (pc := 53) (k := 2) kcX11 hM hv (by decide) kw_284 dX11_pass_53 ?_
        obtain ⟨⟨fs22, he⟩, h⟩ := h
        refine kz_callV (pc := 56) (μ' := mX0_keep) (ci := 0) (q := (RX0, TX0, 3)) (b := v7) (d' := d + 6) (mc' := 0) (ms' := 0) (As := [.ref v9]) (st := []) (c := 0) (sl := 0) kmX0_keep kw_1422 (by omega) rfl (Nat.le_of_ble_eq_true rfl) he rfl rfl (Nat.zero_le _) (Nat.zero_le _) dX11_pass_56 (fun E M9 hx => kz_Tout rfl (Nat.zero_le _) (Nat.zero_le _) hx) (kz_Cmono (fun v M10 h => ?_) (fun _ _ h => h) h)
        obtain ⟨rfl, h⟩ := h
        show kz_Z G (d + 7) mc ms mX11_pass Qr Qx 59 [(0, .ref a0), (1, .int p1)] [] M10 0 0
        refine kz_aload_n (pc := 59) 0 (v := .ref a0) (i := 0) rfl rfl rfl dX11_pass_59 ?_
        obtain ⟨fs13, v14, hM, hv, h⟩ := h
        refine kz_getf (pc := 60) (k := 2) kcX11 hM hv (by decide) kw_284 dX11_pass_60 ?_
        refine kz_dup (pc := 63) rfl dX11_pass_63 ?_
        obtain ⟨fs15, v16, hM, hv, h⟩ := h
        refine kz_getf (pc := 64) (k := 0) kcX9 hM hv (by decide) kw_108 dX11_pass_64 ?_
        refine kz_iload_n (pc := 67) 1 (i := 1) rfl rfl dX11_pass_67 ?_
        refine kz_iadd (pc := 68) dX11_pass_68 ?_
        obtain ⟨fs17, hM, hlen, h⟩ := h
        refine kz_putf (pc := 69) (k := 0) kcX9 hM (by decide) hlen kw_108 rfl rfl rfl dX11_pass_69 ?_
        refine kz_aload_n (pc := 72) 0 (v := .ref a0) (i := 0) rfl rfl rfl dX11_pass_72 ?_
        obtain ⟨fs18, v19, hM, hv, h⟩ := h
        refine kz_getf (pc := 73) (k := 2) kcX11 hM hv (by decide) kw_284 dX11_pass_73 ?_
        obtain ⟨fs20, v21, hM, hv, h⟩ := h
        refine kz_getf (pc := 76) (k := 0) kcX9 hM hv (by decide) kw_108 dX11_pass_76 ?_
        exact kz_iret (pc := 79) rfl (Nat.zero_le _) (Nat.zero_le _) dX11_pass_79 h
      · replace h := h.2 hb
        exact kz_throwSW (pc := 37) (ik := 386) (is := 403) (ic := 390) (j := 1012) (text := "too late a day") hG.1 hG.2.1 hG.2.2.1 (by decide +kernel) kz_xn kw_1513 kw_36 (List.mem_of_getElem? (i := 12) rfl) kz_xw_IllegalStateException kz_xg_IllegalStateException rfl (by show 2 + 3 < _; omega) (by decide) (Nat.le_of_ble_eq_true rfl) h.1 h.2.1 dX11_pass_37 dX11_pass_40 dX11_pass_41 dX11_pass_44 dX11_pass_47 h.2.2
    · replace h := h.2 hb
      exact kz_throwSW (pc := 11) (ik := 134) (is := 401) (ic := 138) (j := 1011) (text := "no such number of days") hG.1 hG.2.1 hG.2.2.1 (by decide +kernel) kz_xn kw_746 kw_27 (List.mem_of_getElem? (i := 11) rfl) kz_xw_IllegalArgumentException kz_xg_IllegalArgumentException rfl (by show 2 + 3 < _; omega) (by decide) (Nat.le_of_ble_eq_true rfl) h.1 h.2.1 dX11_pass_11 dX11_pass_14 dX11_pass_15 dX11_pass_18 dX11_pass_21 h.2.2
theorem dX11_set_0 : decode cX11_set 0 = .ok (.aload_n 0, 1) := by decide +kernel
theorem dX11_set_1 : decode cX11_set 1 = .ok (.iload_n 1, 1) := by decide +kernel
theorem dX11_set_2 : decode cX11_set 2 = .ok (.iload_n 2, 1) := by decide +kernel
theorem dX11_set_3 : decode cX11_set 3 = .ok (.invokevirtual 289, 3) := by decide +kernel
theorem dX11_set_6 : decode cX11_set 6 = .ok (.aload_n 0, 1) := by decide +kernel
theorem dX11_set_7 : decode cX11_set 7 = .ok (.getfield 36, 3) := by decide +kernel
theorem dX11_set_10 : decode cX11_set 10 = .ok (.aload_n 0, 1) := by decide +kernel
theorem dX11_set_11 : decode cX11_set 11 = .ok (.getfield 26, 3) := by decide +kernel
theorem dX11_set_14 : decode cX11_set 14 = .ok (.invokevirtual 362, 3) := by decide +kernel
theorem dX11_set_17 : decode cX11_set 17 = .ok (.aload_n 0, 1) := by decide +kernel
theorem dX11_set_18 : decode cX11_set 18 = .ok (.getfield 26, 3) := by decide +kernel
theorem dX11_set_21 : decode cX11_set 21 = .ok (.iload_n 1, 1) := by decide +kernel
theorem dX11_set_22 : decode cX11_set 22 = .ok (.invokevirtual 144, 3) := by decide +kernel
theorem dX11_set_25 : decode cX11_set 25 = .ok (.istore_n 3, 1) := by decide +kernel
theorem dX11_set_26 : decode cX11_set 26 = .ok (.aload_n 0, 1) := by decide +kernel
theorem dX11_set_27 : decode cX11_set 27 = .ok (.getfield 26, 3) := by decide +kernel
theorem dX11_set_30 : decode cX11_set 30 = .ok (.getfield 319, 3) := by decide +kernel
theorem dX11_set_33 : decode cX11_set 33 = .ok (.iload_n 1, 1) := by decide +kernel
theorem dX11_set_34 : decode cX11_set 34 = .ok (.iload_n 2, 1) := by decide +kernel
theorem dX11_set_35 : decode cX11_set 35 = .ok (.invokestatic 335, 3) := by decide +kernel
theorem dX11_set_38 : decode cX11_set 38 = .ok (.iload_n 3, 1) := by decide +kernel
theorem dX11_set_39 : decode cX11_set 39 = .ok (.ireturn, 1) := by decide +kernel
theorem rX11_set_0 {G : kz_G} {d : Nat} {mc ms : Nat} {Qr : Option Value → kz_M → Prop} {Qx : String → kz_M → Prop} {a0 : Nat} {p1 : Int32} {p2 : Int32}  {M : kz_M} (h : (∃ fs26, (M).1 a0 = some (.inl (10, fs26))) ∧ ∃ mc3 ms3, 0 + mc3 ≤ mc ∧ 0 + ms3 ≤ ms ∧ kz_C G (d + 7) mc3 ms3 mX11_checkValue [.ref a0, .int p1, .int p2] M (fun v M1 => v = none ∧ (∃ fs4 v5, (M1).1 a0 = some (.inl (10, fs4)) ∧ fs4[4]? = some (.ref v5) ∧ (∃ fs6 v7, (M1).1 a0 = some (.inl (10, fs6)) ∧ fs6[2]? = some (.ref v7) ∧ ((∃ fs25, (M1).1 v5 = some (.inl (0, fs25))) ∧ kz_C G (d + 7) 0 0 mX0_keep [.ref v5, .ref v7] M1 (fun v M8 => v = none ∧ (∃ fs11 v12, (M8).1 a0 = some (.inl (10, fs11)) ∧ fs11[2]? = some (.ref v12) ∧ ((∃ fs24, (M8).1 v12 = some (.inl (8, fs24))) ∧ kz_C G (d + 7) 0 0 mX9_rule [.ref v12, .int p1] M8 (fun v M13 => ∃ r14 : Int32, v = some (.int r14) ∧ (∃ fs16 v17, (M13).1 a0 = some (.inl (10, fs16)) ∧ fs16[2]? = some (.ref v17) ∧ (∃ fs18 v19, (M13).1 v17 = some (.inl (8, fs18)) ∧ fs18[4]? = some (.ref v19) ∧ (kz_C G (d + 7) 0 0 mX11_put [.ref v19, .int p1, .int p2] M13 (fun v M20 => v = none ∧ (Qr (some (.int r14)) M20)) Qx)))) Qx))) Qx)))) Qx) : kz_C G (d + 8) mc ms mX11_set [.ref a0, .int p1, .int p2] M Qr Qx := by
  refine kz_enter (n := 2) kmX11_set.1 (Nat.le_of_ble_eq_true rfl) (ls := [(0, .ref a0), (1, .int p1), (2, .int p2)]) rfl ?_
  refine kz_aload_n (pc := 0) 0 (v := .ref a0) (i := 0) rfl rfl rfl dX11_set_0 ?_
  refine kz_iload_n (pc := 1) 1 (i := 1) rfl rfl dX11_set_1 ?_
  refine kz_iload_n (pc := 2) 2 (i := 2) rfl rfl dX11_set_2 ?_
  obtain ⟨⟨fs26, he⟩, h⟩ := h
  obtain ⟨mc3, ms3, hc3, hs3, h⟩ := h
  refine kz_callV (pc := 3) (μ' := mX11_checkValue) (ci := 10) (q := (RX11, TX11, 10)) (b := a0) (d' := d + 7) (mc' := mc3) (ms' := ms3) (As := [.int p1, .int p2]) (st := []) (c := 0) (sl := 0) kmX11_checkValue kw_1533 (by omega) rfl (Nat.le_of_ble_eq_true rfl) he rfl rfl hc3 hs3 dX11_set_3 (fun E M9 hx => kz_Tout rfl hc3 hs3 hx) (kz_Cmono (fun v M1 h => ?_) (fun _ _ h => h) h)
  obtain ⟨rfl, h⟩ := h
  show kz_Z G (d + 8) mc ms mX11_set Qr Qx 6 [(0, .ref a0), (1, .int p1), (2, .int p2)] [] M1 (0 + mc3) (0 + ms3)
  refine kz_aload_n (pc := 6) 0 (v := .ref a0) (i := 0) rfl rfl rfl dX11_set_6 ?_
  obtain ⟨fs4, v5, hM, hv, h⟩ := h
  refine kz_getf (pc := 7) (k := 4) kcX11 hM hv (by decide) kw_286 dX11_set_7 ?_
  refine kz_aload_n (pc := 10) 0 (v := .ref a0) (i := 0) rfl rfl rfl dX11_set_10 ?_
  obtain ⟨fs6, v7, hM, hv, h⟩ := h
  refine kz_getf (pc := 11) (k := 2) kcX11 hM hv (by decide) kw_284 dX11_set_11 ?_
  obtain ⟨⟨fs25, he⟩, h⟩ := h
  refine kz_callV (pc := 14) (μ' := mX0_keep) (ci := 0) (q := (RX0, TX0, 3)) (b := v5) (d' := d + 7) (mc' := 0) (ms' := 0) (As := [.ref v7]) (st := []) (c := 0 + mc3) (sl := 0 + ms3) kmX0_keep kw_1422 (by omega) rfl (Nat.le_of_ble_eq_true rfl) he rfl rfl hc3 hs3 dX11_set_14 (fun E M9 hx => kz_Tout rfl hc3 hs3 hx) (kz_Cmono (fun v M8 h => ?_) (fun _ _ h => h) h)
  obtain ⟨rfl, h⟩ := h
  show kz_Z G (d + 8) mc ms mX11_set Qr Qx 17 [(0, .ref a0), (1, .int p1), (2, .int p2)] [] M8 (0 + mc3) (0 + ms3)
  refine kz_aload_n (pc := 17) 0 (v := .ref a0) (i := 0) rfl rfl rfl dX11_set_17 ?_
  obtain ⟨fs11, v12, hM, hv, h⟩ := h
  refine kz_getf (pc := 18) (k := 2) kcX11 hM hv (by decide) kw_284 dX11_set_18 ?_
  refine kz_iload_n (pc := 21) 1 (i := 1) rfl rfl dX11_set_21 ?_
  obtain ⟨⟨fs24, he⟩, h⟩ := h
  refine kz_callV (pc := 22) (μ' := mX9_rule) (ci := 8) (q := (RX9, TX9, 10)) (b := v12) (d' := d + 7) (mc' := 0) (ms' := 0) (As := [.int p1]) (st := []) (c := 0 + mc3) (sl := 0 + ms3) kmX9_rule kw_923 (by omega) rfl (Nat.le_of_ble_eq_true rfl) he rfl rfl hc3 hs3 dX11_set_22 (fun E M9 hx => kz_Tout rfl hc3 hs3 hx) (kz_Cmono (fun v M13 h => ?_) (fun _ _ h => h) h)
  obtain ⟨r14, rfl, h⟩ := h
  show kz_Z G (d + 8) mc ms mX11_set Qr Qx 25 [(0, .ref a0), (1, .int p1), (2, .int p2)] [.int r14] M13 (0 + mc3) (0 + ms3)
  refine kz_istore_n (pc := 25) (i := 3) (ls' := [(0, .ref a0), (1, .int p1), (2, .int p2)]) rfl (by decide) rfl dX11_set_25 ?_
  refine kz_aload_n (pc := 26) 1 (v := .ref a0) (i := 0) rfl rfl rfl dX11_set_26 ?_
  obtain ⟨fs16, v17, hM, hv, h⟩ := h
  refine kz_getf (pc := 27) (k := 2) kcX11 hM hv (by decide) kw_284 dX11_set_27 ?_
  obtain ⟨fs18, v19, hM, hv, h⟩ := h
  refine kz_getf (pc := 30) (k := 4) kcX9 hM hv (by decide) kw_119 dX11_set_30 ?_
  refine kz_iload_n (pc := 33) 2 (i := 1) rfl rfl dX11_set_33 ?_
  refine kz_iload_n (pc := 34) 3 (i := 2) rfl rfl dX11_set_34 ?_
  refine kz_callS (pc := 35) (μ' := mX11_put) (d' := d + 7) (mc' := 0) (ms' := 0) (As := [.ref v19, .int p1, .int p2]) (st := []) (c := 0 + mc3) (sl := 0 + ms3) kmX11_put kw_1541 (by omega) rfl (Nat.le_of_ble_eq_true rfl) hc3 hs3 dX11_set_35 (fun E M9 hx => kz_Tout rfl hc3 hs3 hx) (kz_Cmono (fun v M20 h => ?_) (fun _ _ h => h) h)
  obtain ⟨rfl, h⟩ := h
  show kz_Z G (d + 8) mc ms mX11_set Qr Qx 38 [(3, .int r14), (0, .ref a0), (1, .int p1), (2, .int p2)] [] M20 (0 + mc3) (0 + ms3)
  refine kz_iload_n (pc := 38) 0 (i := 3) rfl rfl dX11_set_38 ?_
  exact kz_iret (pc := 39) rfl hc3 hs3 dX11_set_39 h
theorem dX11_checkWriter_0 : decode cX11_checkWriter 0 = .ok (.aload_n 0, 1) := by decide +kernel
theorem dX11_checkWriter_1 : decode cX11_checkWriter 1 = .ok (.getfield 26, 3) := by decide +kernel
theorem dX11_checkWriter_4 : decode cX11_checkWriter 4 = .ok (.iload_n 1, 1) := by decide +kernel
theorem dX11_checkWriter_5 : decode cX11_checkWriter 5 = .ok (.invokevirtual 443, 3) := by decide +kernel
theorem dX11_checkWriter_8 : decode cX11_checkWriter 8 = .ok (.ifCond .ne 14, 3) := by decide +kernel
theorem dX11_checkWriter_11 : decode cX11_checkWriter 11 = .ok (.new 232, 3) := by decide +kernel
theorem dX11_checkWriter_14 : decode cX11_checkWriter 14 = .ok (.dup, 1) := by decide +kernel
theorem dX11_checkWriter_15 : decode cX11_checkWriter 15 = .ok (.ldc_w 446, 3) := by decide +kernel
theorem dX11_checkWriter_18 : decode cX11_checkWriter 18 = .ok (.invokespecial 236, 3) := by decide +kernel
theorem dX11_checkWriter_21 : decode cX11_checkWriter 21 = .ok (.athrow, 1) := by decide +kernel
theorem dX11_checkWriter_22 : decode cX11_checkWriter 22 = .ok (.return_, 1) := by decide +kernel
theorem rX11_checkWriter_0 {G : kz_G} {d : Nat} {mc ms : Nat} {Qr : Option Value → kz_M → Prop} {Qx : String → kz_M → Prop} {a0 : Nat} {p1 : Int32}  {M : kz_M} (hG : kz_stat G) (h : ∃ fs1 v2, (M).1 a0 = some (.inl (10, fs1)) ∧ fs1[2]? = some (.ref v2) ∧ ((∃ fs7, (M).1 v2 = some (.inl (8, fs7))) ∧ kz_C G (d + 6) 0 0 mX9_isWriter [.ref v2, .int p1] M (fun v M3 => ∃ r4 : Int32, v = some (.int r4) ∧ ((¬ r4 = 0 → Qr none M3) ∧ (r4 = 0 → 0 + 1 ≤ mc ∧ 0 + 6 ≤ ms ∧ ∀ g6, Qx "java/lang/IndexOutOfBoundsException" ((M3).1, (M3).2 + g6)))) Qx)) : kz_C G (d + 7) mc ms mX11_checkWriter [.ref a0, .int p1] M Qr Qx := by
  refine kz_enter (n := 1) kmX11_checkWriter.1 (Nat.le_of_ble_eq_true rfl) (ls := [(0, .ref a0), (1, .int p1)]) rfl ?_
  refine kz_aload_n (pc := 0) 0 (v := .ref a0) (i := 0) rfl rfl rfl dX11_checkWriter_0 ?_
  obtain ⟨fs1, v2, hM, hv, h⟩ := h
  refine kz_getf (pc := 1) (k := 2) kcX11 hM hv (by decide) kw_284 dX11_checkWriter_1 ?_
  refine kz_iload_n (pc := 4) 1 (i := 1) rfl rfl dX11_checkWriter_4 ?_
  obtain ⟨⟨fs7, he⟩, h⟩ := h
  refine kz_callV (pc := 5) (μ' := mX9_isWriter) (ci := 8) (q := (RX9, TX9, 10)) (b := v2) (d' := d + 6) (mc' := 0) (ms' := 0) (As := [.int p1]) (st := []) (c := 0) (sl := 0) kmX9_isWriter kw_831 (by omega) rfl (Nat.le_of_ble_eq_true rfl) he rfl rfl (Nat.zero_le _) (Nat.zero_le _) dX11_checkWriter_5 (fun E M9 hx => kz_Tout rfl (Nat.zero_le _) (Nat.zero_le _) hx) (kz_Cmono (fun v M3 h => ?_) (fun _ _ h => h) h)
  obtain ⟨r4, rfl, h⟩ := h
  show kz_Z G (d + 7) mc ms mX11_checkWriter Qr Qx 8 [(0, .ref a0), (1, .int p1)] [.int r4] M3 0 0
  refine kz_if_ne (pc := 8) (tgt := 22) (by decide) dX11_checkWriter_8 (fun hb => ?_) (fun hb => ?_)
  · replace h := h.1 hb
    exact kz_vret (pc := 22) rfl (Nat.zero_le _) (Nat.zero_le _) dX11_checkWriter_22 h
  · replace h := h.2 hb
    exact kz_throwSW (pc := 11) (ik := 232) (is := 446) (ic := 236) (j := 1015) (text := "no such writer") hG.1 hG.2.1 hG.2.2.1 (by decide +kernel) kz_xn kw_835 kw_28 (List.mem_of_getElem? (i := 15) rfl) kz_xw_IndexOutOfBoundsException kz_xg_IndexOutOfBoundsException rfl (by show 2 + 3 < _; omega) (by decide) (Nat.le_of_ble_eq_true rfl) h.1 h.2.1 dX11_checkWriter_11 dX11_checkWriter_14 dX11_checkWriter_15 dX11_checkWriter_18 dX11_checkWriter_21 h.2.2
theorem dX11_checkValue_0 : decode cX11_checkValue 0 = .ok (.iload_n 1, 1) := by decide +kernel
theorem dX11_checkValue_1 : decode cX11_checkValue 1 = .ok (.iload_n 2, 1) := by decide +kernel
theorem dX11_checkValue_2 : decode cX11_checkValue 2 = .ok (.invokestatic 454, 3) := by decide +kernel
theorem dX11_checkValue_5 : decode cX11_checkValue 5 = .ok (.ifCond .ne 14, 3) := by decide +kernel
theorem dX11_checkValue_8 : decode cX11_checkValue 8 = .ok (.new 134, 3) := by decide +kernel
theorem dX11_checkValue_11 : decode cX11_checkValue 11 = .ok (.dup, 1) := by decide +kernel
theorem dX11_checkValue_12 : decode cX11_checkValue 12 = .ok (.ldc_w 457, 3) := by decide +kernel
theorem dX11_checkValue_15 : decode cX11_checkValue 15 = .ok (.invokespecial 138, 3) := by decide +kernel
theorem dX11_checkValue_18 : decode cX11_checkValue 18 = .ok (.athrow, 1) := by decide +kernel
theorem dX11_checkValue_19 : decode cX11_checkValue 19 = .ok (.return_, 1) := by decide +kernel
theorem rX11_checkValue_0 {G : kz_G} {d : Nat} {mc ms : Nat} {Qr : Option Value → kz_M → Prop} {Qx : String → kz_M → Prop} {a0 : Nat} {p1 : Int32} {p2 : Int32}  {M : kz_M} (hG : kz_stat G) (h : kz_C G (d + 6) 0 0 mX11_isValue [.int p1, .int p2] M (fun v M1 => ∃ r2 : Int32, v = some (.int r2) ∧ ((¬ r2 = 0 → Qr none M1) ∧ (r2 = 0 → 0 + 1 ≤ mc ∧ 0 + 6 ≤ ms ∧ ∀ g4, Qx "java/lang/IllegalArgumentException" ((M1).1, (M1).2 + g4)))) Qx) : kz_C G (d + 7) mc ms mX11_checkValue [.ref a0, .int p1, .int p2] M Qr Qx := by
  refine kz_enter (n := 2) kmX11_checkValue.1 (Nat.le_of_ble_eq_true rfl) (ls := [(0, .ref a0), (1, .int p1), (2, .int p2)]) rfl ?_
  refine kz_iload_n (pc := 0) 1 (i := 1) rfl rfl dX11_checkValue_0 ?_
  refine kz_iload_n (pc := 1) 2 (i := 2) rfl rfl dX11_checkValue_1 ?_
  refine kz_callS (pc := 2) (μ' := mX11_isValue) (d' := d + 6) (mc' := 0) (ms' := 0) (As := [.int p1, .int p2]) (st := []) (c := 0) (sl := 0) kmX11_isValue kw_1537 (by omega) rfl (Nat.le_of_ble_eq_true rfl) (Nat.zero_le _) (Nat.zero_le _) dX11_checkValue_2 (fun E M9 hx => kz_Tout rfl (Nat.zero_le _) (Nat.zero_le _) hx) (kz_Cmono (fun v M1 h => ?_) (fun _ _ h => h) h)
  obtain ⟨r2, rfl, h⟩ := h
  show kz_Z G (d + 7) mc ms mX11_checkValue Qr Qx 5 [(0, .ref a0), (1, .int p1), (2, .int p2)] [.int r2] M1 0 0
  refine kz_if_ne (pc := 5) (tgt := 19) (by decide) dX11_checkValue_5 (fun hb => ?_) (fun hb => ?_)
  · replace h := h.1 hb
    exact kz_vret (pc := 19) rfl (Nat.zero_le _) (Nat.zero_le _) dX11_checkValue_19 h
  · replace h := h.2 hb
    exact kz_throwSW (pc := 8) (ik := 134) (is := 457) (ic := 138) (j := 1017) (text := "no such value of the setting") hG.1 hG.2.1 hG.2.2.1 (by decide +kernel) kz_xn kw_746 kw_27 (List.mem_of_getElem? (i := 17) rfl) kz_xw_IllegalArgumentException kz_xg_IllegalArgumentException rfl (by show 2 + 3 < _; omega) (by decide) (Nat.le_of_ble_eq_true rfl) h.1 h.2.1 dX11_checkValue_8 dX11_checkValue_11 dX11_checkValue_12 dX11_checkValue_15 dX11_checkValue_18 h.2.2
theorem dX11_checkSubmission_0 : decode cX11_checkSubmission 0 = .ok (.aload_n 0, 1) := by decide +kernel
theorem dX11_checkSubmission_1 : decode cX11_checkSubmission 1 = .ok (.iload_n 1, 1) := by decide +kernel
theorem dX11_checkSubmission_2 : decode cX11_checkSubmission 2 = .ok (.invokevirtual 148, 3) := by decide +kernel
theorem dX11_checkSubmission_5 : decode cX11_checkSubmission 5 = .ok (.iload_n 2, 1) := by decide +kernel
theorem dX11_checkSubmission_6 : decode cX11_checkSubmission 6 = .ok (.ifCond .lt 8, 3) := by decide +kernel
theorem dX11_checkSubmission_9 : decode cX11_checkSubmission 9 = .ok (.iload_n 2, 1) := by decide +kernel
theorem dX11_checkSubmission_10 : decode cX11_checkSubmission 10 = .ok (.iconst 2, 1) := by decide +kernel
theorem dX11_checkSubmission_11 : decode cX11_checkSubmission 11 = .ok (.if_icmp .le 14, 3) := by decide +kernel
theorem dX11_checkSubmission_14 : decode cX11_checkSubmission 14 = .ok (.new 134, 3) := by decide +kernel
theorem dX11_checkSubmission_17 : decode cX11_checkSubmission 17 = .ok (.dup, 1) := by decide +kernel
theorem dX11_checkSubmission_18 : decode cX11_checkSubmission 18 = .ok (.ldc_w 459, 3) := by decide +kernel
theorem dX11_checkSubmission_21 : decode cX11_checkSubmission 21 = .ok (.invokespecial 138, 3) := by decide +kernel
theorem dX11_checkSubmission_24 : decode cX11_checkSubmission 24 = .ok (.athrow, 1) := by decide +kernel
theorem dX11_checkSubmission_25 : decode cX11_checkSubmission 25 = .ok (.iload_n 3, 1) := by decide +kernel
theorem dX11_checkSubmission_26 : decode cX11_checkSubmission 26 = .ok (.ifCond .lt 21, 3) := by decide +kernel
theorem dX11_checkSubmission_29 : decode cX11_checkSubmission 29 = .ok (.iload_n 3, 1) := by decide +kernel
theorem dX11_checkSubmission_30 : decode cX11_checkSubmission 30 = .ok (.sipush 500, 3) := by decide +kernel
theorem dX11_checkSubmission_33 : decode cX11_checkSubmission 33 = .ok (.if_icmp .gt 14, 3) := by decide +kernel
theorem dX11_checkSubmission_36 : decode cX11_checkSubmission 36 = .ok (.iload_n 3, 1) := by decide +kernel
theorem dX11_checkSubmission_37 : decode cX11_checkSubmission 37 = .ok (.aload_n 0, 1) := by decide +kernel
theorem dX11_checkSubmission_38 : decode cX11_checkSubmission 38 = .ok (.getfield 10, 3) := by decide +kernel
theorem dX11_checkSubmission_41 : decode cX11_checkSubmission 41 = .ok (.getfield 83, 3) := by decide +kernel
theorem dX11_checkSubmission_44 : decode cX11_checkSubmission 44 = .ok (.if_icmp .le 14, 3) := by decide +kernel
theorem dX11_checkSubmission_47 : decode cX11_checkSubmission 47 = .ok (.new 134, 3) := by decide +kernel
theorem dX11_checkSubmission_50 : decode cX11_checkSubmission 50 = .ok (.dup, 1) := by decide +kernel
theorem dX11_checkSubmission_51 : decode cX11_checkSubmission 51 = .ok (.ldc_w 461, 3) := by decide +kernel
theorem dX11_checkSubmission_54 : decode cX11_checkSubmission 54 = .ok (.invokespecial 138, 3) := by decide +kernel
theorem dX11_checkSubmission_57 : decode cX11_checkSubmission 57 = .ok (.athrow, 1) := by decide +kernel
theorem dX11_checkSubmission_58 : decode cX11_checkSubmission 58 = .ok (.return_, 1) := by decide +kernel
theorem rX11_checkSubmission_0 {G : kz_G} {d : Nat} {mc ms : Nat} {Qr : Option Value → kz_M → Prop} {Qx : String → kz_M → Prop} {a0 : Nat} {p1 : Int32} {p2 : Int32} {p3 : Int32}  {M : kz_M} (hG : kz_stat G) (h : (∃ fs13, (M).1 a0 = some (.inl (10, fs13))) ∧ ∃ mc3 ms3, 0 + mc3 ≤ mc ∧ 0 + ms3 ≤ ms ∧ kz_C G (d + 7) mc3 ms3 mX11_checkWriter [.ref a0, .int p1] M (fun v M1 => v = none ∧ ((p2 < 0 → 0 + mc3 + 1 ≤ mc ∧ 0 + ms3 + 6 ≤ ms ∧ ∀ g4, Qx "java/lang/IllegalArgumentException" ((M1).1, (M1).2 + g4)) ∧ (¬ p2 < 0 → (p2 ≤ (2 : Int32) → (p3 < 0 → 0 + mc3 + 1 ≤ mc ∧ 0 + ms3 + 6 ≤ ms ∧ ∀ g5, Qx "java/lang/IllegalArgumentException" ((M1).1, (M1).2 + g5)) ∧ (¬ p3 < 0 → ((500 : Int32) < p3 → 0 + mc3 + 1 ≤ mc ∧ 0 + ms3 + 6 ≤ ms ∧ ∀ g6, Qx "java/lang/IllegalArgumentException" ((M1).1, (M1).2 + g6)) ∧ (¬ (500 : Int32) < p3 → ∃ fs7 v8, (M1).1 a0 = some (.inl (10, fs7)) ∧ fs7[0]? = some (.ref v8) ∧ (∃ fs9 v10, (M1).1 v8 = some (.inl (1, fs9)) ∧ fs9[1]? = some (.int v10) ∧ ((p3 ≤ v10 → Qr none M1) ∧ (¬ p3 ≤ v10 → 0 + mc3 + 1 ≤ mc ∧ 0 + ms3 + 6 ≤ ms ∧ ∀ g11, Qx "java/lang/IllegalArgumentException" ((M1).1, (M1).2 + g11))))))) ∧ (¬ p2 ≤ (2 : Int32) → 0 + mc3 + 1 ≤ mc ∧ 0 + ms3 + 6 ≤ ms ∧ ∀ g12, Qx "java/lang/IllegalArgumentException" ((M1).1, (M1).2 + g12))))) Qx) : kz_C G (d + 8) mc ms mX11_checkSubmission [.ref a0, .int p1, .int p2, .int p3] M Qr Qx := by
  refine kz_enter (n := 3) kmX11_checkSubmission.1 (Nat.le_of_ble_eq_true rfl) (ls := [(0, .ref a0), (1, .int p1), (2, .int p2), (3, .int p3)]) rfl ?_
  refine kz_aload_n (pc := 0) 0 (v := .ref a0) (i := 0) rfl rfl rfl dX11_checkSubmission_0 ?_
  refine kz_iload_n (pc := 1) 1 (i := 1) rfl rfl dX11_checkSubmission_1 ?_
  obtain ⟨⟨fs13, he⟩, h⟩ := h
  obtain ⟨mc3, ms3, hc3, hs3, h⟩ := h
  refine kz_callV (pc := 2) (μ' := mX11_checkWriter) (ci := 10) (q := (RX11, TX11, 10)) (b := a0) (d' := d + 7) (mc' := mc3) (ms' := ms3) (As := [.int p1]) (st := []) (c := 0) (sl := 0) kmX11_checkWriter kw_827 (by omega) rfl (Nat.le_of_ble_eq_true rfl) he rfl rfl hc3 hs3 dX11_checkSubmission_2 (fun E M9 hx => kz_Tout rfl hc3 hs3 hx) (kz_Cmono (fun v M1 h => ?_) (fun _ _ h => h) h)
  obtain ⟨rfl, h⟩ := h
  show kz_Z G (d + 8) mc ms mX11_checkSubmission Qr Qx 5 [(0, .ref a0), (1, .int p1), (2, .int p2), (3, .int p3)] [] M1 (0 + mc3) (0 + ms3)
  refine kz_iload_n (pc := 5) 2 (i := 2) rfl rfl dX11_checkSubmission_5 ?_
  refine kz_if_lt (pc := 6) (tgt := 14) (by decide) dX11_checkSubmission_6 (fun hb => ?_) (fun hb => ?_)
  · replace h := h.1 hb
    exact kz_throwSW (pc := 14) (ik := 134) (is := 459) (ic := 138) (j := 1018) (text := "no such kind") hG.1 hG.2.1 hG.2.2.1 (by decide +kernel) kz_xn kw_746 kw_27 (List.mem_of_getElem? (i := 18) rfl) kz_xw_IllegalArgumentException kz_xg_IllegalArgumentException rfl (by show 2 + 3 < _; omega) (by decide) (Nat.le_of_ble_eq_true rfl) h.1 h.2.1 dX11_checkSubmission_14 dX11_checkSubmission_17 dX11_checkSubmission_18 dX11_checkSubmission_21 dX11_checkSubmission_24 h.2.2
  · replace h := h.2 hb
    refine kz_iload_n (pc := 9) 2 (i := 2) rfl rfl dX11_checkSubmission_9 ?_
    refine kz_iconst (pc := 10) (v := 2) (by decide) dX11_checkSubmission_10 ?_
    refine kz_icmp_le (pc := 11) (tgt := 25) (by decide) dX11_checkSubmission_11 (fun hb => ?_) (fun hb => ?_)
    · replace h := h.1 hb
      refine kz_iload_n (pc := 25) 3 (i := 3) rfl rfl dX11_checkSubmission_25 ?_
      refine kz_if_lt (pc := 26) (tgt := 47) (by decide) dX11_checkSubmission_26 (fun hb => ?_) (fun hb => ?_)
      · replace h := h.1 hb
        exact kz_throwSW (pc := 47) (ik := 134) (is := 461) (ic := 138) (j := 1019) (text := "no such length") hG.1 hG.2.1 hG.2.2.1 (by decide +kernel) kz_xn kw_746 kw_27 (List.mem_of_getElem? (i := 19) rfl) kz_xw_IllegalArgumentException kz_xg_IllegalArgumentException rfl (by show 2 + 3 < _; omega) (by decide) (Nat.le_of_ble_eq_true rfl) h.1 h.2.1 dX11_checkSubmission_47 dX11_checkSubmission_50 dX11_checkSubmission_51 dX11_checkSubmission_54 dX11_checkSubmission_57 h.2.2
      · replace h := h.2 hb
        refine kz_iload_n (pc := 29) 3 (i := 3) rfl rfl dX11_checkSubmission_29 ?_
        refine kz_sipush (pc := 30) (v := 500) (by decide) dX11_checkSubmission_30 ?_
        refine kz_icmp_gt (pc := 33) (tgt := 47) (by decide) dX11_checkSubmission_33 (fun hb => ?_) (fun hb => ?_)
        · replace h := h.1 hb
          exact kz_throwSW (pc := 47) (ik := 134) (is := 461) (ic := 138) (j := 1019) (text := "no such length") hG.1 hG.2.1 hG.2.2.1 (by decide +kernel) kz_xn kw_746 kw_27 (List.mem_of_getElem? (i := 19) rfl) kz_xw_IllegalArgumentException kz_xg_IllegalArgumentException rfl (by show 2 + 3 < _; omega) (by decide) (Nat.le_of_ble_eq_true rfl) h.1 h.2.1 dX11_checkSubmission_47 dX11_checkSubmission_50 dX11_checkSubmission_51 dX11_checkSubmission_54 dX11_checkSubmission_57 h.2.2
        · replace h := h.2 hb
          refine kz_iload_n (pc := 36) 3 (i := 3) rfl rfl dX11_checkSubmission_36 ?_
          refine kz_aload_n (pc := 37) 0 (v := .ref a0) (i := 0) rfl rfl rfl dX11_checkSubmission_37 ?_
          obtain ⟨fs7, v8, hM, hv, h⟩ := h
          refine kz_getf (pc := 38) (k := 0) kcX11 hM hv (by decide) kw_282 dX11_checkSubmission_38 ?_
          obtain ⟨fs9, v10, hM, hv, h⟩ := h
          refine kz_getf (pc := 41) (k := 1) kcX1 hM hv (by decide) kw_54 dX11_checkSubmission_41 ?_
          refine kz_icmp_le (pc := 44) (tgt := 58) (by decide) dX11_checkSubmission_44 (fun hb => ?_) (fun hb => ?_)
          · replace h := h.1 hb
            exact kz_vret (pc := 58) rfl hc3 hs3 dX11_checkSubmission_58 h
          · replace h := h.2 hb
            exact kz_throwSW (pc := 47) (ik := 134) (is := 461) (ic := 138) (j := 1019) (text := "no such length") hG.1 hG.2.1 hG.2.2.1 (by decide +kernel) kz_xn kw_746 kw_27 (List.mem_of_getElem? (i := 19) rfl) kz_xw_IllegalArgumentException kz_xg_IllegalArgumentException rfl (by show 2 + 3 < _; omega) (by decide) (Nat.le_of_ble_eq_true rfl) h.1 h.2.1 dX11_checkSubmission_47 dX11_checkSubmission_50 dX11_checkSubmission_51 dX11_checkSubmission_54 dX11_checkSubmission_57 h.2.2
    · replace h := h.2 hb
      exact kz_throwSW (pc := 14) (ik := 134) (is := 459) (ic := 138) (j := 1018) (text := "no such kind") hG.1 hG.2.1 hG.2.2.1 (by decide +kernel) kz_xn kw_746 kw_27 (List.mem_of_getElem? (i := 18) rfl) kz_xw_IllegalArgumentException kz_xg_IllegalArgumentException rfl (by show 2 + 3 < _; omega) (by decide) (Nat.le_of_ble_eq_true rfl) h.1 h.2.1 dX11_checkSubmission_14 dX11_checkSubmission_17 dX11_checkSubmission_18 dX11_checkSubmission_21 dX11_checkSubmission_24 h.2.2
theorem dX11_workOrThrow_0 : decode cX11_workOrThrow 0 = .ok (.aload_n 0, 1) := by decide +kernel
theorem dX11_workOrThrow_1 : decode cX11_workOrThrow 1 = .ok (.getfield 26, 3) := by decide +kernel
theorem dX11_workOrThrow_4 : decode cX11_workOrThrow 4 = .ok (.iload_n 1, 1) := by decide +kernel
theorem dX11_workOrThrow_5 : decode cX11_workOrThrow 5 = .ok (.invokevirtual 271, 3) := by decide +kernel
theorem dX11_workOrThrow_8 : decode cX11_workOrThrow 8 = .ok (.astore_n 2, 1) := by decide +kernel
theorem dX11_workOrThrow_9 : decode cX11_workOrThrow 9 = .ok (.aload_n 2, 1) := by decide +kernel
theorem dX11_workOrThrow_10 : decode cX11_workOrThrow 10 = .ok (.ifnonnull 14, 3) := by decide +kernel
theorem dX11_workOrThrow_13 : decode cX11_workOrThrow 13 = .ok (.new 232, 3) := by decide +kernel
theorem dX11_workOrThrow_16 : decode cX11_workOrThrow 16 = .ok (.dup, 1) := by decide +kernel
theorem dX11_workOrThrow_17 : decode cX11_workOrThrow 17 = .ok (.ldc_w 463, 3) := by decide +kernel
theorem dX11_workOrThrow_20 : decode cX11_workOrThrow 20 = .ok (.invokespecial 236, 3) := by decide +kernel
theorem dX11_workOrThrow_23 : decode cX11_workOrThrow 23 = .ok (.athrow, 1) := by decide +kernel
theorem dX11_workOrThrow_24 : decode cX11_workOrThrow 24 = .ok (.aload_n 2, 1) := by decide +kernel
theorem dX11_workOrThrow_25 : decode cX11_workOrThrow 25 = .ok (.areturn, 1) := by decide +kernel
theorem rX11_workOrThrow_0 {G : kz_G} {d : Nat} {mc ms : Nat} {Qr : Option Value → kz_M → Prop} {Qx : String → kz_M → Prop} {a0 : Nat} {p1 : Int32}  {M : kz_M} (hG : kz_stat G) (h : ∃ fs1 v2, (M).1 a0 = some (.inl (10, fs1)) ∧ fs1[2]? = some (.ref v2) ∧ ((∃ fs8, (M).1 v2 = some (.inl (8, fs8))) ∧ kz_C G (d + 6) 0 0 mX9_workAt [.ref v2, .int p1] M (fun v M3 => ∃ r4 : Option Nat, v = some (kz_rf r4) ∧ ((r4 = none → 0 + 1 ≤ mc ∧ 0 + 6 ≤ ms ∧ ∀ g7, Qx "java/lang/IndexOutOfBoundsException" ((M3).1, (M3).2 + g7)) ∧ (∀ y6, r4 = some y6 → Qr (some (.ref y6)) M3))) Qx)) : kz_C G (d + 7) mc ms mX11_workOrThrow [.ref a0, .int p1] M Qr Qx := by
  refine kz_enter (n := 1) kmX11_workOrThrow.1 (Nat.le_of_ble_eq_true rfl) (ls := [(0, .ref a0), (1, .int p1)]) rfl ?_
  refine kz_aload_n (pc := 0) 0 (v := .ref a0) (i := 0) rfl rfl rfl dX11_workOrThrow_0 ?_
  obtain ⟨fs1, v2, hM, hv, h⟩ := h
  refine kz_getf (pc := 1) (k := 2) kcX11 hM hv (by decide) kw_284 dX11_workOrThrow_1 ?_
  refine kz_iload_n (pc := 4) 1 (i := 1) rfl rfl dX11_workOrThrow_4 ?_
  obtain ⟨⟨fs8, he⟩, h⟩ := h
  refine kz_callV (pc := 5) (μ' := mX9_workAt) (ci := 8) (q := (RX9, TX9, 10)) (b := v2) (d' := d + 6) (mc' := 0) (ms' := 0) (As := [.int p1]) (st := []) (c := 0) (sl := 0) kmX9_workAt kw_963 (by omega) rfl (Nat.le_of_ble_eq_true rfl) he rfl rfl (Nat.zero_le _) (Nat.zero_le _) dX11_workOrThrow_5 (fun E M9 hx => kz_Tout rfl (Nat.zero_le _) (Nat.zero_le _) hx) (kz_Cmono (fun v M3 h => ?_) (fun _ _ h => h) h)
  obtain ⟨r4, rfl, h⟩ := h
  show kz_Z G (d + 7) mc ms mX11_workOrThrow Qr Qx 8 [(0, .ref a0), (1, .int p1)] [kz_rf r4] M3 0 0
  refine kz_astore_n (pc := 8) (i := 2) (v := kz_rf r4) (ls' := [(0, .ref a0), (1, .int p1)]) rfl (kz_isr_rf _) (by decide) rfl dX11_workOrThrow_8 ?_
  refine kz_aload_n (pc := 9) 0 (v := kz_rf r4) (i := 2) rfl rfl (kz_isr_rf _) dX11_workOrThrow_9 ?_
  rcases r4 with _ | y6
  · replace h := h.1 rfl
    refine kz_ifnonnull (pc := 10) (tgt := 24) rfl (by decide) dX11_workOrThrow_10 (fun hn => absurd rfl hn) (fun _ => ?_)
    exact kz_throwSW (pc := 13) (ik := 232) (is := 463) (ic := 236) (j := 1020) (text := "no such work") hG.1 hG.2.1 hG.2.2.1 (by decide +kernel) kz_xn kw_835 kw_28 (List.mem_of_getElem? (i := 20) rfl) kz_xw_IndexOutOfBoundsException kz_xg_IndexOutOfBoundsException rfl (by show 2 + 3 < _; omega) (by decide) (Nat.le_of_ble_eq_true rfl) h.1 h.2.1 dX11_workOrThrow_13 dX11_workOrThrow_16 dX11_workOrThrow_17 dX11_workOrThrow_20 dX11_workOrThrow_23 h.2.2
  · replace h := h.2 y6 rfl
    refine kz_ifnonnull (pc := 10) (tgt := 24) rfl (by decide) dX11_workOrThrow_10 (fun _ => ?_) (fun hn => by cases hn)
    refine kz_aload_n (pc := 24) 0 (v := .ref y6) (i := 2) rfl rfl rfl dX11_workOrThrow_24 ?_
    exact kz_aret (pc := 25) (v := .ref y6) rfl rfl (Or.inl ⟨_, rfl⟩) (Nat.zero_le _) (Nat.zero_le _) dX11_workOrThrow_25 h
theorem dX11_lineOrThrow_0 : decode cX11_lineOrThrow 0 = .ok (.aload_n 0, 1) := by decide +kernel
theorem dX11_lineOrThrow_1 : decode cX11_lineOrThrow 1 = .ok (.iload_n 1, 1) := by decide +kernel
theorem dX11_lineOrThrow_2 : decode cX11_lineOrThrow 2 = .ok (.invokevirtual 165, 3) := by decide +kernel
theorem dX11_lineOrThrow_5 : decode cX11_lineOrThrow 5 = .ok (.iload_n 2, 1) := by decide +kernel
theorem dX11_lineOrThrow_6 : decode cX11_lineOrThrow 6 = .ok (.invokevirtual 465, 3) := by decide +kernel
theorem dX11_lineOrThrow_9 : decode cX11_lineOrThrow 9 = .ok (.astore_n 3, 1) := by decide +kernel
theorem dX11_lineOrThrow_10 : decode cX11_lineOrThrow 10 = .ok (.aload_n 3, 1) := by decide +kernel
theorem dX11_lineOrThrow_11 : decode cX11_lineOrThrow 11 = .ok (.ifnonnull 14, 3) := by decide +kernel
theorem dX11_lineOrThrow_14 : decode cX11_lineOrThrow 14 = .ok (.new 232, 3) := by decide +kernel
theorem dX11_lineOrThrow_17 : decode cX11_lineOrThrow 17 = .ok (.dup, 1) := by decide +kernel
theorem dX11_lineOrThrow_18 : decode cX11_lineOrThrow 18 = .ok (.ldc_w 469, 3) := by decide +kernel
theorem dX11_lineOrThrow_21 : decode cX11_lineOrThrow 21 = .ok (.invokespecial 236, 3) := by decide +kernel
theorem dX11_lineOrThrow_24 : decode cX11_lineOrThrow 24 = .ok (.athrow, 1) := by decide +kernel
theorem dX11_lineOrThrow_25 : decode cX11_lineOrThrow 25 = .ok (.aload_n 3, 1) := by decide +kernel
theorem dX11_lineOrThrow_26 : decode cX11_lineOrThrow 26 = .ok (.areturn, 1) := by decide +kernel
theorem rX11_lineOrThrow_0 {G : kz_G} {d : Nat} {mc ms : Nat} {Qr : Option Value → kz_M → Prop} {Qx : String → kz_M → Prop} {a0 : Nat} {p1 : Int32} {p2 : Int32}  {M : kz_M} (hG : kz_stat G) (h : (∃ fs10, (M).1 a0 = some (.inl (10, fs10))) ∧ ∃ mc3 ms3, 0 + mc3 ≤ mc ∧ 0 + ms3 ≤ ms ∧ kz_C G (d + 7) mc3 ms3 mX11_workOrThrow [.ref a0, .int p1] M (fun v M1 => ∃ r2 : Nat, v = some (.ref r2) ∧ ((∃ fs9, (M1).1 r2 = some (.inl (9, fs9))) ∧ kz_C G (d + 7) 0 0 mX10_lineAt [.ref r2, .int p2] M1 (fun v M4 => ∃ r5 : Option Nat, v = some (kz_rf r5) ∧ ((r5 = none → 0 + mc3 + 1 ≤ mc ∧ 0 + ms3 + 6 ≤ ms ∧ ∀ g8, Qx "java/lang/IndexOutOfBoundsException" ((M4).1, (M4).2 + g8)) ∧ (∀ y7, r5 = some y7 → Qr (some (.ref y7)) M4))) Qx)) Qx) : kz_C G (d + 8) mc ms mX11_lineOrThrow [.ref a0, .int p1, .int p2] M Qr Qx := by
  refine kz_enter (n := 2) kmX11_lineOrThrow.1 (Nat.le_of_ble_eq_true rfl) (ls := [(0, .ref a0), (1, .int p1), (2, .int p2)]) rfl ?_
  refine kz_aload_n (pc := 0) 0 (v := .ref a0) (i := 0) rfl rfl rfl dX11_lineOrThrow_0 ?_
  refine kz_iload_n (pc := 1) 1 (i := 1) rfl rfl dX11_lineOrThrow_1 ?_
  obtain ⟨⟨fs10, he⟩, h⟩ := h
  obtain ⟨mc3, ms3, hc3, hs3, h⟩ := h
  refine kz_callV (pc := 2) (μ' := mX11_workOrThrow) (ci := 10) (q := (RX11, TX11, 10)) (b := a0) (d' := d + 7) (mc' := mc3) (ms' := ms3) (As := [.int p1]) (st := []) (c := 0) (sl := 0) kmX11_workOrThrow kw_959 (by omega) rfl (Nat.le_of_ble_eq_true rfl) he rfl rfl hc3 hs3 dX11_lineOrThrow_2 (fun E M9 hx => kz_Tout rfl hc3 hs3 hx) (kz_Cmono (fun v M1 h => ?_) (fun _ _ h => h) h)
  obtain ⟨r2, rfl, h⟩ := h
  show kz_Z G (d + 8) mc ms mX11_lineOrThrow Qr Qx 5 [(0, .ref a0), (1, .int p1), (2, .int p2)] [.ref r2] M1 (0 + mc3) (0 + ms3)
  refine kz_iload_n (pc := 5) 2 (i := 2) rfl rfl dX11_lineOrThrow_5 ?_
  obtain ⟨⟨fs9, he⟩, h⟩ := h
  refine kz_callV (pc := 6) (μ' := mX10_lineAt) (ci := 9) (q := (RX10, TX10, 4)) (b := r2) (d' := d + 7) (mc' := 0) (ms' := 0) (As := [.int p2]) (st := []) (c := 0 + mc3) (sl := 0 + ms3) kmX10_lineAt kw_987 (by omega) rfl (Nat.le_of_ble_eq_true rfl) he rfl rfl hc3 hs3 dX11_lineOrThrow_6 (fun E M9 hx => kz_Tout rfl hc3 hs3 hx) (kz_Cmono (fun v M4 h => ?_) (fun _ _ h => h) h)
  obtain ⟨r5, rfl, h⟩ := h
  show kz_Z G (d + 8) mc ms mX11_lineOrThrow Qr Qx 9 [(0, .ref a0), (1, .int p1), (2, .int p2)] [kz_rf r5] M4 (0 + mc3) (0 + ms3)
  refine kz_astore_n (pc := 9) (i := 3) (v := kz_rf r5) (ls' := [(0, .ref a0), (1, .int p1), (2, .int p2)]) rfl (kz_isr_rf _) (by decide) rfl dX11_lineOrThrow_9 ?_
  refine kz_aload_n (pc := 10) 0 (v := kz_rf r5) (i := 3) rfl rfl (kz_isr_rf _) dX11_lineOrThrow_10 ?_
  rcases r5 with _ | y7
  · replace h := h.1 rfl
    refine kz_ifnonnull (pc := 11) (tgt := 25) rfl (by decide) dX11_lineOrThrow_11 (fun hn => absurd rfl hn) (fun _ => ?_)
    exact kz_throwSW (pc := 14) (ik := 232) (is := 469) (ic := 236) (j := 1021) (text := "no such line") hG.1 hG.2.1 hG.2.2.1 (by decide +kernel) kz_xn kw_835 kw_28 (List.mem_of_getElem? (i := 21) rfl) kz_xw_IndexOutOfBoundsException kz_xg_IndexOutOfBoundsException rfl (by show 2 + 3 < _; omega) (by decide) (Nat.le_of_ble_eq_true rfl) h.1 h.2.1 dX11_lineOrThrow_14 dX11_lineOrThrow_17 dX11_lineOrThrow_18 dX11_lineOrThrow_21 dX11_lineOrThrow_24 h.2.2
  · replace h := h.2 y7 rfl
    refine kz_ifnonnull (pc := 11) (tgt := 25) rfl (by decide) dX11_lineOrThrow_11 (fun _ => ?_) (fun hn => by cases hn)
    refine kz_aload_n (pc := 25) 0 (v := .ref y7) (i := 3) rfl rfl rfl dX11_lineOrThrow_25 ?_
    exact kz_aret (pc := 26) (v := .ref y7) rfl rfl (Or.inl ⟨_, rfl⟩) hc3 hs3 dX11_lineOrThrow_26 h
theorem dX11_judged_0 : decode cX11_judged 0 = .ok (.new 170, 3) := by decide +kernel
theorem dX11_judged_3 : decode cX11_judged 3 = .ok (.dup, 1) := by decide +kernel
theorem dX11_judged_4 : decode cX11_judged 4 = .ok (.iload_n 2, 1) := by decide +kernel
theorem dX11_judged_5 : decode cX11_judged 5 = .ok (.aload_n 0, 1) := by decide +kernel
theorem dX11_judged_6 : decode cX11_judged 6 = .ok (.getfield 26, 3) := by decide +kernel
theorem dX11_judged_9 : decode cX11_judged 9 = .ok (.getfield 114, 3) := by decide +kernel
theorem dX11_judged_12 : decode cX11_judged 12 = .ok (.aload_n 1, 1) := by decide +kernel
theorem dX11_judged_13 : decode cX11_judged 13 = .ok (.aload_n 3, 1) := by decide +kernel
theorem dX11_judged_14 : decode cX11_judged 14 = .ok (.iconst 0, 1) := by decide +kernel
theorem dX11_judged_15 : decode cX11_judged 15 = .ok (.invokestatic 471, 3) := by decide +kernel
theorem dX11_judged_18 : decode cX11_judged 18 = .ok (.aload_n 3, 1) := by decide +kernel
theorem dX11_judged_19 : decode cX11_judged 19 = .ok (.bipush 7, 2) := by decide +kernel
theorem dX11_judged_21 : decode cX11_judged 21 = .ok (.aload_n 1, 1) := by decide +kernel
theorem dX11_judged_22 : decode cX11_judged 22 = .ok (.getfield 178, 3) := by decide +kernel
theorem dX11_judged_25 : decode cX11_judged 25 = .ok (.iadd, 1) := by decide +kernel
theorem dX11_judged_26 : decode cX11_judged 26 = .ok (.invokestatic 471, 3) := by decide +kernel
theorem dX11_judged_29 : decode cX11_judged 29 = .ok (.invokespecial 475, 3) := by decide +kernel
theorem dX11_judged_32 : decode cX11_judged 32 = .ok (.astore 5, 2) := by decide +kernel
theorem dX11_judged_34 : decode cX11_judged 34 = .ok (.aload_n 0, 1) := by decide +kernel
theorem dX11_judged_35 : decode cX11_judged 35 = .ok (.getfield 26, 3) := by decide +kernel
theorem dX11_judged_38 : decode cX11_judged 38 = .ok (.aload_n 0, 1) := by decide +kernel
theorem dX11_judged_39 : decode cX11_judged 39 = .ok (.getfield 50, 3) := by decide +kernel
theorem dX11_judged_42 : decode cX11_judged 42 = .ok (.iload_n 2, 1) := by decide +kernel
theorem dX11_judged_43 : decode cX11_judged 43 = .ok (.iload 4, 2) := by decide +kernel
theorem dX11_judged_45 : decode cX11_judged 45 = .ok (.invokevirtual 249, 3) := by decide +kernel
theorem dX11_judged_48 : decode cX11_judged 48 = .ok (.aload 5, 2) := by decide +kernel
theorem dX11_judged_50 : decode cX11_judged 50 = .ok (.getfield 478, 3) := by decide +kernel
theorem dX11_judged_53 : decode cX11_judged 53 = .ok (.astore 6, 2) := by decide +kernel
theorem dX11_judged_55 : decode cX11_judged 55 = .ok (.aload 6, 2) := by decide +kernel
theorem dX11_judged_57 : decode cX11_judged 57 = .ok (.arraylength, 1) := by decide +kernel
theorem dX11_judged_58 : decode cX11_judged 58 = .ok (.istore 7, 2) := by decide +kernel
theorem dX11_judged_60 : decode cX11_judged 60 = .ok (.iconst 0, 1) := by decide +kernel
theorem dX11_judged_61 : decode cX11_judged 61 = .ok (.istore 8, 2) := by decide +kernel
theorem dX11_judged_63 : decode cX11_judged 63 = .ok (.iload 8, 2) := by decide +kernel
theorem dX11_judged_65 : decode cX11_judged 65 = .ok (.iload 7, 2) := by decide +kernel
theorem dX11_judged_67 : decode cX11_judged 67 = .ok (.if_icmp .ge 54, 3) := by decide +kernel
theorem dX11_judged_70 : decode cX11_judged 70 = .ok (.aload 6, 2) := by decide +kernel
theorem dX11_judged_72 : decode cX11_judged 72 = .ok (.iload 8, 2) := by decide +kernel
theorem dX11_judged_74 : decode cX11_judged 74 = .ok (.aaload, 1) := by decide +kernel
theorem dX11_judged_75 : decode cX11_judged 75 = .ok (.astore 9, 2) := by decide +kernel
theorem dX11_judged_77 : decode cX11_judged 77 = .ok (.aload 9, 2) := by decide +kernel
theorem dX11_judged_79 : decode cX11_judged 79 = .ok (.ifnull 36, 3) := by decide +kernel
theorem dX11_judged_82 : decode cX11_judged 82 = .ok (.aload 9, 2) := by decide +kernel
theorem dX11_judged_84 : decode cX11_judged 84 = .ok (.aload_n 0, 1) := by decide +kernel
theorem dX11_judged_85 : decode cX11_judged 85 = .ok (.getfield 50, 3) := by decide +kernel
theorem dX11_judged_88 : decode cX11_judged 88 = .ok (.aload 9, 2) := by decide +kernel
theorem dX11_judged_90 : decode cX11_judged 90 = .ok (.aload_n 3, 1) := by decide +kernel
theorem dX11_judged_91 : decode cX11_judged 91 = .ok (.iconst 1, 1) := by decide +kernel
theorem dX11_judged_92 : decode cX11_judged 92 = .ok (.invokestatic 471, 3) := by decide +kernel
theorem dX11_judged_95 : decode cX11_judged 95 = .ok (.aload_n 3, 1) := by decide +kernel
theorem dX11_judged_96 : decode cX11_judged 96 = .ok (.iconst 2, 1) := by decide +kernel
theorem dX11_judged_97 : decode cX11_judged 97 = .ok (.invokestatic 471, 3) := by decide +kernel
theorem dX11_judged_100 : decode cX11_judged 100 = .ok (.invokevirtual 482, 3) := by decide +kernel
theorem dX11_judged_103 : decode cX11_judged 103 = .ok (.invokevirtual 486, 3) := by decide +kernel
theorem dX11_judged_106 : decode cX11_judged 106 = .ok (.aload_n 0, 1) := by decide +kernel
theorem dX11_judged_107 : decode cX11_judged 107 = .ok (.getfield 50, 3) := by decide +kernel
theorem dX11_judged_110 : decode cX11_judged 110 = .ok (.aload 9, 2) := by decide +kernel
theorem dX11_judged_112 : decode cX11_judged 112 = .ok (.invokevirtual 489, 3) := by decide +kernel
theorem dX11_judged_115 : decode cX11_judged 115 = .ok (.iinc 8 1, 3) := by decide +kernel
theorem dX11_judged_118 : decode cX11_judged 118 = .ok (.goto (-55), 3) := by decide +kernel
theorem dX11_judged_121 : decode cX11_judged 121 = .ok (.aload 5, 2) := by decide +kernel
theorem dX11_judged_123 : decode cX11_judged 123 = .ok (.areturn, 1) := by decide +kernel
def zX11_judged_63 (G : kz_G) (d mc ms : Nat) (Qr : Option Value → kz_M → Prop) (Qx : String → kz_M → Prop) (x0 : Nat) (x3 : Nat) (x5 : Nat) (x6 : Nat) (x7 : Int32) (x8 : Int32)  (M : kz_M) (c sl : Nat) : Prop := kz_Z G (d + 6) mc ms mX11_judged Qr Qx 63 [(0, .ref x0), (3, .ref x3), (5, .ref x5), (6, .ref x6), (7, .int x7), (8, .int x8)] [] M c sl
theorem rX11_judged_0 {G : kz_G} {d : Nat} {mc ms : Nat} {Qr : Option Value → kz_M → Prop} {Qx : String → kz_M → Prop} {a0 : Nat} {p1 : Nat} {p2 : Int32} {p3 : Nat} {p4 : Int32}  {M : kz_M} (h : 0 + 1 ≤ mc ∧ 0 + 4 ≤ ms ∧ (∃ fs2 v3, ((kz_nw M (.inl (9, [.int 0, .int 0, .null, .null])))).1 a0 = some (.inl (10, fs2)) ∧ fs2[2]? = some (.ref v3) ∧ (∃ fs4 v5, ((kz_nw M (.inl (9, [.int 0, .int 0, .null, .null])))).1 v3 = some (.inl (8, fs4)) ∧ fs4[0]? = some (.int v5) ∧ (kz_C G (d + 5) 0 0 mX11_at [.ref p3, .int 0] (kz_nw M (.inl (9, [.int 0, .int 0, .null, .null]))) (fun v M6 => ∃ r7 : Int32, v = some (.int r7) ∧ (∃ fs9 v10, (M6).1 p1 = some (.inl (6, fs9)) ∧ fs9[0]? = some (.int v10) ∧ (kz_C G (d + 5) 0 0 mX11_at [.ref p3, .int (7 + v10)] M6 (fun v M11 => ∃ r12 : Int32, v = some (.int r12) ∧ (∃ mc16 ms16, 0 + 1 + mc16 ≤ mc ∧ 0 + 4 + ms16 ≤ ms ∧ kz_C G (d + 5) mc16 ms16 mX10_init [.ref ((M).2), .int p2, .int v5, .ref p1, .int r7, .int r12] M11 (fun v M14 => v = none ∧ (∃ fs17 v18, (M14).1 a0 = some (.inl (10, fs17)) ∧ fs17[2]? = some (.ref v18) ∧ (∃ fs19 v20, (M14).1 a0 = some (.inl (10, fs19)) ∧ fs19[6]? = some (.ref v20) ∧ ((∃ fs28, (M14).1 v18 = some (.inl (8, fs28))) ∧ kz_C G (d + 5) 0 0 mX9_collect [.ref v18, .ref v20, .int p2, .int p4] M14 (fun v M21 => v = none ∧ (∃ fs24 v25, (M21).1 ((M).2) = some (.inl (9, fs24)) ∧ fs24[3]? = some (.ref v25) ∧ (∃ ty26 A27, (M21).1 v25 = some (.inr (ty26, A27)) ∧ (zX11_judged_63 G d mc ms Qr Qx a0 p3 ((M).2) v25 (Int32.ofNat A27.1) 0 M21 (0 + 1 + mc16) (0 + 4 + ms16))))) Qx)))) Qx)) Qx))) Qx)))) : kz_C G (d + 6) mc ms mX11_judged [.ref a0, .ref p1, .int p2, .ref p3, .int p4] M Qr Qx := by
  refine kz_enter (n := 4) kmX11_judged.1 (Nat.le_of_ble_eq_true rfl) (ls := [(0, .ref a0), (1, .ref p1), (2, .int p2), (3, .ref p3), (4, .int p4)]) rfl ?_
  obtain ⟨hc1, hs1, h⟩ := h
  refine kz_newc (pc := 0) kcX10 rfl kw_1118 kw_1119 kw_31 hc1 hs1 dX11_judged_0 ?_
  refine kz_dup (pc := 3) rfl dX11_judged_3 ?_
  refine kz_iload_n (pc := 4) 2 (i := 2) rfl rfl dX11_judged_4 ?_
  refine kz_aload_n (pc := 5) 0 (v := .ref a0) (i := 0) rfl rfl rfl dX11_judged_5 ?_
  obtain ⟨fs2, v3, hM, hv, h⟩ := h
  refine kz_getf (pc := 6) (k := 2) kcX11 hM hv (by decide) kw_284 dX11_judged_6 ?_
  obtain ⟨fs4, v5, hM, hv, h⟩ := h
  refine kz_getf (pc := 9) (k := 0) kcX9 hM hv (by decide) kw_108 dX11_judged_9 ?_
  refine kz_aload_n (pc := 12) 1 (v := .ref p1) (i := 1) rfl rfl rfl dX11_judged_12 ?_
  refine kz_aload_n (pc := 13) 3 (v := .ref p3) (i := 3) rfl rfl rfl dX11_judged_13 ?_
  refine kz_iconst (pc := 14) (v := 0) (by decide) dX11_judged_14 ?_
  refine kz_callS (pc := 15) (μ' := mX11_at) (d' := d + 5) (mc' := 0) (ms' := 0) (As := [.ref p3, .int 0]) (st := [.ref p1, .int v5, .int p2, .ref ((M).2), .ref ((M).2)]) (c := 0 + 1) (sl := 0 + 4) kmX11_at kw_1120 (by omega) rfl (Nat.le_of_ble_eq_true rfl) hc1 hs1 dX11_judged_15 (fun E M9 hx => kz_Tout rfl hc1 hs1 hx) (kz_Cmono (fun v M6 h => ?_) (fun _ _ h => h) h)
  obtain ⟨r7, rfl, h⟩ := h
  show kz_Z G (d + 6) mc ms mX11_judged Qr Qx 18 [(0, .ref a0), (1, .ref p1), (2, .int p2), (3, .ref p3), (4, .int p4)] [.int r7, .ref p1, .int v5, .int p2, .ref ((M).2), .ref ((M).2)] M6 (0 + 1) (0 + 4)
  refine kz_aload_n (pc := 18) 3 (v := .ref p3) (i := 3) rfl rfl rfl dX11_judged_18 ?_
  refine kz_bipush (pc := 19) (v := 7) (by decide) dX11_judged_19 ?_
  refine kz_aload_n (pc := 21) 1 (v := .ref p1) (i := 1) rfl rfl rfl dX11_judged_21 ?_
  obtain ⟨fs9, v10, hM, hv, h⟩ := h
  refine kz_getf (pc := 22) (k := 0) kcX6 hM hv (by decide) kw_1098 dX11_judged_22 ?_
  refine kz_iadd (pc := 25) dX11_judged_25 ?_
  refine kz_callS (pc := 26) (μ' := mX11_at) (d' := d + 5) (mc' := 0) (ms' := 0) (As := [.ref p3, .int (7 + v10)]) (st := [.int r7, .ref p1, .int v5, .int p2, .ref ((M).2), .ref ((M).2)]) (c := 0 + 1) (sl := 0 + 4) kmX11_at kw_1120 (by omega) rfl (Nat.le_of_ble_eq_true rfl) hc1 hs1 dX11_judged_26 (fun E M9 hx => kz_Tout rfl hc1 hs1 hx) (kz_Cmono (fun v M11 h => ?_) (fun _ _ h => h) h)
  obtain ⟨r12, rfl, h⟩ := h
  show kz_Z G (d + 6) mc ms mX11_judged Qr Qx 29 [(0, .ref a0), (1, .ref p1), (2, .int p2), (3, .ref p3), (4, .int p4)] [.int r12, .int r7, .ref p1, .int v5, .int p2, .ref ((M).2), .ref ((M).2)] M11 (0 + 1) (0 + 4)
  obtain ⟨mc16, ms16, hc16, hs16, h⟩ := h
  refine kz_callI (pc := 29) (μ' := mX10_init) (b := (M).2) (d' := d + 5) (mc' := mc16) (ms' := ms16) (As := [.int p2, .int v5, .ref p1, .int r7, .int r12]) (st := [.ref ((M).2)]) (c := 0 + 1) (sl := 0 + 4) kmX10_init kw_1121 (by omega) rfl (Nat.le_of_ble_eq_true rfl) hc16 hs16 dX11_judged_29 (fun E M9 hx => kz_Tout rfl hc16 hs16 hx) (kz_Cmono (fun v M14 h => ?_) (fun _ _ h => h) h)
  obtain ⟨rfl, h⟩ := h
  show kz_Z G (d + 6) mc ms mX11_judged Qr Qx 32 [(0, .ref a0), (1, .ref p1), (2, .int p2), (3, .ref p3), (4, .int p4)] [.ref ((M).2)] M14 (0 + 1 + mc16) (0 + 4 + ms16)
  refine kz_astore (pc := 32) (i := 5) (v := .ref ((M).2)) (ls' := [(0, .ref a0), (1, .ref p1), (2, .int p2), (3, .ref p3), (4, .int p4)]) rfl (by decide) rfl dX11_judged_32 ?_
  refine kz_aload_n (pc := 34) 1 (v := .ref a0) (i := 0) rfl rfl rfl dX11_judged_34 ?_
  obtain ⟨fs17, v18, hM, hv, h⟩ := h
  refine kz_getf (pc := 35) (k := 2) kcX11 hM hv (by decide) kw_284 dX11_judged_35 ?_
  refine kz_aload_n (pc := 38) 1 (v := .ref a0) (i := 0) rfl rfl rfl dX11_judged_38 ?_
  obtain ⟨fs19, v20, hM, hv, h⟩ := h
  refine kz_getf (pc := 39) (k := 6) kcX11 hM hv (by decide) kw_288 dX11_judged_39 ?_
  refine kz_iload_n (pc := 42) 3 (i := 2) rfl rfl dX11_judged_42 ?_
  refine kz_iload (pc := 43) 5 (i := 4) rfl dX11_judged_43 ?_
  obtain ⟨⟨fs28, he⟩, h⟩ := h
  refine kz_callV (pc := 45) (μ' := mX9_collect) (ci := 8) (q := (RX9, TX9, 10)) (b := v18) (d' := d + 5) (mc' := 0) (ms' := 0) (As := [.ref v20, .int p2, .int p4]) (st := []) (c := 0 + 1 + mc16) (sl := 0 + 4 + ms16) kmX9_collect kw_868 (by omega) rfl (Nat.le_of_ble_eq_true rfl) he rfl rfl hc16 hs16 dX11_judged_45 (fun E M9 hx => kz_Tout rfl hc16 hs16 hx) (kz_Cmono (fun v M21 h => ?_) (fun _ _ h => h) h)
  obtain ⟨rfl, h⟩ := h
  show kz_Z G (d + 6) mc ms mX11_judged Qr Qx 48 [(5, .ref ((M).2)), (0, .ref a0), (1, .ref p1), (2, .int p2), (3, .ref p3), (4, .int p4)] [] M21 (0 + 1 + mc16) (0 + 4 + ms16)
  refine kz_aload (pc := 48) 0 (v := .ref ((M).2)) (i := 5) rfl rfl dX11_judged_48 ?_
  obtain ⟨fs24, v25, hM, hv, h⟩ := h
  refine kz_getf (pc := 50) (k := 3) kcX10 hM hv (by decide) kw_1197 dX11_judged_50 ?_
  refine kz_astore (pc := 53) (i := 6) (v := .ref v25) (ls' := [(5, .ref ((M).2)), (0, .ref a0), (1, .ref p1), (2, .int p2), (3, .ref p3), (4, .int p4)]) rfl (by decide) rfl dX11_judged_53 ?_
  refine kz_aload (pc := 55) 0 (v := .ref v25) (i := 6) rfl rfl dX11_judged_55 ?_
  obtain ⟨ty26, A27, hM, h⟩ := h
  refine kz_alen (pc := 57) hM rfl dX11_judged_57 ?_
  refine kz_istore (pc := 58) (i := 7) (ls' := [(6, .ref v25), (5, .ref ((M).2)), (0, .ref a0), (1, .ref p1), (2, .int p2), (3, .ref p3), (4, .int p4)]) (by decide) rfl dX11_judged_58 ?_
  refine kz_iconst (pc := 60) (v := 0) (by decide) dX11_judged_60 ?_
  refine kz_istore (pc := 61) (i := 8) (ls' := [(7, .int (Int32.ofNat A27.1)), (6, .ref v25), (5, .ref ((M).2)), (0, .ref a0), (1, .ref p1), (2, .int p2), (3, .ref p3), (4, .int p4)]) (by decide) rfl dX11_judged_61 ?_
  refine kz_sub [4, 7, 3, 2, 1, 0] rfl ?_
  exact h
theorem rX11_judged_63 {G : kz_G} {d : Nat} {mc ms : Nat} {Qr : Option Value → kz_M → Prop} {Qx : String → kz_M → Prop} {x0 : Nat} {x3 : Nat} {x5 : Nat} {x6 : Nat} {x7 : Int32} {x8 : Int32}  {M : kz_M} {c sl : Nat} (hc : c ≤ mc) (hs : sl ≤ ms) (h : (x7 ≤ x8 → Qr (some (.ref x5)) M) ∧ (¬ x7 ≤ x8 → ∃ n1 f2, (M).1 x6 = some (.inr (.object "LineOffice$Line", n1, .inr (.inr (.inr (.inr f2))))) ∧ vp_in x8 n1 ∧ (∀ o3 : Option Nat, f2 x8.toNatClampNeg = o3 → (o3 = none → zX11_judged_63 G d mc ms Qr Qx x0 x3 x5 x6 x7 (x8 + 1) M c sl) ∧ (∀ y4, o3 = some y4 → ∃ fs5 v6, (M).1 x0 = some (.inl (10, fs5)) ∧ fs5[6]? = some (.ref v6) ∧ (kz_C G (d + 5) 0 0 mX11_at [.ref x3, .int 1] M (fun v M7 => ∃ r8 : Int32, v = some (.int r8) ∧ (kz_C G (d + 5) 0 0 mX11_at [.ref x3, .int 2] M7 (fun v M10 => ∃ r11 : Int32, v = some (.int r11) ∧ ((∃ fs26, (M10).1 v6 = some (.inl (5, fs26))) ∧ kz_C G (d + 5) 0 0 mX5_reasonAgainst [.ref v6, .ref y4, .int r8, .int r11] M10 (fun v M13 => ∃ r14 : Int32, v = some (.int r14) ∧ ((∃ fs25, (M13).1 y4 = some (.inl (3, fs25))) ∧ kz_C G (d + 5) 0 0 mX3_judge [.ref y4, .int r14] M13 (fun v M16 => v = none ∧ (∃ fs19 v20, (M16).1 x0 = some (.inl (10, fs19)) ∧ fs19[6]? = some (.ref v20) ∧ ((∃ fs24, (M16).1 v20 = some (.inl (5, fs24))) ∧ kz_C G (d + 5) 0 0 mX5_addIfItCounts [.ref v20, .ref y4] M16 (fun v M21 => v = none ∧ (zX11_judged_63 G d mc ms Qr Qx x0 x3 x5 x6 x7 (x8 + 1) M21 c sl)) Qx))) Qx)) Qx)) Qx)) Qx))))) : zX11_judged_63 G d mc ms Qr Qx x0 x3 x5 x6 x7 x8  M c sl := by
  show kz_Z G (d + 6) mc ms mX11_judged Qr Qx 63 [(0, .ref x0), (3, .ref x3), (5, .ref x5), (6, .ref x6), (7, .int x7), (8, .int x8)] [] M c sl
  refine kz_iload (pc := 63) 5 (i := 8) rfl dX11_judged_63 ?_
  refine kz_iload (pc := 65) 4 (i := 7) rfl dX11_judged_65 ?_
  refine kz_icmp_ge (pc := 67) (tgt := 121) (by decide) dX11_judged_67 (fun hb => ?_) (fun hb => ?_)
  · replace h := h.1 hb
    refine kz_aload (pc := 121) 2 (v := .ref x5) (i := 5) rfl rfl dX11_judged_121 ?_
    exact kz_aret (pc := 123) (v := .ref x5) rfl rfl (Or.inl ⟨_, rfl⟩) hc hs dX11_judged_123 h
  · replace h := h.2 hb
    refine kz_aload (pc := 70) 3 (v := .ref x6) (i := 6) rfl rfl dX11_judged_70 ?_
    refine kz_iload (pc := 72) 5 (i := 8) rfl dX11_judged_72 ?_
    obtain ⟨n1, f2, hM, hi, h⟩ := h
    refine kz_aald (pc := 74) hM hi dX11_judged_74 ?_
    generalize ho : f2 x8.toNatClampNeg = o3 at h ⊢
    replace h := h _ rfl
    refine kz_astore (pc := 75) (i := 9) (v := kz_rf o3) (ls' := [(0, .ref x0), (3, .ref x3), (5, .ref x5), (6, .ref x6), (7, .int x7), (8, .int x8)]) (kz_isr_rf _) (by decide) rfl dX11_judged_75 ?_
    refine kz_aload (pc := 77) 0 (v := kz_rf o3) (i := 9) rfl (kz_isr_rf _) dX11_judged_77 ?_
    rcases o3 with _ | y4
    · replace h := h.1 rfl
      refine kz_ifnull (pc := 79) (tgt := 115) rfl (by decide) dX11_judged_79 (fun _ => ?_) (fun hn => absurd rfl hn)
      refine kz_iinc (pc := 115) 6 (i := 8) (v := x8 + 1) (ls' := [(9, .null), (0, .ref x0), (3, .ref x3), (5, .ref x5), (6, .ref x6), (7, .int x7)]) rfl (congrArg (fun z => x8 + z) (by decide)) (by decide) rfl dX11_judged_115 ?_
      refine kz_goto (pc := 118) (tgt := 63) (by decide) dX11_judged_118 ?_
      refine kz_sub [2, 3, 4, 5, 6, 0] rfl ?_
      exact h
    · replace h := h.2 y4 rfl
      refine kz_ifnull (pc := 79) (tgt := 115) rfl (by decide) dX11_judged_79 (fun hn => by cases hn) (fun _ => ?_)
      refine kz_aload (pc := 82) 0 (v := .ref y4) (i := 9) rfl rfl dX11_judged_82 ?_
      refine kz_aload_n (pc := 84) 1 (v := .ref x0) (i := 0) rfl rfl rfl dX11_judged_84 ?_
      obtain ⟨fs5, v6, hM, hv, h⟩ := h
      refine kz_getf (pc := 85) (k := 6) kcX11 hM hv (by decide) kw_288 dX11_judged_85 ?_
      refine kz_aload (pc := 88) 0 (v := .ref y4) (i := 9) rfl rfl dX11_judged_88 ?_
      refine kz_aload_n (pc := 90) 2 (v := .ref x3) (i := 3) rfl rfl rfl dX11_judged_90 ?_
      refine kz_iconst (pc := 91) (v := 1) (by decide) dX11_judged_91 ?_
      refine kz_callS (pc := 92) (μ' := mX11_at) (d' := d + 5) (mc' := 0) (ms' := 0) (As := [.ref x3, .int 1]) (st := [.ref y4, .ref v6, .ref y4]) (c := c) (sl := sl) kmX11_at kw_1120 (by omega) rfl (Nat.le_of_ble_eq_true rfl) hc hs dX11_judged_92 (fun E M9 hx => kz_Tout rfl hc hs hx) (kz_Cmono (fun v M7 h => ?_) (fun _ _ h => h) h)
      obtain ⟨r8, rfl, h⟩ := h
      show kz_Z G (d + 6) mc ms mX11_judged Qr Qx 95 [(9, .ref y4), (0, .ref x0), (3, .ref x3), (5, .ref x5), (6, .ref x6), (7, .int x7), (8, .int x8)] [.int r8, .ref y4, .ref v6, .ref y4] M7 c sl
      refine kz_aload_n (pc := 95) 2 (v := .ref x3) (i := 3) rfl rfl rfl dX11_judged_95 ?_
      refine kz_iconst (pc := 96) (v := 2) (by decide) dX11_judged_96 ?_
      refine kz_callS (pc := 97) (μ' := mX11_at) (d' := d + 5) (mc' := 0) (ms' := 0) (As := [.ref x3, .int 2]) (st := [.int r8, .ref y4, .ref v6, .ref y4]) (c := c) (sl := sl) kmX11_at kw_1120 (by omega) rfl (Nat.le_of_ble_eq_true rfl) hc hs dX11_judged_97 (fun E M9 hx => kz_Tout rfl hc hs hx) (kz_Cmono (fun v M10 h => ?_) (fun _ _ h => h) h)
      obtain ⟨r11, rfl, h⟩ := h
      show kz_Z G (d + 6) mc ms mX11_judged Qr Qx 100 [(9, .ref y4), (0, .ref x0), (3, .ref x3), (5, .ref x5), (6, .ref x6), (7, .int x7), (8, .int x8)] [.int r11, .int r8, .ref y4, .ref v6, .ref y4] M10 c sl
      obtain ⟨⟨fs26, he⟩, h⟩ := h
      refine kz_callV (pc := 100) (μ' := mX5_reasonAgainst) (ci := 5) (q := (RX5, TX5, 2)) (b := v6) (d' := d + 5) (mc' := 0) (ms' := 0) (As := [.ref y4, .int r8, .int r11]) (st := [.ref y4]) (c := c) (sl := sl) kmX5_reasonAgainst kw_1207 (by omega) rfl (Nat.le_of_ble_eq_true rfl) he rfl rfl hc hs dX11_judged_100 (fun E M9 hx => kz_Tout rfl hc hs hx) (kz_Cmono (fun v M13 h => ?_) (fun _ _ h => h) h)
      obtain ⟨r14, rfl, h⟩ := h
      show kz_Z G (d + 6) mc ms mX11_judged Qr Qx 103 [(9, .ref y4), (0, .ref x0), (3, .ref x3), (5, .ref x5), (6, .ref x6), (7, .int x7), (8, .int x8)] [.int r14, .ref y4] M13 c sl
      obtain ⟨⟨fs25, he⟩, h⟩ := h
      refine kz_callV (pc := 103) (μ' := mX3_judge) (ci := 3) (q := (RX3, TX3, 7)) (b := y4) (d' := d + 5) (mc' := 0) (ms' := 0) (As := [.int r14]) (st := []) (c := c) (sl := sl) kmX3_judge kw_1230 (by omega) rfl (Nat.le_of_ble_eq_true rfl) he rfl rfl hc hs dX11_judged_103 (fun E M9 hx => kz_Tout rfl hc hs hx) (kz_Cmono (fun v M16 h => ?_) (fun _ _ h => h) h)
      obtain ⟨rfl, h⟩ := h
      show kz_Z G (d + 6) mc ms mX11_judged Qr Qx 106 [(9, .ref y4), (0, .ref x0), (3, .ref x3), (5, .ref x5), (6, .ref x6), (7, .int x7), (8, .int x8)] [] M16 c sl
      refine kz_aload_n (pc := 106) 1 (v := .ref x0) (i := 0) rfl rfl rfl dX11_judged_106 ?_
      obtain ⟨fs19, v20, hM, hv, h⟩ := h
      refine kz_getf (pc := 107) (k := 6) kcX11 hM hv (by decide) kw_288 dX11_judged_107 ?_
      refine kz_aload (pc := 110) 0 (v := .ref y4) (i := 9) rfl rfl dX11_judged_110 ?_
      obtain ⟨⟨fs24, he⟩, h⟩ := h
      refine kz_callV (pc := 112) (μ' := mX5_addIfItCounts) (ci := 5) (q := (RX5, TX5, 2)) (b := v20) (d' := d + 5) (mc' := 0) (ms' := 0) (As := [.ref y4]) (st := []) (c := c) (sl := sl) kmX5_addIfItCounts kw_1234 (by omega) rfl (Nat.le_of_ble_eq_true rfl) he rfl rfl hc hs dX11_judged_112 (fun E M9 hx => kz_Tout rfl hc hs hx) (kz_Cmono (fun v M21 h => ?_) (fun _ _ h => h) h)
      obtain ⟨rfl, h⟩ := h
      show kz_Z G (d + 6) mc ms mX11_judged Qr Qx 115 [(9, .ref y4), (0, .ref x0), (3, .ref x3), (5, .ref x5), (6, .ref x6), (7, .int x7), (8, .int x8)] [] M21 c sl
      refine kz_iinc (pc := 115) 6 (i := 8) (v := x8 + 1) (ls' := [(9, .ref y4), (0, .ref x0), (3, .ref x3), (5, .ref x5), (6, .ref x6), (7, .int x7)]) rfl (congrArg (fun z => x8 + z) (by decide)) (by decide) rfl dX11_judged_115 ?_
      refine kz_goto (pc := 118) (tgt := 63) (by decide) dX11_judged_118 ?_
      refine kz_sub [2, 3, 4, 5, 6, 0] rfl ?_
      exact h
theorem dX11_wordsInLines_0 : decode cX11_wordsInLines 0 = .ok (.aload_n 0, 1) := by decide +kernel
theorem dX11_wordsInLines_1 : decode cX11_wordsInLines 1 = .ok (.getfield 26, 3) := by decide +kernel
theorem dX11_wordsInLines_4 : decode cX11_wordsInLines 4 = .ok (.aload_n 0, 1) := by decide +kernel
theorem dX11_wordsInLines_5 : decode cX11_wordsInLines 5 = .ok (.getfield 50, 3) := by decide +kernel
theorem dX11_wordsInLines_8 : decode cX11_wordsInLines 8 = .ok (.iload_n 1, 1) := by decide +kernel
theorem dX11_wordsInLines_9 : decode cX11_wordsInLines 9 = .ok (.aload_n 0, 1) := by decide +kernel
theorem dX11_wordsInLines_10 : decode cX11_wordsInLines 10 = .ok (.getfield 26, 3) := by decide +kernel
theorem dX11_wordsInLines_13 : decode cX11_wordsInLines 13 = .ok (.getfield 105, 3) := by decide +kernel
theorem dX11_wordsInLines_16 : decode cX11_wordsInLines 16 = .ok (.invokevirtual 249, 3) := by decide +kernel
theorem dX11_wordsInLines_19 : decode cX11_wordsInLines 19 = .ok (.iconst 0, 1) := by decide +kernel
theorem dX11_wordsInLines_20 : decode cX11_wordsInLines 20 = .ok (.istore_n 3, 1) := by decide +kernel
theorem dX11_wordsInLines_21 : decode cX11_wordsInLines 21 = .ok (.iconst 0, 1) := by decide +kernel
theorem dX11_wordsInLines_22 : decode cX11_wordsInLines 22 = .ok (.istore 4, 2) := by decide +kernel
theorem dX11_wordsInLines_24 : decode cX11_wordsInLines 24 = .ok (.iload 4, 2) := by decide +kernel
theorem dX11_wordsInLines_26 : decode cX11_wordsInLines 26 = .ok (.aload_n 0, 1) := by decide +kernel
theorem dX11_wordsInLines_27 : decode cX11_wordsInLines 27 = .ok (.getfield 26, 3) := by decide +kernel
theorem dX11_wordsInLines_30 : decode cX11_wordsInLines 30 = .ok (.getfield 105, 3) := by decide +kernel
theorem dX11_wordsInLines_33 : decode cX11_wordsInLines 33 = .ok (.if_icmp .ge 122, 3) := by decide +kernel
theorem dX11_wordsInLines_36 : decode cX11_wordsInLines 36 = .ok (.aload_n 0, 1) := by decide +kernel
theorem dX11_wordsInLines_37 : decode cX11_wordsInLines 37 = .ok (.getfield 26, 3) := by decide +kernel
theorem dX11_wordsInLines_40 : decode cX11_wordsInLines 40 = .ok (.iload_n 1, 1) := by decide +kernel
theorem dX11_wordsInLines_41 : decode cX11_wordsInLines 41 = .ok (.iload 4, 2) := by decide +kernel
theorem dX11_wordsInLines_43 : decode cX11_wordsInLines 43 = .ok (.invokevirtual 224, 3) := by decide +kernel
theorem dX11_wordsInLines_46 : decode cX11_wordsInLines 46 = .ok (.astore 5, 2) := by decide +kernel
theorem dX11_wordsInLines_48 : decode cX11_wordsInLines 48 = .ok (.iconst 0, 1) := by decide +kernel
theorem dX11_wordsInLines_49 : decode cX11_wordsInLines 49 = .ok (.istore 6, 2) := by decide +kernel
theorem dX11_wordsInLines_51 : decode cX11_wordsInLines 51 = .ok (.aload 5, 2) := by decide +kernel
theorem dX11_wordsInLines_53 : decode cX11_wordsInLines 53 = .ok (.ifnull 96, 3) := by decide +kernel
theorem dX11_wordsInLines_56 : decode cX11_wordsInLines 56 = .ok (.iload 6, 2) := by decide +kernel
theorem dX11_wordsInLines_58 : decode cX11_wordsInLines 58 = .ok (.aload 5, 2) := by decide +kernel
theorem dX11_wordsInLines_60 : decode cX11_wordsInLines 60 = .ok (.getfield 174, 3) := by decide +kernel
theorem dX11_wordsInLines_63 : decode cX11_wordsInLines 63 = .ok (.invokevirtual 184, 3) := by decide +kernel
theorem dX11_wordsInLines_66 : decode cX11_wordsInLines 66 = .ok (.if_icmp .ge 83, 3) := by decide +kernel
theorem dX11_wordsInLines_69 : decode cX11_wordsInLines 69 = .ok (.aload 5, 2) := by decide +kernel
theorem dX11_wordsInLines_71 : decode cX11_wordsInLines 71 = .ok (.getfield 174, 3) := by decide +kernel
theorem dX11_wordsInLines_74 : decode cX11_wordsInLines 74 = .ok (.iload 6, 2) := by decide +kernel
theorem dX11_wordsInLines_76 : decode cX11_wordsInLines 76 = .ok (.invokevirtual 237, 3) := by decide +kernel
theorem dX11_wordsInLines_79 : decode cX11_wordsInLines 79 = .ok (.lstore 7, 2) := by decide +kernel
theorem dX11_wordsInLines_81 : decode cX11_wordsInLines 81 = .ok (.aload 5, 2) := by decide +kernel
theorem dX11_wordsInLines_83 : decode cX11_wordsInLines 83 = .ok (.getfield 174, 3) := by decide +kernel
theorem dX11_wordsInLines_86 : decode cX11_wordsInLines 86 = .ok (.iconst 0, 1) := by decide +kernel
theorem dX11_wordsInLines_87 : decode cX11_wordsInLines 87 = .ok (.iload 6, 2) := by decide +kernel
theorem dX11_wordsInLines_89 : decode cX11_wordsInLines 89 = .ok (.invokevirtual 256, 3) := by decide +kernel
theorem dX11_wordsInLines_92 : decode cX11_wordsInLines 92 = .ok (.ifCond .eq 22, 3) := by decide +kernel
theorem dX11_wordsInLines_95 : decode cX11_wordsInLines 95 = .ok (.aload_n 0, 1) := by decide +kernel
theorem dX11_wordsInLines_96 : decode cX11_wordsInLines 96 = .ok (.getfield 26, 3) := by decide +kernel
theorem dX11_wordsInLines_99 : decode cX11_wordsInLines 99 = .ok (.lload 7, 2) := by decide +kernel
theorem dX11_wordsInLines_101 : decode cX11_wordsInLines 101 = .ok (.iload_n 1, 1) := by decide +kernel
theorem dX11_wordsInLines_102 : decode cX11_wordsInLines 102 = .ok (.iload 4, 2) := by decide +kernel
theorem dX11_wordsInLines_104 : decode cX11_wordsInLines 104 = .ok (.invokevirtual 264, 3) := by decide +kernel
theorem dX11_wordsInLines_107 : decode cX11_wordsInLines 107 = .ok (.ifCond .ne 7, 3) := by decide +kernel
theorem dX11_wordsInLines_110 : decode cX11_wordsInLines 110 = .ok (.iconst 1, 1) := by decide +kernel
theorem dX11_wordsInLines_111 : decode cX11_wordsInLines 111 = .ok (.goto 4, 3) := by decide +kernel
theorem dX11_wordsInLines_114 : decode cX11_wordsInLines 114 = .ok (.iconst 0, 1) := by decide +kernel
theorem dX11_wordsInLines_115 : decode cX11_wordsInLines 115 = .ok (.istore 9, 2) := by decide +kernel
theorem dX11_wordsInLines_117 : decode cX11_wordsInLines 117 = .ok (.iload_n 3, 1) := by decide +kernel
theorem dX11_wordsInLines_118 : decode cX11_wordsInLines 118 = .ok (.iload 9, 2) := by decide +kernel
theorem dX11_wordsInLines_120 : decode cX11_wordsInLines 120 = .ok (.ifCond .eq 20, 3) := by decide +kernel
theorem dX11_wordsInLines_123 : decode cX11_wordsInLines 123 = .ok (.aload_n 0, 1) := by decide +kernel
theorem dX11_wordsInLines_124 : decode cX11_wordsInLines 124 = .ok (.getfield 50, 3) := by decide +kernel
theorem dX11_wordsInLines_127 : decode cX11_wordsInLines 127 = .ok (.lload 7, 2) := by decide +kernel
theorem dX11_wordsInLines_129 : decode cX11_wordsInLines 129 = .ok (.invokevirtual 253, 3) := by decide +kernel
theorem dX11_wordsInLines_132 : decode cX11_wordsInLines 132 = .ok (.iload_n 2, 1) := by decide +kernel
theorem dX11_wordsInLines_133 : decode cX11_wordsInLines 133 = .ok (.if_icmp .lt 7, 3) := by decide +kernel
theorem dX11_wordsInLines_136 : decode cX11_wordsInLines 136 = .ok (.iconst 1, 1) := by decide +kernel
theorem dX11_wordsInLines_137 : decode cX11_wordsInLines 137 = .ok (.goto 4, 3) := by decide +kernel
theorem dX11_wordsInLines_140 : decode cX11_wordsInLines 140 = .ok (.iconst 0, 1) := by decide +kernel
theorem dX11_wordsInLines_141 : decode cX11_wordsInLines 141 = .ok (.iadd, 1) := by decide +kernel
theorem dX11_wordsInLines_142 : decode cX11_wordsInLines 142 = .ok (.istore_n 3, 1) := by decide +kernel
theorem dX11_wordsInLines_143 : decode cX11_wordsInLines 143 = .ok (.iinc 6 1, 3) := by decide +kernel
theorem dX11_wordsInLines_146 : decode cX11_wordsInLines 146 = .ok (.goto (-95), 3) := by decide +kernel
theorem dX11_wordsInLines_149 : decode cX11_wordsInLines 149 = .ok (.iinc 4 1, 3) := by decide +kernel
theorem dX11_wordsInLines_152 : decode cX11_wordsInLines 152 = .ok (.goto (-128), 3) := by decide +kernel
theorem dX11_wordsInLines_155 : decode cX11_wordsInLines 155 = .ok (.iload_n 3, 1) := by decide +kernel
theorem dX11_wordsInLines_156 : decode cX11_wordsInLines 156 = .ok (.ireturn, 1) := by decide +kernel
def zX11_wordsInLines_24 (G : kz_G) (d : Nat) (Qr : Option Value → kz_M → Prop) (Qx : String → kz_M → Prop) (x0 : Nat) (x1 : Int32) (x2 : Int32) (x3 : Int32) (x4 : Int32)  (M : kz_M) : Prop := kz_Z G (d + 4) 0 0 mX11_wordsInLines Qr Qx 24 [(0, .ref x0), (1, .int x1), (2, .int x2), (3, .int x3), (4, .int x4)] [] M 0 0
def zX11_wordsInLines_51 (G : kz_G) (d : Nat) (Qr : Option Value → kz_M → Prop) (Qx : String → kz_M → Prop) (x0 : Nat) (x1 : Int32) (x2 : Int32) (x3 : Int32) (x4 : Int32) (x5 : Option Nat) (x6 : Int32)  (M : kz_M) : Prop := kz_Z G (d + 4) 0 0 mX11_wordsInLines Qr Qx 51 [(0, .ref x0), (1, .int x1), (2, .int x2), (3, .int x3), (4, .int x4), (5, kz_rf x5), (6, .int x6)] [] M 0 0
theorem rX11_wordsInLines_0 {G : kz_G} {d : Nat} {Qr : Option Value → kz_M → Prop} {Qx : String → kz_M → Prop} {a0 : Nat} {p1 : Int32} {p2 : Int32}  {M : kz_M} (h : ∃ fs1 v2, (M).1 a0 = some (.inl (10, fs1)) ∧ fs1[2]? = some (.ref v2) ∧ (∃ fs3 v4, (M).1 a0 = some (.inl (10, fs3)) ∧ fs3[6]? = some (.ref v4) ∧ (∃ fs5 v6, (M).1 a0 = some (.inl (10, fs5)) ∧ fs5[2]? = some (.ref v6) ∧ (∃ fs7 v8, (M).1 v6 = some (.inl (8, fs7)) ∧ fs7[3]? = some (.int v8) ∧ ((∃ fs12, (M).1 v2 = some (.inl (8, fs12))) ∧ kz_C G (d + 3) 0 0 mX9_collect [.ref v2, .ref v4, .int p1, .int v8] M (fun v M9 => v = none ∧ (zX11_wordsInLines_24 G d Qr Qx a0 p1 p2 0 0 M9)) Qx))))) : kz_C G (d + 4) 0 0 mX11_wordsInLines [.ref a0, .int p1, .int p2] M Qr Qx := by
  refine kz_enter (n := 2) kmX11_wordsInLines.1 (Nat.le_of_ble_eq_true rfl) (ls := [(0, .ref a0), (1, .int p1), (2, .int p2)]) rfl ?_
  refine kz_aload_n (pc := 0) 0 (v := .ref a0) (i := 0) rfl rfl rfl dX11_wordsInLines_0 ?_
  obtain ⟨fs1, v2, hM, hv, h⟩ := h
  refine kz_getf (pc := 1) (k := 2) kcX11 hM hv (by decide) kw_284 dX11_wordsInLines_1 ?_
  refine kz_aload_n (pc := 4) 0 (v := .ref a0) (i := 0) rfl rfl rfl dX11_wordsInLines_4 ?_
  obtain ⟨fs3, v4, hM, hv, h⟩ := h
  refine kz_getf (pc := 5) (k := 6) kcX11 hM hv (by decide) kw_288 dX11_wordsInLines_5 ?_
  refine kz_iload_n (pc := 8) 1 (i := 1) rfl rfl dX11_wordsInLines_8 ?_
  refine kz_aload_n (pc := 9) 0 (v := .ref a0) (i := 0) rfl rfl rfl dX11_wordsInLines_9 ?_
  obtain ⟨fs5, v6, hM, hv, h⟩ := h
  refine kz_getf (pc := 10) (k := 2) kcX11 hM hv (by decide) kw_284 dX11_wordsInLines_10 ?_
  obtain ⟨fs7, v8, hM, hv, h⟩ := h
  refine kz_getf (pc := 13) (k := 3) kcX9 hM hv (by decide) kw_116 dX11_wordsInLines_13 ?_
  obtain ⟨⟨fs12, he⟩, h⟩ := h
  refine kz_callV (pc := 16) (μ' := mX9_collect) (ci := 8) (q := (RX9, TX9, 10)) (b := v2) (d' := d + 3) (mc' := 0) (ms' := 0) (As := [.ref v4, .int p1, .int v8]) (st := []) (c := 0) (sl := 0) kmX9_collect kw_868 (by omega) rfl (Nat.le_of_ble_eq_true rfl) he rfl rfl (Nat.le_refl _) (Nat.le_refl _) dX11_wordsInLines_16 (fun E M9 hx => kz_Tout rfl (Nat.le_refl _) (Nat.le_refl _) hx) (kz_Cmono (fun v M9 h => ?_) (fun _ _ h => h) h)
  obtain ⟨rfl, h⟩ := h
  show kz_Z G (d + 4) 0 0 mX11_wordsInLines Qr Qx 19 [(0, .ref a0), (1, .int p1), (2, .int p2)] [] M9 0 0
  refine kz_iconst (pc := 19) (v := 0) (by decide) dX11_wordsInLines_19 ?_
  refine kz_istore_n (pc := 20) (i := 3) (ls' := [(0, .ref a0), (1, .int p1), (2, .int p2)]) rfl (by decide) rfl dX11_wordsInLines_20 ?_
  refine kz_iconst (pc := 21) (v := 0) (by decide) dX11_wordsInLines_21 ?_
  refine kz_istore (pc := 22) (i := 4) (ls' := [(3, .int 0), (0, .ref a0), (1, .int p1), (2, .int p2)]) (by decide) rfl dX11_wordsInLines_22 ?_
  refine kz_sub [2, 3, 4, 1, 0] rfl ?_
  exact h
theorem rX11_wordsInLines_24 {G : kz_G} {d : Nat} {Qr : Option Value → kz_M → Prop} {Qx : String → kz_M → Prop} {x0 : Nat} {x1 : Int32} {x2 : Int32} {x3 : Int32} {x4 : Int32}  {M : kz_M} (h : ∃ fs1 v2, (M).1 x0 = some (.inl (10, fs1)) ∧ fs1[2]? = some (.ref v2) ∧ (∃ fs3 v4, (M).1 v2 = some (.inl (8, fs3)) ∧ fs3[3]? = some (.int v4) ∧ ((v4 ≤ x4 → Qr (some (.int x3)) M) ∧ (¬ v4 ≤ x4 → ∃ fs5 v6, (M).1 x0 = some (.inl (10, fs5)) ∧ fs5[2]? = some (.ref v6) ∧ ((∃ fs10, (M).1 v6 = some (.inl (8, fs10))) ∧ kz_C G (d + 3) 0 0 mX9_workOf [.ref v6, .int x1, .int x4] M (fun v M7 => ∃ r8 : Option Nat, v = some (kz_rf r8) ∧ (zX11_wordsInLines_51 G d Qr Qx x0 x1 x2 x3 x4 r8 0 M7)) Qx))))) : zX11_wordsInLines_24 G d Qr Qx x0 x1 x2 x3 x4  M := by
  show kz_Z G (d + 4) 0 0 mX11_wordsInLines Qr Qx 24 [(0, .ref x0), (1, .int x1), (2, .int x2), (3, .int x3), (4, .int x4)] [] M 0 0
  refine kz_iload (pc := 24) 4 (i := 4) rfl dX11_wordsInLines_24 ?_
  refine kz_aload_n (pc := 26) 0 (v := .ref x0) (i := 0) rfl rfl rfl dX11_wordsInLines_26 ?_
  obtain ⟨fs1, v2, hM, hv, h⟩ := h
  refine kz_getf (pc := 27) (k := 2) kcX11 hM hv (by decide) kw_284 dX11_wordsInLines_27 ?_
  obtain ⟨fs3, v4, hM, hv, h⟩ := h
  refine kz_getf (pc := 30) (k := 3) kcX9 hM hv (by decide) kw_116 dX11_wordsInLines_30 ?_
  refine kz_icmp_ge (pc := 33) (tgt := 155) (by decide) dX11_wordsInLines_33 (fun hb => ?_) (fun hb => ?_)
  · replace h := h.1 hb
    refine kz_iload_n (pc := 155) 3 (i := 3) rfl rfl dX11_wordsInLines_155 ?_
    exact kz_iret (pc := 156) rfl (Nat.le_refl _) (Nat.le_refl _) dX11_wordsInLines_156 h
  · replace h := h.2 hb
    refine kz_aload_n (pc := 36) 0 (v := .ref x0) (i := 0) rfl rfl rfl dX11_wordsInLines_36 ?_
    obtain ⟨fs5, v6, hM, hv, h⟩ := h
    refine kz_getf (pc := 37) (k := 2) kcX11 hM hv (by decide) kw_284 dX11_wordsInLines_37 ?_
    refine kz_iload_n (pc := 40) 1 (i := 1) rfl rfl dX11_wordsInLines_40 ?_
    refine kz_iload (pc := 41) 4 (i := 4) rfl dX11_wordsInLines_41 ?_
    obtain ⟨⟨fs10, he⟩, h⟩ := h
    refine kz_callV (pc := 43) (μ' := mX9_workOf) (ci := 8) (q := (RX9, TX9, 10)) (b := v6) (d' := d + 3) (mc' := 0) (ms' := 0) (As := [.int x1, .int x4]) (st := []) (c := 0) (sl := 0) kmX9_workOf kw_889 (by omega) rfl (Nat.le_of_ble_eq_true rfl) he rfl rfl (Nat.le_refl _) (Nat.le_refl _) dX11_wordsInLines_43 (fun E M9 hx => kz_Tout rfl (Nat.le_refl _) (Nat.le_refl _) hx) (kz_Cmono (fun v M7 h => ?_) (fun _ _ h => h) h)
    obtain ⟨r8, rfl, h⟩ := h
    show kz_Z G (d + 4) 0 0 mX11_wordsInLines Qr Qx 46 [(0, .ref x0), (1, .int x1), (2, .int x2), (3, .int x3), (4, .int x4)] [kz_rf r8] M7 0 0
    refine kz_astore (pc := 46) (i := 5) (v := kz_rf r8) (ls' := [(0, .ref x0), (1, .int x1), (2, .int x2), (3, .int x3), (4, .int x4)]) (kz_isr_rf _) (by decide) rfl dX11_wordsInLines_46 ?_
    refine kz_iconst (pc := 48) (v := 0) (by decide) dX11_wordsInLines_48 ?_
    refine kz_istore (pc := 49) (i := 6) (ls' := [(5, kz_rf r8), (0, .ref x0), (1, .int x1), (2, .int x2), (3, .int x3), (4, .int x4)]) (by decide) (by simp [kz_s1, kz_s2, kz_cat_rf]) dX11_wordsInLines_49 ?_
    refine kz_sub [2, 3, 4, 5, 6, 1, 0] rfl ?_
    exact h
theorem rX11_wordsInLines_51 {G : kz_G} {d : Nat} {Qr : Option Value → kz_M → Prop} {Qx : String → kz_M → Prop} {x0 : Nat} {x1 : Int32} {x2 : Int32} {x3 : Int32} {x4 : Int32} {x5 : Option Nat} {x6 : Int32}  {M : kz_M} (h : (x5 = none → zX11_wordsInLines_24 G d Qr Qx x0 x1 x2 x3 (x4 + 1) M) ∧ (∀ y1, x5 = some y1 → ∃ fs2 v3, (M).1 y1 = some (.inl (9, fs2)) ∧ fs2[2]? = some (.ref v3) ∧ ((∃ fs43, (M).1 v3 = some (.inl (6, fs43))) ∧ kz_C G (d + 3) 0 0 mX6_size [.ref v3] M (fun v M4 => ∃ r5 : Int32, v = some (.int r5) ∧ ((r5 ≤ x6 → zX11_wordsInLines_24 G d Qr Qx x0 x1 x2 x3 (x4 + 1) M4) ∧ (¬ r5 ≤ x6 → ∃ fs7 v8, (M4).1 y1 = some (.inl (9, fs7)) ∧ fs7[2]? = some (.ref v8) ∧ ((∃ fs42, (M4).1 v8 = some (.inl (6, fs42))) ∧ kz_C G (d + 3) 0 0 mX6_wordAt [.ref v8, .int x6] M4 (fun v M9 => ∃ r10 : Int64, v = some (.long r10) ∧ (∃ fs12 v13, (M9).1 y1 = some (.inl (9, fs12)) ∧ fs12[2]? = some (.ref v13) ∧ ((∃ fs41, (M9).1 v13 = some (.inl (6, fs41))) ∧ kz_C G (d + 3) 0 0 mX6_isNewAt [.ref v13, .int 0, .int x6] M9 (fun v M14 => ∃ r15 : Int32, v = some (.int r15) ∧ ((r15 = 0 → ((0 : Int32) = 0 → zX11_wordsInLines_51 G d Qr Qx x0 x1 x2 (x3 + 0) x4 (some y1) (x6 + 1) M14) ∧ (¬ (0 : Int32) = 0 → ∃ fs17 v18, (M14).1 x0 = some (.inl (10, fs17)) ∧ fs17[6]? = some (.ref v18) ∧ ((∃ fs22, (M14).1 v18 = some (.inl (5, fs22))) ∧ kz_C G (d + 3) 0 0 mX5_linesWith [.ref v18, .long r10] M14 (fun v M19 => ∃ r20 : Int32, v = some (.int r20) ∧ ((r20 < x2 → zX11_wordsInLines_51 G d Qr Qx x0 x1 x2 (x3 + 0) x4 (some y1) (x6 + 1) M19) ∧ (¬ r20 < x2 → zX11_wordsInLines_51 G d Qr Qx x0 x1 x2 (x3 + 1) x4 (some y1) (x6 + 1) M19))) Qx))) ∧ (¬ r15 = 0 → ∃ fs23 v24, (M14).1 x0 = some (.inl (10, fs23)) ∧ fs23[2]? = some (.ref v24) ∧ ((∃ fs40, (M14).1 v24 = some (.inl (8, fs40))) ∧ kz_C G (d + 3) 0 0 mX9_usedBefore [.ref v24, .long r10, .int x1, .int x4] M14 (fun v M25 => ∃ r26 : Int32, v = some (.int r26) ∧ ((¬ r26 = 0 → ((0 : Int32) = 0 → zX11_wordsInLines_51 G d Qr Qx x0 x1 x2 (x3 + 0) x4 (some y1) (x6 + 1) M25) ∧ (¬ (0 : Int32) = 0 → ∃ fs28 v29, (M25).1 x0 = some (.inl (10, fs28)) ∧ fs28[6]? = some (.ref v29) ∧ ((∃ fs33, (M25).1 v29 = some (.inl (5, fs33))) ∧ kz_C G (d + 3) 0 0 mX5_linesWith [.ref v29, .long r10] M25 (fun v M30 => ∃ r31 : Int32, v = some (.int r31) ∧ ((r31 < x2 → zX11_wordsInLines_51 G d Qr Qx x0 x1 x2 (x3 + 0) x4 (some y1) (x6 + 1) M30) ∧ (¬ r31 < x2 → zX11_wordsInLines_51 G d Qr Qx x0 x1 x2 (x3 + 1) x4 (some y1) (x6 + 1) M30))) Qx))) ∧ (r26 = 0 → ((1 : Int32) = 0 → zX11_wordsInLines_51 G d Qr Qx x0 x1 x2 (x3 + 0) x4 (some y1) (x6 + 1) M25) ∧ (¬ (1 : Int32) = 0 → ∃ fs34 v35, (M25).1 x0 = some (.inl (10, fs34)) ∧ fs34[6]? = some (.ref v35) ∧ ((∃ fs39, (M25).1 v35 = some (.inl (5, fs39))) ∧ kz_C G (d + 3) 0 0 mX5_linesWith [.ref v35, .long r10] M25 (fun v M36 => ∃ r37 : Int32, v = some (.int r37) ∧ ((r37 < x2 → zX11_wordsInLines_51 G d Qr Qx x0 x1 x2 (x3 + 0) x4 (some y1) (x6 + 1) M36) ∧ (¬ r37 < x2 → zX11_wordsInLines_51 G d Qr Qx x0 x1 x2 (x3 + 1) x4 (some y1) (x6 + 1) M36))) Qx))))) Qx)))) Qx))) Qx)))) Qx))) : zX11_wordsInLines_51 G d Qr Qx x0 x1 x2 x3 x4 x5 x6  M := by
  show kz_Z G (d + 4) 0 0 mX11_wordsInLines Qr Qx 51 [(0, .ref x0), (1, .int x1), (2, .int x2), (3, .int x3), (4, .int x4), (5, kz_rf x5), (6, .int x6)] [] M 0 0
  refine kz_aload (pc := 51) 5 (v := kz_rf x5) (i := 5) rfl (kz_isr_rf _) dX11_wordsInLines_51 ?_
  rcases x5 with _ | y1
  · replace h := h.1 rfl
    refine kz_ifnull (pc := 53) (tgt := 149) rfl (by decide) dX11_wordsInLines_53 (fun _ => ?_) (fun hn => absurd rfl hn)
    refine kz_iinc (pc := 149) 4 (i := 4) (v := x4 + 1) (ls' := [(0, .ref x0), (1, .int x1), (2, .int x2), (3, .int x3), (5, .null), (6, .int x6)]) rfl (congrArg (fun z => x4 + z) (by decide)) (by decide) rfl dX11_wordsInLines_149 ?_
    refine kz_goto (pc := 152) (tgt := 24) (by decide) dX11_wordsInLines_152 ?_
    refine kz_sub [1, 2, 3, 4, 0] rfl ?_
    exact h
  · replace h := h.2 y1 rfl
    refine kz_ifnull (pc := 53) (tgt := 149) rfl (by decide) dX11_wordsInLines_53 (fun hn => by cases hn) (fun _ => ?_)
    refine kz_iload (pc := 56) 6 (i := 6) rfl dX11_wordsInLines_56 ?_
    refine kz_aload (pc := 58) 5 (v := .ref y1) (i := 5) rfl rfl dX11_wordsInLines_58 ?_
    obtain ⟨fs2, v3, hM, hv, h⟩ := h
    refine kz_getf (pc := 60) (k := 2) kcX10 hM hv (by decide) kw_1194 dX11_wordsInLines_60 ?_
    obtain ⟨⟨fs43, he⟩, h⟩ := h
    refine kz_callV (pc := 63) (μ' := mX6_size) (ci := 6) (q := (RX6, TX6, 3)) (b := v3) (d' := d + 3) (mc' := 0) (ms' := 0) (As := []) (st := [.int x6]) (c := 0) (sl := 0) kmX6_size kw_890 (by omega) rfl (Nat.le_of_ble_eq_true rfl) he rfl rfl (Nat.le_refl _) (Nat.le_refl _) dX11_wordsInLines_63 (fun E M9 hx => kz_Tout rfl (Nat.le_refl _) (Nat.le_refl _) hx) (kz_Cmono (fun v M4 h => ?_) (fun _ _ h => h) h)
    obtain ⟨r5, rfl, h⟩ := h
    show kz_Z G (d + 4) 0 0 mX11_wordsInLines Qr Qx 66 [(0, .ref x0), (1, .int x1), (2, .int x2), (3, .int x3), (4, .int x4), (5, .ref y1), (6, .int x6)] [.int r5, .int x6] M4 0 0
    refine kz_icmp_ge (pc := 66) (tgt := 149) (by decide) dX11_wordsInLines_66 (fun hb => ?_) (fun hb => ?_)
    · replace h := h.1 hb
      refine kz_iinc (pc := 149) 4 (i := 4) (v := x4 + 1) (ls' := [(0, .ref x0), (1, .int x1), (2, .int x2), (3, .int x3), (5, .ref y1), (6, .int x6)]) rfl (congrArg (fun z => x4 + z) (by decide)) (by decide) rfl dX11_wordsInLines_149 ?_
      refine kz_goto (pc := 152) (tgt := 24) (by decide) dX11_wordsInLines_152 ?_
      refine kz_sub [1, 2, 3, 4, 0] rfl ?_
      exact h
    · replace h := h.2 hb
      refine kz_aload (pc := 69) 5 (v := .ref y1) (i := 5) rfl rfl dX11_wordsInLines_69 ?_
      obtain ⟨fs7, v8, hM, hv, h⟩ := h
      refine kz_getf (pc := 71) (k := 2) kcX10 hM hv (by decide) kw_1194 dX11_wordsInLines_71 ?_
      refine kz_iload (pc := 74) 6 (i := 6) rfl dX11_wordsInLines_74 ?_
      obtain ⟨⟨fs42, he⟩, h⟩ := h
      refine kz_callV (pc := 76) (μ' := mX6_wordAt) (ci := 6) (q := (RX6, TX6, 3)) (b := v8) (d' := d + 3) (mc' := 0) (ms' := 0) (As := [.int x6]) (st := []) (c := 0) (sl := 0) kmX6_wordAt kw_894 (by omega) rfl (Nat.le_of_ble_eq_true rfl) he rfl rfl (Nat.le_refl _) (Nat.le_refl _) dX11_wordsInLines_76 (fun E M9 hx => kz_Tout rfl (Nat.le_refl _) (Nat.le_refl _) hx) (kz_Cmono (fun v M9 h => ?_) (fun _ _ h => h) h)
      obtain ⟨r10, rfl, h⟩ := h
      show kz_Z G (d + 4) 0 0 mX11_wordsInLines Qr Qx 79 [(0, .ref x0), (1, .int x1), (2, .int x2), (3, .int x3), (4, .int x4), (5, .ref y1), (6, .int x6)] [.long r10] M9 0 0
      refine kz_lstore (pc := 79) (i := 7) (ls' := [(0, .ref x0), (1, .int x1), (2, .int x2), (3, .int x3), (4, .int x4), (5, .ref y1), (6, .int x6)]) (by decide) rfl dX11_wordsInLines_79 ?_
      refine kz_aload (pc := 81) 6 (v := .ref y1) (i := 5) rfl rfl dX11_wordsInLines_81 ?_
      obtain ⟨fs12, v13, hM, hv, h⟩ := h
      refine kz_getf (pc := 83) (k := 2) kcX10 hM hv (by decide) kw_1194 dX11_wordsInLines_83 ?_
      refine kz_iconst (pc := 86) (v := 0) (by decide) dX11_wordsInLines_86 ?_
      refine kz_iload (pc := 87) 7 (i := 6) rfl dX11_wordsInLines_87 ?_
      obtain ⟨⟨fs41, he⟩, h⟩ := h
      refine kz_callV (pc := 89) (μ' := mX6_isNewAt) (ci := 6) (q := (RX6, TX6, 3)) (b := v13) (d' := d + 3) (mc' := 0) (ms' := 0) (As := [.int 0, .int x6]) (st := []) (c := 0) (sl := 0) kmX6_isNewAt kw_898 (by omega) rfl (Nat.le_of_ble_eq_true rfl) he rfl rfl (Nat.le_refl _) (Nat.le_refl _) dX11_wordsInLines_89 (fun E M9 hx => kz_Tout rfl (Nat.le_refl _) (Nat.le_refl _) hx) (kz_Cmono (fun v M14 h => ?_) (fun _ _ h => h) h)
      obtain ⟨r15, rfl, h⟩ := h
      show kz_Z G (d + 4) 0 0 mX11_wordsInLines Qr Qx 92 [(7, .long r10), (0, .ref x0), (1, .int x1), (2, .int x2), (3, .int x3), (4, .int x4), (5, .ref y1), (6, .int x6)] [.int r15] M14 0 0
      refine kz_if_eq (pc := 92) (tgt := 114) (by decide) dX11_wordsInLines_92 (fun hb => ?_) (fun hb => ?_)
      · replace h := h.1 hb
        refine kz_iconst (pc := 114) (v := 0) (by decide) dX11_wordsInLines_114 ?_
        refine kz_istore (pc := 115) (i := 9) (ls' := [(7, .long r10), (0, .ref x0), (1, .int x1), (2, .int x2), (3, .int x3), (4, .int x4), (5, .ref y1), (6, .int x6)]) (by decide) rfl dX11_wordsInLines_115 ?_
        refine kz_iload_n (pc := 117) 5 (i := 3) rfl rfl dX11_wordsInLines_117 ?_
        refine kz_iload (pc := 118) 0 (i := 9) rfl dX11_wordsInLines_118 ?_
        refine kz_if_eq (pc := 120) (tgt := 140) (by decide) dX11_wordsInLines_120 (fun hb => ?_) (fun hb => ?_)
        · replace h := h.1 hb
          refine kz_iconst (pc := 140) (v := 0) (by decide) dX11_wordsInLines_140 ?_
          refine kz_iadd (pc := 141) dX11_wordsInLines_141 ?_
          refine kz_istore_n (pc := 142) (i := 3) (ls' := [(9, .int 0), (7, .long r10), (0, .ref x0), (1, .int x1), (2, .int x2), (4, .int x4), (5, .ref y1), (6, .int x6)]) rfl (by decide) rfl dX11_wordsInLines_142 ?_
          refine kz_iinc (pc := 143) 8 (i := 6) (v := x6 + 1) (ls' := [(3, .int (x3 + 0)), (9, .int 0), (7, .long r10), (0, .ref x0), (1, .int x1), (2, .int x2), (4, .int x4), (5, .ref y1)]) rfl (congrArg (fun z => x6 + z) (by decide)) (by decide) rfl dX11_wordsInLines_143 ?_
          refine kz_goto (pc := 146) (tgt := 51) (by decide) dX11_wordsInLines_146 ?_
          refine kz_sub [4, 5, 6, 1, 7, 8, 0] rfl ?_
          exact h
        · replace h := h.2 hb
          refine kz_aload_n (pc := 123) 2 (v := .ref x0) (i := 0) rfl rfl rfl dX11_wordsInLines_123 ?_
          obtain ⟨fs17, v18, hM, hv, h⟩ := h
          refine kz_getf (pc := 124) (k := 6) kcX11 hM hv (by decide) kw_288 dX11_wordsInLines_124 ?_
          refine kz_lload (pc := 127) 1 (i := 7) rfl dX11_wordsInLines_127 ?_
          obtain ⟨⟨fs22, he⟩, h⟩ := h
          refine kz_callV (pc := 129) (μ' := mX5_linesWith) (ci := 5) (q := (RX5, TX5, 2)) (b := v18) (d' := d + 3) (mc' := 0) (ms' := 0) (As := [.long r10]) (st := [.int x3]) (c := 0) (sl := 0) kmX5_linesWith kw_914 (by omega) rfl (Nat.le_of_ble_eq_true rfl) he rfl rfl (Nat.le_refl _) (Nat.le_refl _) dX11_wordsInLines_129 (fun E M9 hx => kz_Tout rfl (Nat.le_refl _) (Nat.le_refl _) hx) (kz_Cmono (fun v M19 h => ?_) (fun _ _ h => h) h)
          obtain ⟨r20, rfl, h⟩ := h
          show kz_Z G (d + 4) 0 0 mX11_wordsInLines Qr Qx 132 [(9, .int 0), (7, .long r10), (0, .ref x0), (1, .int x1), (2, .int x2), (3, .int x3), (4, .int x4), (5, .ref y1), (6, .int x6)] [.int r20, .int x3] M19 0 0
          refine kz_iload_n (pc := 132) 4 (i := 2) rfl rfl dX11_wordsInLines_132 ?_
          refine kz_icmp_lt (pc := 133) (tgt := 140) (by decide) dX11_wordsInLines_133 (fun hb => ?_) (fun hb => ?_)
          · replace h := h.1 hb
            refine kz_iconst (pc := 140) (v := 0) (by decide) dX11_wordsInLines_140 ?_
            refine kz_iadd (pc := 141) dX11_wordsInLines_141 ?_
            refine kz_istore_n (pc := 142) (i := 3) (ls' := [(9, .int 0), (7, .long r10), (0, .ref x0), (1, .int x1), (2, .int x2), (4, .int x4), (5, .ref y1), (6, .int x6)]) rfl (by decide) rfl dX11_wordsInLines_142 ?_
            refine kz_iinc (pc := 143) 8 (i := 6) (v := x6 + 1) (ls' := [(3, .int (x3 + 0)), (9, .int 0), (7, .long r10), (0, .ref x0), (1, .int x1), (2, .int x2), (4, .int x4), (5, .ref y1)]) rfl (congrArg (fun z => x6 + z) (by decide)) (by decide) rfl dX11_wordsInLines_143 ?_
            refine kz_goto (pc := 146) (tgt := 51) (by decide) dX11_wordsInLines_146 ?_
            refine kz_sub [4, 5, 6, 1, 7, 8, 0] rfl ?_
            exact h
          · replace h := h.2 hb
            refine kz_iconst (pc := 136) (v := 1) (by decide) dX11_wordsInLines_136 ?_
            refine kz_goto (pc := 137) (tgt := 141) (by decide) dX11_wordsInLines_137 ?_
            refine kz_iadd (pc := 141) dX11_wordsInLines_141 ?_
            refine kz_istore_n (pc := 142) (i := 3) (ls' := [(9, .int 0), (7, .long r10), (0, .ref x0), (1, .int x1), (2, .int x2), (4, .int x4), (5, .ref y1), (6, .int x6)]) rfl (by decide) rfl dX11_wordsInLines_142 ?_
            refine kz_iinc (pc := 143) 8 (i := 6) (v := x6 + 1) (ls' := [(3, .int (x3 + 1)), (9, .int 0), (7, .long r10), (0, .ref x0), (1, .int x1), (2, .int x2), (4, .int x4), (5, .ref y1)]) rfl (congrArg (fun z => x6 + z) (by decide)) (by decide) rfl dX11_wordsInLines_143 ?_
            refine kz_goto (pc := 146) (tgt := 51) (by decide) dX11_wordsInLines_146 ?_
            refine kz_sub [4, 5, 6, 1, 7, 8, 0] rfl ?_
            exact h
      · replace h := h.2 hb
        refine kz_aload_n (pc := 95) 1 (v := .ref x0) (i := 0) rfl rfl rfl dX11_wordsInLines_95 ?_
        obtain ⟨fs23, v24, hM, hv, h⟩ := h
        refine kz_getf (pc := 96) (k := 2) kcX11 hM hv (by decide) kw_284 dX11_wordsInLines_96 ?_
        refine kz_lload (pc := 99) 0 (i := 7) rfl dX11_wordsInLines_99 ?_
        refine kz_iload_n (pc := 101) 2 (i := 1) rfl rfl dX11_wordsInLines_101 ?_
        refine kz_iload (pc := 102) 5 (i := 4) rfl dX11_wordsInLines_102 ?_
        obtain ⟨⟨fs40, he⟩, h⟩ := h
        refine kz_callV (pc := 104) (μ' := mX9_usedBefore) (ci := 8) (q := (RX9, TX9, 10)) (b := v24) (d' := d + 3) (mc' := 0) (ms' := 0) (As := [.long r10, .int x1, .int x4]) (st := []) (c := 0) (sl := 0) kmX9_usedBefore kw_908 (by omega) rfl (Nat.le_of_ble_eq_true rfl) he rfl rfl (Nat.le_refl _) (Nat.le_refl _) dX11_wordsInLines_104 (fun E M9 hx => kz_Tout rfl (Nat.le_refl _) (Nat.le_refl _) hx) (kz_Cmono (fun v M25 h => ?_) (fun _ _ h => h) h)
        obtain ⟨r26, rfl, h⟩ := h
        show kz_Z G (d + 4) 0 0 mX11_wordsInLines Qr Qx 107 [(7, .long r10), (0, .ref x0), (1, .int x1), (2, .int x2), (3, .int x3), (4, .int x4), (5, .ref y1), (6, .int x6)] [.int r26] M25 0 0
        refine kz_if_ne (pc := 107) (tgt := 114) (by decide) dX11_wordsInLines_107 (fun hb => ?_) (fun hb => ?_)
        · replace h := h.1 hb
          refine kz_iconst (pc := 114) (v := 0) (by decide) dX11_wordsInLines_114 ?_
          refine kz_istore (pc := 115) (i := 9) (ls' := [(7, .long r10), (0, .ref x0), (1, .int x1), (2, .int x2), (3, .int x3), (4, .int x4), (5, .ref y1), (6, .int x6)]) (by decide) rfl dX11_wordsInLines_115 ?_
          refine kz_iload_n (pc := 117) 5 (i := 3) rfl rfl dX11_wordsInLines_117 ?_
          refine kz_iload (pc := 118) 0 (i := 9) rfl dX11_wordsInLines_118 ?_
          refine kz_if_eq (pc := 120) (tgt := 140) (by decide) dX11_wordsInLines_120 (fun hb => ?_) (fun hb => ?_)
          · replace h := h.1 hb
            refine kz_iconst (pc := 140) (v := 0) (by decide) dX11_wordsInLines_140 ?_
            refine kz_iadd (pc := 141) dX11_wordsInLines_141 ?_
            refine kz_istore_n (pc := 142) (i := 3) (ls' := [(9, .int 0), (7, .long r10), (0, .ref x0), (1, .int x1), (2, .int x2), (4, .int x4), (5, .ref y1), (6, .int x6)]) rfl (by decide) rfl dX11_wordsInLines_142 ?_
            refine kz_iinc (pc := 143) 8 (i := 6) (v := x6 + 1) (ls' := [(3, .int (x3 + 0)), (9, .int 0), (7, .long r10), (0, .ref x0), (1, .int x1), (2, .int x2), (4, .int x4), (5, .ref y1)]) rfl (congrArg (fun z => x6 + z) (by decide)) (by decide) rfl dX11_wordsInLines_143 ?_
            refine kz_goto (pc := 146) (tgt := 51) (by decide) dX11_wordsInLines_146 ?_
            refine kz_sub [4, 5, 6, 1, 7, 8, 0] rfl ?_
            exact h
          · replace h := h.2 hb
            refine kz_aload_n (pc := 123) 2 (v := .ref x0) (i := 0) rfl rfl rfl dX11_wordsInLines_123 ?_
            obtain ⟨fs28, v29, hM, hv, h⟩ := h
            refine kz_getf (pc := 124) (k := 6) kcX11 hM hv (by decide) kw_288 dX11_wordsInLines_124 ?_
            refine kz_lload (pc := 127) 1 (i := 7) rfl dX11_wordsInLines_127 ?_
            obtain ⟨⟨fs33, he⟩, h⟩ := h
            refine kz_callV (pc := 129) (μ' := mX5_linesWith) (ci := 5) (q := (RX5, TX5, 2)) (b := v29) (d' := d + 3) (mc' := 0) (ms' := 0) (As := [.long r10]) (st := [.int x3]) (c := 0) (sl := 0) kmX5_linesWith kw_914 (by omega) rfl (Nat.le_of_ble_eq_true rfl) he rfl rfl (Nat.le_refl _) (Nat.le_refl _) dX11_wordsInLines_129 (fun E M9 hx => kz_Tout rfl (Nat.le_refl _) (Nat.le_refl _) hx) (kz_Cmono (fun v M30 h => ?_) (fun _ _ h => h) h)
            obtain ⟨r31, rfl, h⟩ := h
            show kz_Z G (d + 4) 0 0 mX11_wordsInLines Qr Qx 132 [(9, .int 0), (7, .long r10), (0, .ref x0), (1, .int x1), (2, .int x2), (3, .int x3), (4, .int x4), (5, .ref y1), (6, .int x6)] [.int r31, .int x3] M30 0 0
            refine kz_iload_n (pc := 132) 4 (i := 2) rfl rfl dX11_wordsInLines_132 ?_
            refine kz_icmp_lt (pc := 133) (tgt := 140) (by decide) dX11_wordsInLines_133 (fun hb => ?_) (fun hb => ?_)
            · replace h := h.1 hb
              refine kz_iconst (pc := 140) (v := 0) (by decide) dX11_wordsInLines_140 ?_
              refine kz_iadd (pc := 141) dX11_wordsInLines_141 ?_
              refine kz_istore_n (pc := 142) (i := 3) (ls' := [(9, .int 0), (7, .long r10), (0, .ref x0), (1, .int x1), (2, .int x2), (4, .int x4), (5, .ref y1), (6, .int x6)]) rfl (by decide) rfl dX11_wordsInLines_142 ?_
              refine kz_iinc (pc := 143) 8 (i := 6) (v := x6 + 1) (ls' := [(3, .int (x3 + 0)), (9, .int 0), (7, .long r10), (0, .ref x0), (1, .int x1), (2, .int x2), (4, .int x4), (5, .ref y1)]) rfl (congrArg (fun z => x6 + z) (by decide)) (by decide) rfl dX11_wordsInLines_143 ?_
              refine kz_goto (pc := 146) (tgt := 51) (by decide) dX11_wordsInLines_146 ?_
              refine kz_sub [4, 5, 6, 1, 7, 8, 0] rfl ?_
              exact h
            · replace h := h.2 hb
              refine kz_iconst (pc := 136) (v := 1) (by decide) dX11_wordsInLines_136 ?_
              refine kz_goto (pc := 137) (tgt := 141) (by decide) dX11_wordsInLines_137 ?_
              refine kz_iadd (pc := 141) dX11_wordsInLines_141 ?_
              refine kz_istore_n (pc := 142) (i := 3) (ls' := [(9, .int 0), (7, .long r10), (0, .ref x0), (1, .int x1), (2, .int x2), (4, .int x4), (5, .ref y1), (6, .int x6)]) rfl (by decide) rfl dX11_wordsInLines_142 ?_
              refine kz_iinc (pc := 143) 8 (i := 6) (v := x6 + 1) (ls' := [(3, .int (x3 + 1)), (9, .int 0), (7, .long r10), (0, .ref x0), (1, .int x1), (2, .int x2), (4, .int x4), (5, .ref y1)]) rfl (congrArg (fun z => x6 + z) (by decide)) (by decide) rfl dX11_wordsInLines_143 ?_
              refine kz_goto (pc := 146) (tgt := 51) (by decide) dX11_wordsInLines_146 ?_
              refine kz_sub [4, 5, 6, 1, 7, 8, 0] rfl ?_
              exact h
        · replace h := h.2 hb
          refine kz_iconst (pc := 110) (v := 1) (by decide) dX11_wordsInLines_110 ?_
          refine kz_goto (pc := 111) (tgt := 115) (by decide) dX11_wordsInLines_111 ?_
          refine kz_istore (pc := 115) (i := 9) (ls' := [(7, .long r10), (0, .ref x0), (1, .int x1), (2, .int x2), (3, .int x3), (4, .int x4), (5, .ref y1), (6, .int x6)]) (by decide) rfl dX11_wordsInLines_115 ?_
          refine kz_iload_n (pc := 117) 5 (i := 3) rfl rfl dX11_wordsInLines_117 ?_
          refine kz_iload (pc := 118) 0 (i := 9) rfl dX11_wordsInLines_118 ?_
          refine kz_if_eq (pc := 120) (tgt := 140) (by decide) dX11_wordsInLines_120 (fun hb => ?_) (fun hb => ?_)
          · replace h := h.1 hb
            refine kz_iconst (pc := 140) (v := 0) (by decide) dX11_wordsInLines_140 ?_
            refine kz_iadd (pc := 141) dX11_wordsInLines_141 ?_
            refine kz_istore_n (pc := 142) (i := 3) (ls' := [(9, .int 1), (7, .long r10), (0, .ref x0), (1, .int x1), (2, .int x2), (4, .int x4), (5, .ref y1), (6, .int x6)]) rfl (by decide) rfl dX11_wordsInLines_142 ?_
            refine kz_iinc (pc := 143) 8 (i := 6) (v := x6 + 1) (ls' := [(3, .int (x3 + 0)), (9, .int 1), (7, .long r10), (0, .ref x0), (1, .int x1), (2, .int x2), (4, .int x4), (5, .ref y1)]) rfl (congrArg (fun z => x6 + z) (by decide)) (by decide) rfl dX11_wordsInLines_143 ?_
            refine kz_goto (pc := 146) (tgt := 51) (by decide) dX11_wordsInLines_146 ?_
            refine kz_sub [4, 5, 6, 1, 7, 8, 0] rfl ?_
            exact h
          · replace h := h.2 hb
            refine kz_aload_n (pc := 123) 2 (v := .ref x0) (i := 0) rfl rfl rfl dX11_wordsInLines_123 ?_
            obtain ⟨fs34, v35, hM, hv, h⟩ := h
            refine kz_getf (pc := 124) (k := 6) kcX11 hM hv (by decide) kw_288 dX11_wordsInLines_124 ?_
            refine kz_lload (pc := 127) 1 (i := 7) rfl dX11_wordsInLines_127 ?_
            obtain ⟨⟨fs39, he⟩, h⟩ := h
            refine kz_callV (pc := 129) (μ' := mX5_linesWith) (ci := 5) (q := (RX5, TX5, 2)) (b := v35) (d' := d + 3) (mc' := 0) (ms' := 0) (As := [.long r10]) (st := [.int x3]) (c := 0) (sl := 0) kmX5_linesWith kw_914 (by omega) rfl (Nat.le_of_ble_eq_true rfl) he rfl rfl (Nat.le_refl _) (Nat.le_refl _) dX11_wordsInLines_129 (fun E M9 hx => kz_Tout rfl (Nat.le_refl _) (Nat.le_refl _) hx) (kz_Cmono (fun v M36 h => ?_) (fun _ _ h => h) h)
            obtain ⟨r37, rfl, h⟩ := h
            show kz_Z G (d + 4) 0 0 mX11_wordsInLines Qr Qx 132 [(9, .int 1), (7, .long r10), (0, .ref x0), (1, .int x1), (2, .int x2), (3, .int x3), (4, .int x4), (5, .ref y1), (6, .int x6)] [.int r37, .int x3] M36 0 0
            refine kz_iload_n (pc := 132) 4 (i := 2) rfl rfl dX11_wordsInLines_132 ?_
            refine kz_icmp_lt (pc := 133) (tgt := 140) (by decide) dX11_wordsInLines_133 (fun hb => ?_) (fun hb => ?_)
            · replace h := h.1 hb
              refine kz_iconst (pc := 140) (v := 0) (by decide) dX11_wordsInLines_140 ?_
              refine kz_iadd (pc := 141) dX11_wordsInLines_141 ?_
              refine kz_istore_n (pc := 142) (i := 3) (ls' := [(9, .int 1), (7, .long r10), (0, .ref x0), (1, .int x1), (2, .int x2), (4, .int x4), (5, .ref y1), (6, .int x6)]) rfl (by decide) rfl dX11_wordsInLines_142 ?_
              refine kz_iinc (pc := 143) 8 (i := 6) (v := x6 + 1) (ls' := [(3, .int (x3 + 0)), (9, .int 1), (7, .long r10), (0, .ref x0), (1, .int x1), (2, .int x2), (4, .int x4), (5, .ref y1)]) rfl (congrArg (fun z => x6 + z) (by decide)) (by decide) rfl dX11_wordsInLines_143 ?_
              refine kz_goto (pc := 146) (tgt := 51) (by decide) dX11_wordsInLines_146 ?_
              refine kz_sub [4, 5, 6, 1, 7, 8, 0] rfl ?_
              exact h
            · replace h := h.2 hb
              refine kz_iconst (pc := 136) (v := 1) (by decide) dX11_wordsInLines_136 ?_
              refine kz_goto (pc := 137) (tgt := 141) (by decide) dX11_wordsInLines_137 ?_
              refine kz_iadd (pc := 141) dX11_wordsInLines_141 ?_
              refine kz_istore_n (pc := 142) (i := 3) (ls' := [(9, .int 1), (7, .long r10), (0, .ref x0), (1, .int x1), (2, .int x2), (4, .int x4), (5, .ref y1), (6, .int x6)]) rfl (by decide) rfl dX11_wordsInLines_142 ?_
              refine kz_iinc (pc := 143) 8 (i := 6) (v := x6 + 1) (ls' := [(3, .int (x3 + 1)), (9, .int 1), (7, .long r10), (0, .ref x0), (1, .int x1), (2, .int x2), (4, .int x4), (5, .ref y1)]) rfl (congrArg (fun z => x6 + z) (by decide)) (by decide) rfl dX11_wordsInLines_143 ?_
              refine kz_goto (pc := 146) (tgt := 51) (by decide) dX11_wordsInLines_146 ?_
              refine kz_sub [4, 5, 6, 1, 7, 8, 0] rfl ?_
              exact h
theorem dX11_isValue_0 : decode cX11_isValue 0 = .ok (.iload_n 0, 1) := by decide +kernel
theorem dX11_isValue_1 : decode cX11_isValue 1 = .ok (.ifCond .lt 39, 3) := by decide +kernel
theorem dX11_isValue_4 : decode cX11_isValue 4 = .ok (.iload_n 0, 1) := by decide +kernel
theorem dX11_isValue_5 : decode cX11_isValue 5 = .ok (.getstatic 448, 3) := by decide +kernel
theorem dX11_isValue_8 : decode cX11_isValue 8 = .ok (.arraylength, 1) := by decide +kernel
theorem dX11_isValue_9 : decode cX11_isValue 9 = .ok (.if_icmp .ge 31, 3) := by decide +kernel
theorem dX11_isValue_12 : decode cX11_isValue 12 = .ok (.iload_n 1, 1) := by decide +kernel
theorem dX11_isValue_13 : decode cX11_isValue 13 = .ok (.getstatic 448, 3) := by decide +kernel
theorem dX11_isValue_16 : decode cX11_isValue 16 = .ok (.iload_n 0, 1) := by decide +kernel
theorem dX11_isValue_17 : decode cX11_isValue 17 = .ok (.aaload, 1) := by decide +kernel
theorem dX11_isValue_18 : decode cX11_isValue 18 = .ok (.getfield 306, 3) := by decide +kernel
theorem dX11_isValue_21 : decode cX11_isValue 21 = .ok (.if_icmp .lt 19, 3) := by decide +kernel
theorem dX11_isValue_24 : decode cX11_isValue 24 = .ok (.iload_n 1, 1) := by decide +kernel
theorem dX11_isValue_25 : decode cX11_isValue 25 = .ok (.getstatic 448, 3) := by decide +kernel
theorem dX11_isValue_28 : decode cX11_isValue 28 = .ok (.iload_n 0, 1) := by decide +kernel
theorem dX11_isValue_29 : decode cX11_isValue 29 = .ok (.aaload, 1) := by decide +kernel
theorem dX11_isValue_30 : decode cX11_isValue 30 = .ok (.getfield 309, 3) := by decide +kernel
theorem dX11_isValue_33 : decode cX11_isValue 33 = .ok (.if_icmp .gt 7, 3) := by decide +kernel
theorem dX11_isValue_36 : decode cX11_isValue 36 = .ok (.iconst 1, 1) := by decide +kernel
theorem dX11_isValue_37 : decode cX11_isValue 37 = .ok (.goto 4, 3) := by decide +kernel
theorem dX11_isValue_40 : decode cX11_isValue 40 = .ok (.iconst 0, 1) := by decide +kernel
theorem dX11_isValue_41 : decode cX11_isValue 41 = .ok (.ireturn, 1) := by decide +kernel
theorem rX11_isValue_0 {G : kz_G} {d : Nat} {Qr : Option Value → kz_M → Prop} {Qx : String → kz_M → Prop} {p0 : Int32} {p1 : Int32}  {M : kz_M} (hG : kz_stat G) (h : (p0 < 0 → Qr (some (.int 0)) M) ∧ (¬ p0 < 0 → ((10 : Int32) ≤ p0 → Qr (some (.int 0)) M) ∧ (¬ (10 : Int32) ≤ p0 → vp_in p0 10 ∧ (p0.toNatClampNeg < 10 ∧ ((p1 < (kz_lo p0.toNatClampNeg) → Qr (some (.int 0)) M) ∧ (¬ p1 < (kz_lo p0.toNatClampNeg) → vp_in p0 10 ∧ (p0.toNatClampNeg < 10 ∧ (((kz_hi p0.toNatClampNeg) < p1 → Qr (some (.int 0)) M) ∧ (¬ (kz_hi p0.toNatClampNeg) < p1 → Qr (some (.int 1)) M))))))))) : kz_C G d 0 0 mX11_isValue [.int p0, .int p1] M Qr Qx := by
  refine kz_enter (n := 2) kmX11_isValue.1 (Nat.le_of_ble_eq_true rfl) (ls := [(0, .int p0), (1, .int p1)]) rfl ?_
  refine kz_iload_n (pc := 0) 0 (i := 0) rfl rfl dX11_isValue_0 ?_
  refine kz_if_lt (pc := 1) (tgt := 40) (by decide) dX11_isValue_1 (fun hb => ?_) (fun hb => ?_)
  · replace h := h.1 hb
    refine kz_iconst (pc := 40) (v := 0) (by decide) dX11_isValue_40 ?_
    exact kz_zret (pc := 41) (ty := .boolean) rfl (by decide) (Nat.le_refl _) (Nat.le_refl _) dX11_isValue_41 h
  · replace h := h.2 hb
    refine kz_iload_n (pc := 4) 0 (i := 0) rfl rfl dX11_isValue_4 ?_
    refine kz_gets (pc := 5) (v := .retAddr 0) hG.2.2.2.1 kw_387 dX11_isValue_5 ?_
    refine kz_salen (pc := 8) (v := 10) hG.2.2.2.2.1 (by decide) dX11_isValue_8 ?_
    refine kz_icmp_ge (pc := 9) (tgt := 40) (by decide) dX11_isValue_9 (fun hb => ?_) (fun hb => ?_)
    · replace h := h.1 hb
      refine kz_iconst (pc := 40) (v := 0) (by decide) dX11_isValue_40 ?_
      exact kz_zret (pc := 41) (ty := .boolean) rfl (by decide) (Nat.le_refl _) (Nat.le_refl _) dX11_isValue_41 h
    · replace h := h.2 hb
      refine kz_iload_n (pc := 12) 1 (i := 1) rfl rfl dX11_isValue_12 ?_
      refine kz_gets (pc := 13) (v := .retAddr 0) hG.2.2.2.1 kw_387 dX11_isValue_13 ?_
      refine kz_iload_n (pc := 16) 0 (i := 0) rfl rfl dX11_isValue_16 ?_
      obtain ⟨hi, h⟩ := h
      refine kz_saald (pc := 17) (v := .retAddr (p0.toNatClampNeg + 1)) hG.2.2.2.2.1 hi rfl dX11_isValue_17 ?_
      obtain ⟨hk, h⟩ := h
      refine kz_sgetf (pc := 18) (v := .int (kz_lo p0.toNatClampNeg)) (hG.2.2.2.2.2.1 p0.toNatClampNeg hk).1 kw_1592 dX11_isValue_18 ?_
      refine kz_icmp_lt (pc := 21) (tgt := 40) (by decide) dX11_isValue_21 (fun hb => ?_) (fun hb => ?_)
      · replace h := h.1 hb
        refine kz_iconst (pc := 40) (v := 0) (by decide) dX11_isValue_40 ?_
        exact kz_zret (pc := 41) (ty := .boolean) rfl (by decide) (Nat.le_refl _) (Nat.le_refl _) dX11_isValue_41 h
      · replace h := h.2 hb
        refine kz_iload_n (pc := 24) 1 (i := 1) rfl rfl dX11_isValue_24 ?_
        refine kz_gets (pc := 25) (v := .retAddr 0) hG.2.2.2.1 kw_387 dX11_isValue_25 ?_
        refine kz_iload_n (pc := 28) 0 (i := 0) rfl rfl dX11_isValue_28 ?_
        obtain ⟨hi, h⟩ := h
        refine kz_saald (pc := 29) (v := .retAddr (p0.toNatClampNeg + 1)) hG.2.2.2.2.1 hi rfl dX11_isValue_29 ?_
        obtain ⟨hk, h⟩ := h
        refine kz_sgetf (pc := 30) (v := .int (kz_hi p0.toNatClampNeg)) (hG.2.2.2.2.2.1 p0.toNatClampNeg hk).2.1 kw_1593 dX11_isValue_30 ?_
        refine kz_icmp_gt (pc := 33) (tgt := 40) (by decide) dX11_isValue_33 (fun hb => ?_) (fun hb => ?_)
        · replace h := h.1 hb
          refine kz_iconst (pc := 40) (v := 0) (by decide) dX11_isValue_40 ?_
          exact kz_zret (pc := 41) (ty := .boolean) rfl (by decide) (Nat.le_refl _) (Nat.le_refl _) dX11_isValue_41 h
        · replace h := h.2 hb
          refine kz_iconst (pc := 36) (v := 1) (by decide) dX11_isValue_36 ?_
          refine kz_goto (pc := 37) (tgt := 41) (by decide) dX11_isValue_37 ?_
          exact kz_zret (pc := 41) (ty := .boolean) rfl (by decide) (Nat.le_refl _) (Nat.le_refl _) dX11_isValue_41 h
