/-! The rules of part 60.rstr: printed by program (wip/p51/rules2.py) -/
theorem dJ1_canEncode_fc78d_0 : decode cJ1_canEncode_fc78d 0 = .ok (.iload_n 0, 1) := by decide +kernel
theorem dJ1_canEncode_fc78d_1 : decode cJ1_canEncode_fc78d 1 = .ok (.sipush 255, 3) := by decide +kernel
theorem dJ1_canEncode_fc78d_4 : decode cJ1_canEncode_fc78d 4 = .ok (.if_icmp .gt 7, 3) := by decide +kernel
theorem dJ1_canEncode_fc78d_7 : decode cJ1_canEncode_fc78d 7 = .ok (.iconst 1, 1) := by decide +kernel
theorem dJ1_canEncode_fc78d_8 : decode cJ1_canEncode_fc78d 8 = .ok (.goto 4, 3) := by decide +kernel
theorem dJ1_canEncode_fc78d_11 : decode cJ1_canEncode_fc78d 11 = .ok (.iconst 0, 1) := by decide +kernel
theorem dJ1_canEncode_fc78d_12 : decode cJ1_canEncode_fc78d 12 = .ok (.ireturn, 1) := by decide +kernel
theorem rJ1_canEncode_fc78d_0 {G : kz_G} {d : Nat} {Qr : Option Value → kz_M → Prop} {Qx : String → kz_M → Prop} {p0 : Int32}  {M : kz_M} (h : ((255 : Int32) < p0 → Qr (some (.int 0)) M) ∧ (¬ (255 : Int32) < p0 → Qr (some (.int 1)) M)) : kz_C G d 0 0 mJ1_canEncode_fc78d [.int p0] M Qr Qx := by
  refine kz_enter (n := 1) kmJ1_canEncode_fc78d.1 (Nat.le_of_ble_eq_true rfl) (ls := [(0, .int p0)]) rfl ?_
  refine kz_iload_n (pc := 0) 0 (i := 0) rfl rfl dJ1_canEncode_fc78d_0 ?_
  refine kz_sipush (pc := 1) (v := 255) (by decide) dJ1_canEncode_fc78d_1 ?_
  refine kz_icmp_gt (pc := 4) (tgt := 11) (by decide) dJ1_canEncode_fc78d_4 (fun hb => ?_) (fun hb => ?_)
  · replace h := h.1 hb
    refine kz_iconst (pc := 11) (v := 0) (by decide) dJ1_canEncode_fc78d_11 ?_
    exact kz_zret (pc := 12) (ty := .boolean) rfl (by decide) (Nat.le_refl _) (Nat.le_refl _) dJ1_canEncode_fc78d_12 h
  · replace h := h.2 hb
    refine kz_iconst (pc := 7) (v := 1) (by decide) dJ1_canEncode_fc78d_7 ?_
    refine kz_goto (pc := 8) (tgt := 12) (by decide) dJ1_canEncode_fc78d_8 ?_
    exact kz_zret (pc := 12) (ty := .boolean) rfl (by decide) (Nat.le_refl _) (Nat.le_refl _) dJ1_canEncode_fc78d_12 h
theorem dJ6_stringSize_0f7a4_0 : decode cJ6_stringSize_0f7a4 0 = .ok (.iconst 1, 1) := by decide +kernel
theorem dJ6_stringSize_0f7a4_1 : decode cJ6_stringSize_0f7a4 1 = .ok (.istore_n 1, 1) := by decide +kernel
theorem dJ6_stringSize_0f7a4_2 : decode cJ6_stringSize_0f7a4 2 = .ok (.iload_n 0, 1) := by decide +kernel
theorem dJ6_stringSize_0f7a4_3 : decode cJ6_stringSize_0f7a4 3 = .ok (.ifCond .lt 8, 3) := by decide +kernel
theorem dJ6_stringSize_0f7a4_6 : decode cJ6_stringSize_0f7a4 6 = .ok (.iconst 0, 1) := by decide +kernel
theorem dJ6_stringSize_0f7a4_7 : decode cJ6_stringSize_0f7a4 7 = .ok (.istore_n 1, 1) := by decide +kernel
theorem dJ6_stringSize_0f7a4_8 : decode cJ6_stringSize_0f7a4 8 = .ok (.iload_n 0, 1) := by decide +kernel
theorem dJ6_stringSize_0f7a4_9 : decode cJ6_stringSize_0f7a4 9 = .ok (.ineg, 1) := by decide +kernel
theorem dJ6_stringSize_0f7a4_10 : decode cJ6_stringSize_0f7a4 10 = .ok (.istore_n 0, 1) := by decide +kernel
theorem dJ6_stringSize_0f7a4_11 : decode cJ6_stringSize_0f7a4 11 = .ok (.bipush (-10), 2) := by decide +kernel
theorem dJ6_stringSize_0f7a4_13 : decode cJ6_stringSize_0f7a4 13 = .ok (.istore_n 2, 1) := by decide +kernel
theorem dJ6_stringSize_0f7a4_14 : decode cJ6_stringSize_0f7a4 14 = .ok (.iconst 1, 1) := by decide +kernel
theorem dJ6_stringSize_0f7a4_15 : decode cJ6_stringSize_0f7a4 15 = .ok (.istore_n 3, 1) := by decide +kernel
theorem dJ6_stringSize_0f7a4_16 : decode cJ6_stringSize_0f7a4 16 = .ok (.iload_n 3, 1) := by decide +kernel
theorem dJ6_stringSize_0f7a4_17 : decode cJ6_stringSize_0f7a4 17 = .ok (.bipush 10, 2) := by decide +kernel
theorem dJ6_stringSize_0f7a4_19 : decode cJ6_stringSize_0f7a4 19 = .ok (.if_icmp .ge 23, 3) := by decide +kernel
theorem dJ6_stringSize_0f7a4_22 : decode cJ6_stringSize_0f7a4 22 = .ok (.iload_n 0, 1) := by decide +kernel
theorem dJ6_stringSize_0f7a4_23 : decode cJ6_stringSize_0f7a4 23 = .ok (.iload_n 2, 1) := by decide +kernel
theorem dJ6_stringSize_0f7a4_24 : decode cJ6_stringSize_0f7a4 24 = .ok (.if_icmp .le 7, 3) := by decide +kernel
theorem dJ6_stringSize_0f7a4_27 : decode cJ6_stringSize_0f7a4 27 = .ok (.iload_n 3, 1) := by decide +kernel
theorem dJ6_stringSize_0f7a4_28 : decode cJ6_stringSize_0f7a4 28 = .ok (.iload_n 1, 1) := by decide +kernel
theorem dJ6_stringSize_0f7a4_29 : decode cJ6_stringSize_0f7a4 29 = .ok (.iadd, 1) := by decide +kernel
theorem dJ6_stringSize_0f7a4_30 : decode cJ6_stringSize_0f7a4 30 = .ok (.ireturn, 1) := by decide +kernel
theorem dJ6_stringSize_0f7a4_31 : decode cJ6_stringSize_0f7a4 31 = .ok (.bipush 10, 2) := by decide +kernel
theorem dJ6_stringSize_0f7a4_33 : decode cJ6_stringSize_0f7a4 33 = .ok (.iload_n 2, 1) := by decide +kernel
theorem dJ6_stringSize_0f7a4_34 : decode cJ6_stringSize_0f7a4 34 = .ok (.imul, 1) := by decide +kernel
theorem dJ6_stringSize_0f7a4_35 : decode cJ6_stringSize_0f7a4 35 = .ok (.istore_n 2, 1) := by decide +kernel
theorem dJ6_stringSize_0f7a4_36 : decode cJ6_stringSize_0f7a4 36 = .ok (.iinc 3 1, 3) := by decide +kernel
theorem dJ6_stringSize_0f7a4_39 : decode cJ6_stringSize_0f7a4 39 = .ok (.goto (-23), 3) := by decide +kernel
theorem dJ6_stringSize_0f7a4_42 : decode cJ6_stringSize_0f7a4 42 = .ok (.bipush 10, 2) := by decide +kernel
theorem dJ6_stringSize_0f7a4_44 : decode cJ6_stringSize_0f7a4 44 = .ok (.iload_n 1, 1) := by decide +kernel
theorem dJ6_stringSize_0f7a4_45 : decode cJ6_stringSize_0f7a4 45 = .ok (.iadd, 1) := by decide +kernel
theorem dJ6_stringSize_0f7a4_46 : decode cJ6_stringSize_0f7a4 46 = .ok (.ireturn, 1) := by decide +kernel
def zJ6_stringSize_0f7a4_16 (G : kz_G) (d : Nat) (Qr : Option Value → kz_M → Prop) (Qx : String → kz_M → Prop) (x0 : Int32) (x1 : Int32) (x2 : Int32) (x3 : Int32)  (M : kz_M) : Prop := kz_Z G d 0 0 mJ6_stringSize_0f7a4 Qr Qx 16 [(0, .int x0), (1, .int x1), (2, .int x2), (3, .int x3)] [] M 0 0
theorem rJ6_stringSize_0f7a4_0 {G : kz_G} {d : Nat} {Qr : Option Value → kz_M → Prop} {Qx : String → kz_M → Prop} {p0 : Int32}  {M : kz_M} (h : (p0 < 0 → zJ6_stringSize_0f7a4_16 G d Qr Qx p0 1 ((-10)) 1 M) ∧ (¬ p0 < 0 → zJ6_stringSize_0f7a4_16 G d Qr Qx (-p0) 0 ((-10)) 1 M)) : kz_C G d 0 0 mJ6_stringSize_0f7a4 [.int p0] M Qr Qx := by
  refine kz_enter (n := 1) kmJ6_stringSize_0f7a4.1 (Nat.le_of_ble_eq_true rfl) (ls := [(0, .int p0)]) rfl ?_
  refine kz_iconst (pc := 0) (v := 1) (by decide) dJ6_stringSize_0f7a4_0 ?_
  refine kz_istore_n (pc := 1) (i := 1) (ls' := [(0, .int p0)]) rfl (by decide) rfl dJ6_stringSize_0f7a4_1 ?_
  refine kz_iload_n (pc := 2) 1 (i := 0) rfl rfl dJ6_stringSize_0f7a4_2 ?_
  refine kz_if_lt (pc := 3) (tgt := 11) (by decide) dJ6_stringSize_0f7a4_3 (fun hb => ?_) (fun hb => ?_)
  · replace h := h.1 hb
    refine kz_bipush (pc := 11) (v := (-10)) (by decide) dJ6_stringSize_0f7a4_11 ?_
    refine kz_istore_n (pc := 13) (i := 2) (ls' := [(1, .int 1), (0, .int p0)]) rfl (by decide) rfl dJ6_stringSize_0f7a4_13 ?_
    refine kz_iconst (pc := 14) (v := 1) (by decide) dJ6_stringSize_0f7a4_14 ?_
    refine kz_istore_n (pc := 15) (i := 3) (ls' := [(2, .int ((-10))), (1, .int 1), (0, .int p0)]) rfl (by decide) rfl dJ6_stringSize_0f7a4_15 ?_
    refine kz_sub [3, 2, 1, 0] rfl ?_
    exact h
  · replace h := h.2 hb
    refine kz_iconst (pc := 6) (v := 0) (by decide) dJ6_stringSize_0f7a4_6 ?_
    refine kz_istore_n (pc := 7) (i := 1) (ls' := [(0, .int p0)]) rfl (by decide) rfl dJ6_stringSize_0f7a4_7 ?_
    refine kz_iload_n (pc := 8) 1 (i := 0) rfl rfl dJ6_stringSize_0f7a4_8 ?_
    refine kz_ineg (pc := 9) dJ6_stringSize_0f7a4_9 ?_
    refine kz_istore_n (pc := 10) (i := 0) (ls' := [(1, .int 0)]) rfl (by decide) rfl dJ6_stringSize_0f7a4_10 ?_
    refine kz_bipush (pc := 11) (v := (-10)) (by decide) dJ6_stringSize_0f7a4_11 ?_
    refine kz_istore_n (pc := 13) (i := 2) (ls' := [(0, .int (-p0)), (1, .int 0)]) rfl (by decide) rfl dJ6_stringSize_0f7a4_13 ?_
    refine kz_iconst (pc := 14) (v := 1) (by decide) dJ6_stringSize_0f7a4_14 ?_
    refine kz_istore_n (pc := 15) (i := 3) (ls' := [(2, .int ((-10))), (0, .int (-p0)), (1, .int 0)]) rfl (by decide) rfl dJ6_stringSize_0f7a4_15 ?_
    refine kz_sub [2, 3, 1, 0] rfl ?_
    exact h
theorem rJ6_stringSize_0f7a4_16 {G : kz_G} {d : Nat} {Qr : Option Value → kz_M → Prop} {Qx : String → kz_M → Prop} {x0 : Int32} {x1 : Int32} {x2 : Int32} {x3 : Int32}  {M : kz_M} (h : ((10 : Int32) ≤ x3 → Qr (some (.int (10 + x1))) M) ∧ (¬ (10 : Int32) ≤ x3 → (x0 ≤ x2 → zJ6_stringSize_0f7a4_16 G d Qr Qx x0 x1 (10 * x2) (x3 + 1) M) ∧ (¬ x0 ≤ x2 → Qr (some (.int (x3 + x1))) M))) : zJ6_stringSize_0f7a4_16 G d Qr Qx x0 x1 x2 x3  M := by
  show kz_Z G d 0 0 mJ6_stringSize_0f7a4 Qr Qx 16 [(0, .int x0), (1, .int x1), (2, .int x2), (3, .int x3)] [] M 0 0
  refine kz_iload_n (pc := 16) 3 (i := 3) rfl rfl dJ6_stringSize_0f7a4_16 ?_
  refine kz_bipush (pc := 17) (v := 10) (by decide) dJ6_stringSize_0f7a4_17 ?_
  refine kz_icmp_ge (pc := 19) (tgt := 42) (by decide) dJ6_stringSize_0f7a4_19 (fun hb => ?_) (fun hb => ?_)
  · replace h := h.1 hb
    refine kz_bipush (pc := 42) (v := 10) (by decide) dJ6_stringSize_0f7a4_42 ?_
    refine kz_iload_n (pc := 44) 1 (i := 1) rfl rfl dJ6_stringSize_0f7a4_44 ?_
    refine kz_iadd (pc := 45) dJ6_stringSize_0f7a4_45 ?_
    exact kz_iret (pc := 46) rfl (Nat.le_refl _) (Nat.le_refl _) dJ6_stringSize_0f7a4_46 h
  · replace h := h.2 hb
    refine kz_iload_n (pc := 22) 0 (i := 0) rfl rfl dJ6_stringSize_0f7a4_22 ?_
    refine kz_iload_n (pc := 23) 2 (i := 2) rfl rfl dJ6_stringSize_0f7a4_23 ?_
    refine kz_icmp_le (pc := 24) (tgt := 31) (by decide) dJ6_stringSize_0f7a4_24 (fun hb => ?_) (fun hb => ?_)
    · replace h := h.1 hb
      refine kz_bipush (pc := 31) (v := 10) (by decide) dJ6_stringSize_0f7a4_31 ?_
      refine kz_iload_n (pc := 33) 2 (i := 2) rfl rfl dJ6_stringSize_0f7a4_33 ?_
      refine kz_imul (pc := 34) dJ6_stringSize_0f7a4_34 ?_
      refine kz_istore_n (pc := 35) (i := 2) (ls' := [(0, .int x0), (1, .int x1), (3, .int x3)]) rfl (by decide) rfl dJ6_stringSize_0f7a4_35 ?_
      refine kz_iinc (pc := 36) 3 (i := 3) (v := x3 + 1) (ls' := [(2, .int (10 * x2)), (0, .int x0), (1, .int x1)]) rfl (congrArg (fun z => x3 + z) (by decide)) (by decide) rfl dJ6_stringSize_0f7a4_36 ?_
      refine kz_goto (pc := 39) (tgt := 16) (by decide) dJ6_stringSize_0f7a4_39 ?_
      refine kz_sub [2, 3, 1, 0] rfl ?_
      exact h
    · replace h := h.2 hb
      refine kz_iload_n (pc := 27) 3 (i := 3) rfl rfl dJ6_stringSize_0f7a4_27 ?_
      refine kz_iload_n (pc := 28) 1 (i := 1) rfl rfl dJ6_stringSize_0f7a4_28 ?_
      refine kz_iadd (pc := 29) dJ6_stringSize_0f7a4_29 ?_
      exact kz_iret (pc := 30) rfl (Nat.le_refl _) (Nat.le_refl _) dJ6_stringSize_0f7a4_30 h
theorem dJ6_getChars_ba4f3_0 : decode cJ6_getChars_ba4f3 0 = .ok (.iload_n 1, 1) := by decide +kernel
theorem dJ6_getChars_ba4f3_1 : decode cJ6_getChars_ba4f3 1 = .ok (.istore 5, 2) := by decide +kernel
theorem dJ6_getChars_ba4f3_3 : decode cJ6_getChars_ba4f3 3 = .ok (.iload_n 0, 1) := by decide +kernel
theorem dJ6_getChars_ba4f3_4 : decode cJ6_getChars_ba4f3 4 = .ok (.ifCond .ge 7, 3) := by decide +kernel
theorem dJ6_getChars_ba4f3_7 : decode cJ6_getChars_ba4f3 7 = .ok (.iconst 1, 1) := by decide +kernel
theorem dJ6_getChars_ba4f3_8 : decode cJ6_getChars_ba4f3 8 = .ok (.goto 4, 3) := by decide +kernel
theorem dJ6_getChars_ba4f3_11 : decode cJ6_getChars_ba4f3 11 = .ok (.iconst 0, 1) := by decide +kernel
theorem dJ6_getChars_ba4f3_12 : decode cJ6_getChars_ba4f3 12 = .ok (.istore 6, 2) := by decide +kernel
theorem dJ6_getChars_ba4f3_14 : decode cJ6_getChars_ba4f3 14 = .ok (.iload 6, 2) := by decide +kernel
theorem dJ6_getChars_ba4f3_16 : decode cJ6_getChars_ba4f3 16 = .ok (.ifCond .ne 6, 3) := by decide +kernel
theorem dJ6_getChars_ba4f3_19 : decode cJ6_getChars_ba4f3 19 = .ok (.iload_n 0, 1) := by decide +kernel
theorem dJ6_getChars_ba4f3_20 : decode cJ6_getChars_ba4f3 20 = .ok (.ineg, 1) := by decide +kernel
theorem dJ6_getChars_ba4f3_21 : decode cJ6_getChars_ba4f3 21 = .ok (.istore_n 0, 1) := by decide +kernel
theorem dJ6_getChars_ba4f3_22 : decode cJ6_getChars_ba4f3 22 = .ok (.iload_n 0, 1) := by decide +kernel
theorem dJ6_getChars_ba4f3_23 : decode cJ6_getChars_ba4f3 23 = .ok (.bipush (-100), 2) := by decide +kernel
theorem dJ6_getChars_ba4f3_25 : decode cJ6_getChars_ba4f3 25 = .ok (.if_icmp .gt 47, 3) := by decide +kernel
theorem dJ6_getChars_ba4f3_28 : decode cJ6_getChars_ba4f3 28 = .ok (.iload_n 0, 1) := by decide +kernel
theorem dJ6_getChars_ba4f3_29 : decode cJ6_getChars_ba4f3 29 = .ok (.bipush 100, 2) := by decide +kernel
theorem dJ6_getChars_ba4f3_31 : decode cJ6_getChars_ba4f3 31 = .ok (.idiv, 1) := by decide +kernel
theorem dJ6_getChars_ba4f3_32 : decode cJ6_getChars_ba4f3 32 = .ok (.istore_n 3, 1) := by decide +kernel
theorem dJ6_getChars_ba4f3_33 : decode cJ6_getChars_ba4f3 33 = .ok (.iload_n 3, 1) := by decide +kernel
theorem dJ6_getChars_ba4f3_34 : decode cJ6_getChars_ba4f3 34 = .ok (.bipush 100, 2) := by decide +kernel
theorem dJ6_getChars_ba4f3_36 : decode cJ6_getChars_ba4f3 36 = .ok (.imul, 1) := by decide +kernel
theorem dJ6_getChars_ba4f3_37 : decode cJ6_getChars_ba4f3 37 = .ok (.iload_n 0, 1) := by decide +kernel
theorem dJ6_getChars_ba4f3_38 : decode cJ6_getChars_ba4f3 38 = .ok (.isub, 1) := by decide +kernel
theorem dJ6_getChars_ba4f3_39 : decode cJ6_getChars_ba4f3 39 = .ok (.istore 4, 2) := by decide +kernel
theorem dJ6_getChars_ba4f3_41 : decode cJ6_getChars_ba4f3 41 = .ok (.iload_n 3, 1) := by decide +kernel
theorem dJ6_getChars_ba4f3_42 : decode cJ6_getChars_ba4f3 42 = .ok (.istore_n 0, 1) := by decide +kernel
theorem dJ6_getChars_ba4f3_43 : decode cJ6_getChars_ba4f3 43 = .ok (.aload_n 2, 1) := by decide +kernel
theorem dJ6_getChars_ba4f3_44 : decode cJ6_getChars_ba4f3 44 = .ok (.iinc 5 (-1), 3) := by decide +kernel
theorem dJ6_getChars_ba4f3_47 : decode cJ6_getChars_ba4f3 47 = .ok (.iload 5, 2) := by decide +kernel
theorem dJ6_getChars_ba4f3_49 : decode cJ6_getChars_ba4f3 49 = .ok (.getstatic 83, 3) := by decide +kernel
theorem dJ6_getChars_ba4f3_52 : decode cJ6_getChars_ba4f3 52 = .ok (.iload 4, 2) := by decide +kernel
theorem dJ6_getChars_ba4f3_54 : decode cJ6_getChars_ba4f3 54 = .ok (.baload, 1) := by decide +kernel
theorem dJ6_getChars_ba4f3_55 : decode cJ6_getChars_ba4f3 55 = .ok (.bastore, 1) := by decide +kernel
theorem dJ6_getChars_ba4f3_56 : decode cJ6_getChars_ba4f3 56 = .ok (.aload_n 2, 1) := by decide +kernel
theorem dJ6_getChars_ba4f3_57 : decode cJ6_getChars_ba4f3 57 = .ok (.iinc 5 (-1), 3) := by decide +kernel
theorem dJ6_getChars_ba4f3_60 : decode cJ6_getChars_ba4f3 60 = .ok (.iload 5, 2) := by decide +kernel
theorem dJ6_getChars_ba4f3_62 : decode cJ6_getChars_ba4f3 62 = .ok (.getstatic 87, 3) := by decide +kernel
theorem dJ6_getChars_ba4f3_65 : decode cJ6_getChars_ba4f3 65 = .ok (.iload 4, 2) := by decide +kernel
theorem dJ6_getChars_ba4f3_67 : decode cJ6_getChars_ba4f3 67 = .ok (.baload, 1) := by decide +kernel
theorem dJ6_getChars_ba4f3_68 : decode cJ6_getChars_ba4f3 68 = .ok (.bastore, 1) := by decide +kernel
theorem dJ6_getChars_ba4f3_69 : decode cJ6_getChars_ba4f3 69 = .ok (.goto (-47), 3) := by decide +kernel
theorem dJ6_getChars_ba4f3_72 : decode cJ6_getChars_ba4f3 72 = .ok (.aload_n 2, 1) := by decide +kernel
theorem dJ6_getChars_ba4f3_73 : decode cJ6_getChars_ba4f3 73 = .ok (.iinc 5 (-1), 3) := by decide +kernel
theorem dJ6_getChars_ba4f3_76 : decode cJ6_getChars_ba4f3 76 = .ok (.iload 5, 2) := by decide +kernel
theorem dJ6_getChars_ba4f3_78 : decode cJ6_getChars_ba4f3 78 = .ok (.getstatic 83, 3) := by decide +kernel
theorem dJ6_getChars_ba4f3_81 : decode cJ6_getChars_ba4f3 81 = .ok (.iload_n 0, 1) := by decide +kernel
theorem dJ6_getChars_ba4f3_82 : decode cJ6_getChars_ba4f3 82 = .ok (.ineg, 1) := by decide +kernel
theorem dJ6_getChars_ba4f3_83 : decode cJ6_getChars_ba4f3 83 = .ok (.baload, 1) := by decide +kernel
theorem dJ6_getChars_ba4f3_84 : decode cJ6_getChars_ba4f3 84 = .ok (.bastore, 1) := by decide +kernel
theorem dJ6_getChars_ba4f3_85 : decode cJ6_getChars_ba4f3 85 = .ok (.iload_n 0, 1) := by decide +kernel
theorem dJ6_getChars_ba4f3_86 : decode cJ6_getChars_ba4f3 86 = .ok (.bipush (-9), 2) := by decide +kernel
theorem dJ6_getChars_ba4f3_88 : decode cJ6_getChars_ba4f3 88 = .ok (.if_icmp .ge 16, 3) := by decide +kernel
theorem dJ6_getChars_ba4f3_91 : decode cJ6_getChars_ba4f3 91 = .ok (.aload_n 2, 1) := by decide +kernel
theorem dJ6_getChars_ba4f3_92 : decode cJ6_getChars_ba4f3 92 = .ok (.iinc 5 (-1), 3) := by decide +kernel
theorem dJ6_getChars_ba4f3_95 : decode cJ6_getChars_ba4f3 95 = .ok (.iload 5, 2) := by decide +kernel
theorem dJ6_getChars_ba4f3_97 : decode cJ6_getChars_ba4f3 97 = .ok (.getstatic 87, 3) := by decide +kernel
theorem dJ6_getChars_ba4f3_100 : decode cJ6_getChars_ba4f3 100 = .ok (.iload_n 0, 1) := by decide +kernel
theorem dJ6_getChars_ba4f3_101 : decode cJ6_getChars_ba4f3 101 = .ok (.ineg, 1) := by decide +kernel
theorem dJ6_getChars_ba4f3_102 : decode cJ6_getChars_ba4f3 102 = .ok (.baload, 1) := by decide +kernel
theorem dJ6_getChars_ba4f3_103 : decode cJ6_getChars_ba4f3 103 = .ok (.bastore, 1) := by decide +kernel
theorem dJ6_getChars_ba4f3_104 : decode cJ6_getChars_ba4f3 104 = .ok (.iload 6, 2) := by decide +kernel
theorem dJ6_getChars_ba4f3_106 : decode cJ6_getChars_ba4f3 106 = .ok (.ifCond .eq 12, 3) := by decide +kernel
theorem dJ6_getChars_ba4f3_109 : decode cJ6_getChars_ba4f3 109 = .ok (.aload_n 2, 1) := by decide +kernel
theorem dJ6_getChars_ba4f3_110 : decode cJ6_getChars_ba4f3 110 = .ok (.iinc 5 (-1), 3) := by decide +kernel
theorem dJ6_getChars_ba4f3_113 : decode cJ6_getChars_ba4f3 113 = .ok (.iload 5, 2) := by decide +kernel
theorem dJ6_getChars_ba4f3_115 : decode cJ6_getChars_ba4f3 115 = .ok (.bipush 45, 2) := by decide +kernel
theorem dJ6_getChars_ba4f3_117 : decode cJ6_getChars_ba4f3 117 = .ok (.bastore, 1) := by decide +kernel
theorem dJ6_getChars_ba4f3_118 : decode cJ6_getChars_ba4f3 118 = .ok (.iload 5, 2) := by decide +kernel
theorem dJ6_getChars_ba4f3_120 : decode cJ6_getChars_ba4f3 120 = .ok (.ireturn, 1) := by decide +kernel
def zJ6_getChars_ba4f3_22 (G : kz_G) (d : Nat) (Qr : Option Value → kz_M → Prop) (Qx : String → kz_M → Prop) (x0 : Int32) (x2 : Nat) (x5 : Int32) (x6 : Int32)  (M : kz_M) : Prop := kz_Z G d 0 0 mJ6_getChars_ba4f3 Qr Qx 22 [(0, .int x0), (2, .ref x2), (5, .int x5), (6, .int x6)] [] M 0 0
theorem rJ6_getChars_ba4f3_0 {G : kz_G} {d : Nat} {Qr : Option Value → kz_M → Prop} {Qx : String → kz_M → Prop} {p0 : Int32} {p1 : Int32} {p2 : Nat}  {M : kz_M} (h : (0 ≤ p0 → (¬ (0 : Int32) = 0 → zJ6_getChars_ba4f3_22 G d Qr Qx p0 p2 p1 0 M) ∧ ((0 : Int32) = 0 → zJ6_getChars_ba4f3_22 G d Qr Qx (-p0) p2 p1 0 M)) ∧ (¬ 0 ≤ p0 → (¬ (1 : Int32) = 0 → zJ6_getChars_ba4f3_22 G d Qr Qx p0 p2 p1 1 M) ∧ ((1 : Int32) = 0 → zJ6_getChars_ba4f3_22 G d Qr Qx (-p0) p2 p1 1 M))) : kz_C G d 0 0 mJ6_getChars_ba4f3 [.int p0, .int p1, .ref p2] M Qr Qx := by
  refine kz_enter (n := 3) kmJ6_getChars_ba4f3.1 (Nat.le_of_ble_eq_true rfl) (ls := [(0, .int p0), (1, .int p1), (2, .ref p2)]) rfl ?_
  refine kz_iload_n (pc := 0) 1 (i := 1) rfl rfl dJ6_getChars_ba4f3_0 ?_
  refine kz_istore (pc := 1) (i := 5) (ls' := [(0, .int p0), (1, .int p1), (2, .ref p2)]) (by decide) rfl dJ6_getChars_ba4f3_1 ?_
  refine kz_iload_n (pc := 3) 1 (i := 0) rfl rfl dJ6_getChars_ba4f3_3 ?_
  refine kz_if_ge (pc := 4) (tgt := 11) (by decide) dJ6_getChars_ba4f3_4 (fun hb => ?_) (fun hb => ?_)
  · replace h := h.1 hb
    refine kz_iconst (pc := 11) (v := 0) (by decide) dJ6_getChars_ba4f3_11 ?_
    refine kz_istore (pc := 12) (i := 6) (ls' := [(5, .int p1), (0, .int p0), (1, .int p1), (2, .ref p2)]) (by decide) rfl dJ6_getChars_ba4f3_12 ?_
    refine kz_iload (pc := 14) 0 (i := 6) rfl dJ6_getChars_ba4f3_14 ?_
    refine kz_if_ne (pc := 16) (tgt := 22) (by decide) dJ6_getChars_ba4f3_16 (fun hb => ?_) (fun hb => ?_)
    · replace h := h.1 hb
      refine kz_sub [2, 4, 1, 0] rfl ?_
      exact h
    · replace h := h.2 hb
      refine kz_iload_n (pc := 19) 2 (i := 0) rfl rfl dJ6_getChars_ba4f3_19 ?_
      refine kz_ineg (pc := 20) dJ6_getChars_ba4f3_20 ?_
      refine kz_istore_n (pc := 21) (i := 0) (ls' := [(6, .int 0), (5, .int p1), (1, .int p1), (2, .ref p2)]) rfl (by decide) rfl dJ6_getChars_ba4f3_21 ?_
      refine kz_sub [0, 4, 2, 1] rfl ?_
      exact h
  · replace h := h.2 hb
    refine kz_iconst (pc := 7) (v := 1) (by decide) dJ6_getChars_ba4f3_7 ?_
    refine kz_goto (pc := 8) (tgt := 12) (by decide) dJ6_getChars_ba4f3_8 ?_
    refine kz_istore (pc := 12) (i := 6) (ls' := [(5, .int p1), (0, .int p0), (1, .int p1), (2, .ref p2)]) (by decide) rfl dJ6_getChars_ba4f3_12 ?_
    refine kz_iload (pc := 14) 0 (i := 6) rfl dJ6_getChars_ba4f3_14 ?_
    refine kz_if_ne (pc := 16) (tgt := 22) (by decide) dJ6_getChars_ba4f3_16 (fun hb => ?_) (fun hb => ?_)
    · replace h := h.1 hb
      refine kz_sub [2, 4, 1, 0] rfl ?_
      exact h
    · replace h := h.2 hb
      refine kz_iload_n (pc := 19) 2 (i := 0) rfl rfl dJ6_getChars_ba4f3_19 ?_
      refine kz_ineg (pc := 20) dJ6_getChars_ba4f3_20 ?_
      refine kz_istore_n (pc := 21) (i := 0) (ls' := [(6, .int 1), (5, .int p1), (1, .int p1), (2, .ref p2)]) rfl (by decide) rfl dJ6_getChars_ba4f3_21 ?_
      refine kz_sub [0, 4, 2, 1] rfl ?_
      exact h
theorem rJ6_getChars_ba4f3_22 {G : kz_G} {d : Nat} {Qr : Option Value → kz_M → Prop} {Qx : String → kz_M → Prop} {x0 : Int32} {x2 : Nat} {x5 : Int32} {x6 : Int32}  {M : kz_M} (hG2 : kz_stat2 G) (h : (((-100) : Int32) < x0 → vp_in (-x0) 100 ∧ (∃ n1 f2, (M).1 x2 = some (.inr (.byte, n1, .inl f2)) ∧ vp_in (x5 + (-1)) n1 ∧ ((((-9) : Int32) ≤ x0 → (x6 = 0 → Qr (some (.int (x5 + (-1)))) (kz_up M x2 (.inr (.byte, n1, .inl (upd f2 (x5 + (-1) : Int32).toNatClampNeg (vp_nar .byte (nI (48 + (Int32.toNatClampNeg ((-x0))) % 10)))))))) ∧ (¬ x6 = 0 → ∃ n3 f4, ((kz_up M x2 (.inr (.byte, n1, .inl (upd f2 (x5 + (-1) : Int32).toNatClampNeg (vp_nar .byte (nI (48 + (Int32.toNatClampNeg ((-x0))) % 10)))))))).1 x2 = some (.inr (.byte, n3, .inl f4)) ∧ vp_in ((x5 + (-1)) + (-1)) n3 ∧ (∀ M5, M5 = kz_up (kz_up M x2 (.inr (.byte, n1, .inl (upd f2 (x5 + (-1) : Int32).toNatClampNeg (vp_nar .byte (nI (48 + (Int32.toNatClampNeg ((-x0))) % 10))))))) x2 (.inr (.byte, n3, .inl (upd f4 ((x5 + (-1)) + (-1) : Int32).toNatClampNeg (vp_nar .byte 45)))) → Qr (some (.int ((x5 + (-1)) + (-1)))) M5))) ∧ (¬ ((-9) : Int32) ≤ x0 → vp_in (-x0) 100 ∧ (∃ n6 f7, ((kz_up M x2 (.inr (.byte, n1, .inl (upd f2 (x5 + (-1) : Int32).toNatClampNeg (vp_nar .byte (nI (48 + (Int32.toNatClampNeg ((-x0))) % 10)))))))).1 x2 = some (.inr (.byte, n6, .inl f7)) ∧ vp_in ((x5 + (-1)) + (-1)) n6 ∧ (∀ M8, M8 = kz_up (kz_up M x2 (.inr (.byte, n1, .inl (upd f2 (x5 + (-1) : Int32).toNatClampNeg (vp_nar .byte (nI (48 + (Int32.toNatClampNeg ((-x0))) % 10))))))) x2 (.inr (.byte, n6, .inl (upd f7 ((x5 + (-1)) + (-1) : Int32).toNatClampNeg (vp_nar .byte (nI (48 + (Int32.toNatClampNeg ((-x0))) / 10)))))) → (x6 = 0 → Qr (some (.int ((x5 + (-1)) + (-1)))) M8) ∧ (¬ x6 = 0 → ∃ n9 f10, (M8).1 x2 = some (.inr (.byte, n9, .inl f10)) ∧ vp_in (((x5 + (-1)) + (-1)) + (-1)) n9 ∧ (Qr (some (.int (((x5 + (-1)) + (-1)) + (-1)))) (kz_up M8 x2 (.inr (.byte, n9, .inl (upd f10 (((x5 + (-1)) + (-1)) + (-1) : Int32).toNatClampNeg (vp_nar .byte 45))))))))))))) ∧ (¬ ((-100) : Int32) < x0 → vp_in (((x0 / 100) * 100) - x0) 100 ∧ (∃ n11 f12, (M).1 x2 = some (.inr (.byte, n11, .inl f12)) ∧ vp_in (x5 + (-1)) n11 ∧ (∀ M13, M13 = kz_up M x2 (.inr (.byte, n11, .inl (upd f12 (x5 + (-1) : Int32).toNatClampNeg (vp_nar .byte (nI (48 + (Int32.toNatClampNeg ((((x0 / 100) * 100) - x0))) % 10)))))) → vp_in (((x0 / 100) * 100) - x0) 100 ∧ (∃ n14 f15, (M13).1 x2 = some (.inr (.byte, n14, .inl f15)) ∧ vp_in ((x5 + (-1)) + (-1)) n14 ∧ (∀ M16, M16 = kz_up M13 x2 (.inr (.byte, n14, .inl (upd f15 ((x5 + (-1)) + (-1) : Int32).toNatClampNeg (vp_nar .byte (nI (48 + (Int32.toNatClampNeg ((((x0 / 100) * 100) - x0))) / 10)))))) → zJ6_getChars_ba4f3_22 G d Qr Qx (x0 / 100) x2 ((x5 + (-1)) + (-1)) x6 M16)))))) : zJ6_getChars_ba4f3_22 G d Qr Qx x0 x2 x5 x6  M := by
  show kz_Z G d 0 0 mJ6_getChars_ba4f3 Qr Qx 22 [(0, .int x0), (2, .ref x2), (5, .int x5), (6, .int x6)] [] M 0 0
  refine kz_iload_n (pc := 22) 0 (i := 0) rfl rfl dJ6_getChars_ba4f3_22 ?_
  refine kz_bipush (pc := 23) (v := (-100)) (by decide) dJ6_getChars_ba4f3_23 ?_
  refine kz_icmp_gt (pc := 25) (tgt := 72) (by decide) dJ6_getChars_ba4f3_25 (fun hb => ?_) (fun hb => ?_)
  · replace h := h.1 hb
    refine kz_aload_n (pc := 72) 1 (v := .ref x2) (i := 2) rfl rfl rfl dJ6_getChars_ba4f3_72 ?_
    refine kz_iinc (pc := 73) 2 (i := 5) (v := x5 + (-1)) (ls' := [(0, .int x0), (2, .ref x2), (6, .int x6)]) rfl (congrArg (fun z => x5 + z) (by decide)) (by decide) rfl dJ6_getChars_ba4f3_73 ?_
    refine kz_iload (pc := 76) 0 (i := 5) rfl dJ6_getChars_ba4f3_76 ?_
    refine kz_gets (pc := 78) (v := .retAddr 3003) hG2.2.2.1 kw_628 dJ6_getChars_ba4f3_78 ?_
    refine kz_iload_n (pc := 81) 1 (i := 0) rfl rfl dJ6_getChars_ba4f3_81 ?_
    refine kz_ineg (pc := 82) dJ6_getChars_ba4f3_82 ?_
    obtain ⟨hi, h⟩ := h
    refine kz_sbald (pc := 83) (x := nI (48 + (Int32.toNatClampNeg ((-x0))) % 10)) hG2.2.2.2.1 hi rfl dJ6_getChars_ba4f3_83 ?_
    obtain ⟨n1, f2, hM, hi, h⟩ := h
    refine kz_bast (pc := 84) hM hi dJ6_getChars_ba4f3_84 ?_
    refine kz_iload_n (pc := 85) 1 (i := 0) rfl rfl dJ6_getChars_ba4f3_85 ?_
    refine kz_bipush (pc := 86) (v := (-9)) (by decide) dJ6_getChars_ba4f3_86 ?_
    refine kz_icmp_ge (pc := 88) (tgt := 104) (by decide) dJ6_getChars_ba4f3_88 (fun hb => ?_) (fun hb => ?_)
    · replace h := h.1 hb
      refine kz_iload (pc := 104) 3 (i := 6) rfl dJ6_getChars_ba4f3_104 ?_
      refine kz_if_eq (pc := 106) (tgt := 118) (by decide) dJ6_getChars_ba4f3_106 (fun hb => ?_) (fun hb => ?_)
      · replace h := h.1 hb
        refine kz_iload (pc := 118) 0 (i := 5) rfl dJ6_getChars_ba4f3_118 ?_
        exact kz_iret (pc := 120) rfl (Nat.le_refl _) (Nat.le_refl _) dJ6_getChars_ba4f3_120 h
      · replace h := h.2 hb
        refine kz_aload_n (pc := 109) 2 (v := .ref x2) (i := 2) rfl rfl rfl dJ6_getChars_ba4f3_109 ?_
        refine kz_iinc (pc := 110) 0 (i := 5) (v := (x5 + (-1)) + (-1)) (ls' := [(0, .int x0), (2, .ref x2), (6, .int x6)]) rfl (congrArg (fun z => (x5 + (-1)) + z) (by decide)) (by decide) rfl dJ6_getChars_ba4f3_110 ?_
        refine kz_iload (pc := 113) 0 (i := 5) rfl dJ6_getChars_ba4f3_113 ?_
        refine kz_bipush (pc := 115) (v := 45) (by decide) dJ6_getChars_ba4f3_115 ?_
        obtain ⟨n3, f4, hM, hi, h⟩ := h
        refine kz_bast (pc := 117) hM hi dJ6_getChars_ba4f3_117 ?_
        refine kz_nameM (fun M5 e9 => ?_)
        replace h := h M5 e9
        refine kz_iload (pc := 118) 0 (i := 5) rfl dJ6_getChars_ba4f3_118 ?_
        exact kz_iret (pc := 120) rfl (Nat.le_refl _) (Nat.le_refl _) dJ6_getChars_ba4f3_120 h
    · replace h := h.2 hb
      refine kz_aload_n (pc := 91) 2 (v := .ref x2) (i := 2) rfl rfl rfl dJ6_getChars_ba4f3_91 ?_
      refine kz_iinc (pc := 92) 0 (i := 5) (v := (x5 + (-1)) + (-1)) (ls' := [(0, .int x0), (2, .ref x2), (6, .int x6)]) rfl (congrArg (fun z => (x5 + (-1)) + z) (by decide)) (by decide) rfl dJ6_getChars_ba4f3_92 ?_
      refine kz_iload (pc := 95) 0 (i := 5) rfl dJ6_getChars_ba4f3_95 ?_
      refine kz_gets (pc := 97) (v := .retAddr 3004) hG2.2.2.2.2.1 kw_630 dJ6_getChars_ba4f3_97 ?_
      refine kz_iload_n (pc := 100) 1 (i := 0) rfl rfl dJ6_getChars_ba4f3_100 ?_
      refine kz_ineg (pc := 101) dJ6_getChars_ba4f3_101 ?_
      obtain ⟨hi, h⟩ := h
      refine kz_sbald (pc := 102) (x := nI (48 + (Int32.toNatClampNeg ((-x0))) / 10)) hG2.2.2.2.2.2.1 hi rfl dJ6_getChars_ba4f3_102 ?_
      obtain ⟨n6, f7, hM, hi, h⟩ := h
      refine kz_bast (pc := 103) hM hi dJ6_getChars_ba4f3_103 ?_
      refine kz_nameM (fun M8 e9 => ?_)
      replace h := h M8 e9
      refine kz_iload (pc := 104) 3 (i := 6) rfl dJ6_getChars_ba4f3_104 ?_
      refine kz_if_eq (pc := 106) (tgt := 118) (by decide) dJ6_getChars_ba4f3_106 (fun hb => ?_) (fun hb => ?_)
      · replace h := h.1 hb
        refine kz_iload (pc := 118) 0 (i := 5) rfl dJ6_getChars_ba4f3_118 ?_
        exact kz_iret (pc := 120) rfl (Nat.le_refl _) (Nat.le_refl _) dJ6_getChars_ba4f3_120 h
      · replace h := h.2 hb
        refine kz_aload_n (pc := 109) 2 (v := .ref x2) (i := 2) rfl rfl rfl dJ6_getChars_ba4f3_109 ?_
        refine kz_iinc (pc := 110) 0 (i := 5) (v := ((x5 + (-1)) + (-1)) + (-1)) (ls' := [(0, .int x0), (2, .ref x2), (6, .int x6)]) rfl (congrArg (fun z => ((x5 + (-1)) + (-1)) + z) (by decide)) (by decide) rfl dJ6_getChars_ba4f3_110 ?_
        refine kz_iload (pc := 113) 0 (i := 5) rfl dJ6_getChars_ba4f3_113 ?_
        refine kz_bipush (pc := 115) (v := 45) (by decide) dJ6_getChars_ba4f3_115 ?_
        obtain ⟨n9, f10, hM, hi, h⟩ := h
        refine kz_bast (pc := 117) hM hi dJ6_getChars_ba4f3_117 ?_
        refine kz_iload (pc := 118) 0 (i := 5) rfl dJ6_getChars_ba4f3_118 ?_
        exact kz_iret (pc := 120) rfl (Nat.le_refl _) (Nat.le_refl _) dJ6_getChars_ba4f3_120 h
  · replace h := h.2 hb
    refine kz_iload_n (pc := 28) 0 (i := 0) rfl rfl dJ6_getChars_ba4f3_28 ?_
    refine kz_bipush (pc := 29) (v := 100) (by decide) dJ6_getChars_ba4f3_29 ?_
    refine kz_idiv (pc := 31) (by decide) dJ6_getChars_ba4f3_31 ?_
    refine kz_istore_n (pc := 32) (i := 3) (ls' := [(0, .int x0), (2, .ref x2), (5, .int x5), (6, .int x6)]) rfl (by decide) rfl dJ6_getChars_ba4f3_32 ?_
    refine kz_iload_n (pc := 33) 0 (i := 3) rfl rfl dJ6_getChars_ba4f3_33 ?_
    refine kz_bipush (pc := 34) (v := 100) (by decide) dJ6_getChars_ba4f3_34 ?_
    refine kz_imul (pc := 36) dJ6_getChars_ba4f3_36 ?_
    refine kz_iload_n (pc := 37) 1 (i := 0) rfl rfl dJ6_getChars_ba4f3_37 ?_
    refine kz_isub (pc := 38) dJ6_getChars_ba4f3_38 ?_
    refine kz_istore (pc := 39) (i := 4) (ls' := [(3, .int (x0 / 100)), (0, .int x0), (2, .ref x2), (5, .int x5), (6, .int x6)]) (by decide) rfl dJ6_getChars_ba4f3_39 ?_
    refine kz_iload_n (pc := 41) 1 (i := 3) rfl rfl dJ6_getChars_ba4f3_41 ?_
    refine kz_istore_n (pc := 42) (i := 0) (ls' := [(4, .int (((x0 / 100) * 100) - x0)), (3, .int (x0 / 100)), (2, .ref x2), (5, .int x5), (6, .int x6)]) rfl (by decide) rfl dJ6_getChars_ba4f3_42 ?_
    refine kz_aload_n (pc := 43) 3 (v := .ref x2) (i := 2) rfl rfl rfl dJ6_getChars_ba4f3_43 ?_
    refine kz_iinc (pc := 44) 4 (i := 5) (v := x5 + (-1)) (ls' := [(0, .int (x0 / 100)), (4, .int (((x0 / 100) * 100) - x0)), (3, .int (x0 / 100)), (2, .ref x2), (6, .int x6)]) rfl (congrArg (fun z => x5 + z) (by decide)) (by decide) rfl dJ6_getChars_ba4f3_44 ?_
    refine kz_iload (pc := 47) 0 (i := 5) rfl dJ6_getChars_ba4f3_47 ?_
    refine kz_gets (pc := 49) (v := .retAddr 3003) hG2.2.2.1 kw_628 dJ6_getChars_ba4f3_49 ?_
    refine kz_iload (pc := 52) 2 (i := 4) rfl dJ6_getChars_ba4f3_52 ?_
    obtain ⟨hi, h⟩ := h
    refine kz_sbald (pc := 54) (x := nI (48 + (Int32.toNatClampNeg ((((x0 / 100) * 100) - x0))) % 10)) hG2.2.2.2.1 hi rfl dJ6_getChars_ba4f3_54 ?_
    obtain ⟨n11, f12, hM, hi, h⟩ := h
    refine kz_bast (pc := 55) hM hi dJ6_getChars_ba4f3_55 ?_
    refine kz_nameM (fun M13 e9 => ?_)
    replace h := h M13 e9
    refine kz_aload_n (pc := 56) 4 (v := .ref x2) (i := 2) rfl rfl rfl dJ6_getChars_ba4f3_56 ?_
    refine kz_iinc (pc := 57) 0 (i := 5) (v := (x5 + (-1)) + (-1)) (ls' := [(0, .int (x0 / 100)), (4, .int (((x0 / 100) * 100) - x0)), (3, .int (x0 / 100)), (2, .ref x2), (6, .int x6)]) rfl (congrArg (fun z => (x5 + (-1)) + z) (by decide)) (by decide) rfl dJ6_getChars_ba4f3_57 ?_
    refine kz_iload (pc := 60) 0 (i := 5) rfl dJ6_getChars_ba4f3_60 ?_
    refine kz_gets (pc := 62) (v := .retAddr 3004) hG2.2.2.2.2.1 kw_630 dJ6_getChars_ba4f3_62 ?_
    refine kz_iload (pc := 65) 2 (i := 4) rfl dJ6_getChars_ba4f3_65 ?_
    obtain ⟨hi, h⟩ := h
    refine kz_sbald (pc := 67) (x := nI (48 + (Int32.toNatClampNeg ((((x0 / 100) * 100) - x0))) / 10)) hG2.2.2.2.2.2.1 hi rfl dJ6_getChars_ba4f3_67 ?_
    obtain ⟨n14, f15, hM, hi, h⟩ := h
    refine kz_bast (pc := 68) hM hi dJ6_getChars_ba4f3_68 ?_
    refine kz_nameM (fun M16 e9 => ?_)
    replace h := h M16 e9
    refine kz_goto (pc := 69) (tgt := 22) (by decide) dJ6_getChars_ba4f3_69 ?_
    refine kz_sub [1, 4, 0, 5] rfl ?_
    exact h
theorem dJ8_newLength_cabcc_0 : decode cJ8_newLength_cabcc 0 = .ok (.iload_n 0, 1) := by decide +kernel
theorem dJ8_newLength_cabcc_1 : decode cJ8_newLength_cabcc 1 = .ok (.iload_n 1, 1) := by decide +kernel
theorem dJ8_newLength_cabcc_2 : decode cJ8_newLength_cabcc 2 = .ok (.iload_n 2, 1) := by decide +kernel
theorem dJ8_newLength_cabcc_3 : decode cJ8_newLength_cabcc 3 = .ok (.invokestatic 194, 3) := by decide +kernel
theorem dJ8_newLength_cabcc_6 : decode cJ8_newLength_cabcc 6 = .ok (.iadd, 1) := by decide +kernel
theorem dJ8_newLength_cabcc_7 : decode cJ8_newLength_cabcc 7 = .ok (.istore_n 3, 1) := by decide +kernel
theorem dJ8_newLength_cabcc_8 : decode cJ8_newLength_cabcc 8 = .ok (.iconst 0, 1) := by decide +kernel
theorem dJ8_newLength_cabcc_9 : decode cJ8_newLength_cabcc 9 = .ok (.iload_n 3, 1) := by decide +kernel
theorem dJ8_newLength_cabcc_10 : decode cJ8_newLength_cabcc 10 = .ok (.if_icmp .ge 11, 3) := by decide +kernel
theorem dJ8_newLength_cabcc_13 : decode cJ8_newLength_cabcc 13 = .ok (.iload_n 3, 1) := by decide +kernel
theorem dJ8_newLength_cabcc_14 : decode cJ8_newLength_cabcc 14 = .ok (.ldc 200, 2) := by decide +kernel
theorem dJ8_newLength_cabcc_16 : decode cJ8_newLength_cabcc 16 = .ok (.if_icmp .gt 5, 3) := by decide +kernel
theorem dJ8_newLength_cabcc_19 : decode cJ8_newLength_cabcc 19 = .ok (.iload_n 3, 1) := by decide +kernel
theorem dJ8_newLength_cabcc_20 : decode cJ8_newLength_cabcc 20 = .ok (.ireturn, 1) := by decide +kernel
theorem dJ8_newLength_cabcc_21 : decode cJ8_newLength_cabcc 21 = .ok (.iload_n 0, 1) := by decide +kernel
theorem dJ8_newLength_cabcc_22 : decode cJ8_newLength_cabcc 22 = .ok (.iload_n 1, 1) := by decide +kernel
theorem dJ8_newLength_cabcc_23 : decode cJ8_newLength_cabcc 23 = .ok (.invokestatic 201, 3) := by decide +kernel
theorem dJ8_newLength_cabcc_26 : decode cJ8_newLength_cabcc 26 = .ok (.ireturn, 1) := by decide +kernel
theorem rJ8_newLength_cabcc_0 {G : kz_G} {d : Nat} {Qr : Option Value → kz_M → Prop} {Qx : String → kz_M → Prop} {p0 : Int32} {p1 : Int32} {p2 : Int32}  {M : kz_M} (h : ((p0 + (if p1 < p2 then p2 else p1)) ≤ (0 : Int32) → False) ∧ (¬ (p0 + (if p1 < p2 then p2 else p1)) ≤ (0 : Int32) → ((2147483639 : Int32) < (p0 + (if p1 < p2 then p2 else p1)) → False) ∧ (¬ (2147483639 : Int32) < (p0 + (if p1 < p2 then p2 else p1)) → Qr (some (.int (p0 + (if p1 < p2 then p2 else p1)))) M))) : kz_C G (d + 1) 0 0 mJ8_newLength_cabcc [.int p0, .int p1, .int p2] M Qr Qx := by
  refine kz_enter (n := 3) kmJ8_newLength_cabcc.1 (Nat.le_of_ble_eq_true rfl) (ls := [(0, .int p0), (1, .int p1), (2, .int p2)]) rfl ?_
  refine kz_iload_n (pc := 0) 0 (i := 0) rfl rfl dJ8_newLength_cabcc_0 ?_
  refine kz_iload_n (pc := 1) 1 (i := 1) rfl rfl dJ8_newLength_cabcc_1 ?_
  refine kz_iload_n (pc := 2) 2 (i := 2) rfl rfl dJ8_newLength_cabcc_2 ?_
  refine kz_mmax (pc := 3) kw_538 kw_539 kw_9 kw_540 (by omega) (Nat.le_of_ble_eq_true rfl) (Nat.le_refl _) (Nat.le_refl _) dJ8_newLength_cabcc_3 ?_
  refine kz_iadd (pc := 6) dJ8_newLength_cabcc_6 ?_
  refine kz_istore_n (pc := 7) (i := 3) (ls' := [(0, .int p0), (1, .int p1), (2, .int p2)]) rfl (by decide) rfl dJ8_newLength_cabcc_7 ?_
  refine kz_iconst (pc := 8) (v := 0) (by decide) dJ8_newLength_cabcc_8 ?_
  refine kz_iload_n (pc := 9) 0 (i := 3) rfl rfl dJ8_newLength_cabcc_9 ?_
  refine kz_icmp_ge (pc := 10) (tgt := 21) (by decide) dJ8_newLength_cabcc_10 (fun hb => ?_) (fun hb => ?_)
  · replace h := h.1 hb
    exact h.elim
  · replace h := h.2 hb
    refine kz_iload_n (pc := 13) 0 (i := 3) rfl rfl dJ8_newLength_cabcc_13 ?_
    refine kz_ldcI (pc := 14) kw_541 rfl dJ8_newLength_cabcc_14 ?_
    refine kz_icmp_gt (pc := 16) (tgt := 21) (by decide) dJ8_newLength_cabcc_16 (fun hb => ?_) (fun hb => ?_)
    · replace h := h.1 hb
      exact h.elim
    · replace h := h.2 hb
      refine kz_iload_n (pc := 19) 0 (i := 3) rfl rfl dJ8_newLength_cabcc_19 ?_
      exact kz_iret (pc := 20) rfl (Nat.le_refl _) (Nat.le_refl _) dJ8_newLength_cabcc_20 h
theorem dJ7_copyOf_9075b_0 : decode cJ7_copyOf_9075b 0 = .ok (.iload_n 1, 1) := by decide +kernel
theorem dJ7_copyOf_9075b_1 : decode cJ7_copyOf_9075b 1 = .ok (.aload_n 0, 1) := by decide +kernel
theorem dJ7_copyOf_9075b_2 : decode cJ7_copyOf_9075b 2 = .ok (.arraylength, 1) := by decide +kernel
theorem dJ7_copyOf_9075b_3 : decode cJ7_copyOf_9075b 3 = .ok (.if_icmp .ne 11, 3) := by decide +kernel
theorem dJ7_copyOf_9075b_6 : decode cJ7_copyOf_9075b 6 = .ok (.aload_n 0, 1) := by decide +kernel
theorem dJ7_copyOf_9075b_7 : decode cJ7_copyOf_9075b 7 = .ok (.invokevirtual 310, 3) := by decide +kernel
theorem dJ7_copyOf_9075b_10 : decode cJ7_copyOf_9075b 10 = .ok (.checkcast 311, 3) := by decide +kernel
theorem dJ7_copyOf_9075b_13 : decode cJ7_copyOf_9075b 13 = .ok (.areturn, 1) := by decide +kernel
theorem dJ7_copyOf_9075b_14 : decode cJ7_copyOf_9075b 14 = .ok (.iload_n 1, 1) := by decide +kernel
theorem dJ7_copyOf_9075b_15 : decode cJ7_copyOf_9075b 15 = .ok (.newarray .byte, 2) := by decide +kernel
theorem dJ7_copyOf_9075b_17 : decode cJ7_copyOf_9075b 17 = .ok (.astore_n 2, 1) := by decide +kernel
theorem dJ7_copyOf_9075b_18 : decode cJ7_copyOf_9075b 18 = .ok (.aload_n 0, 1) := by decide +kernel
theorem dJ7_copyOf_9075b_19 : decode cJ7_copyOf_9075b 19 = .ok (.iconst 0, 1) := by decide +kernel
theorem dJ7_copyOf_9075b_20 : decode cJ7_copyOf_9075b 20 = .ok (.aload_n 2, 1) := by decide +kernel
theorem dJ7_copyOf_9075b_21 : decode cJ7_copyOf_9075b 21 = .ok (.iconst 0, 1) := by decide +kernel
theorem dJ7_copyOf_9075b_22 : decode cJ7_copyOf_9075b 22 = .ok (.aload_n 0, 1) := by decide +kernel
theorem dJ7_copyOf_9075b_23 : decode cJ7_copyOf_9075b 23 = .ok (.arraylength, 1) := by decide +kernel
theorem dJ7_copyOf_9075b_24 : decode cJ7_copyOf_9075b 24 = .ok (.iload_n 1, 1) := by decide +kernel
theorem dJ7_copyOf_9075b_25 : decode cJ7_copyOf_9075b 25 = .ok (.invokestatic 304, 3) := by decide +kernel
theorem dJ7_copyOf_9075b_28 : decode cJ7_copyOf_9075b 28 = .ok (.invokestatic 150, 3) := by decide +kernel
theorem dJ7_copyOf_9075b_31 : decode cJ7_copyOf_9075b 31 = .ok (.aload_n 2, 1) := by decide +kernel
theorem dJ7_copyOf_9075b_32 : decode cJ7_copyOf_9075b 32 = .ok (.areturn, 1) := by decide +kernel
theorem rJ7_copyOf_9075b_0 {G : kz_G} {d : Nat} {mc ms : Nat} {Qr : Option Value → kz_M → Prop} {Qx : String → kz_M → Prop} {p0 : Nat} {p1 : Int32}  {M : kz_M} (h : ∃ ty1 A2, (M).1 p0 = some (.inr (ty1, A2)) ∧ ((¬ p1 = (Int32.ofNat A2.1) → ∃ N3, ¬ p1 < 0 ∧ (p1 : Int32).toNatClampNeg = N3 ∧ N3 ≤ 60000000 ∧ 0 + 1 ≤ mc ∧ 0 + N3 ≤ ms ∧ (∃ ty5 A6, ((kz_nw M (.inr (.byte, N3, .inl (fun _ => 0))))).1 p0 = some (.inr (ty5, A6)) ∧ (∃ n9 f7 n10 g8, ((kz_nw M (.inr (.byte, N3, .inl (fun _ => 0))))).1 p0 = some (.inr (.byte, n9, .inl f7)) ∧ ((kz_nw M (.inr (.byte, N3, .inl (fun _ => 0))))).1 ((M).2) = some (.inr (.byte, n10, .inl g8)) ∧ (∀ i, i < n9 → fits .byte (.int (f7 i)) = true) ∧ ¬ ((0 : Int32)) < (0 : Int32) ∧ ¬ ((0 : Int32)) < (0 : Int32) ∧ ¬ ((if p1 < (Int32.ofNat A6.1) then p1 else (Int32.ofNat A6.1))) < (0 : Int32) ∧ (0 : Int32).toNatClampNeg + (if p1 < (Int32.ofNat A6.1) then p1 else (Int32.ofNat A6.1) : Int32).toNatClampNeg ≤ n9 ∧ (0 : Int32).toNatClampNeg + (if p1 < (Int32.ofNat A6.1) then p1 else (Int32.ofNat A6.1) : Int32).toNatClampNeg ≤ n10 ∧ ∀ M11, M11 = kz_up (kz_nw M (.inr (.byte, N3, .inl (fun _ => 0)))) ((M).2) (.inr (.byte, n10, .inl (va_cpy f7 g8 (0 : Int32).toNatClampNeg (0 : Int32).toNatClampNeg (if p1 < (Int32.ofNat A6.1) then p1 else (Int32.ofNat A6.1) : Int32).toNatClampNeg))) → Qr (some (.ref ((M).2))) M11))) ∧ (p1 = (Int32.ofNat A2.1) → ∃ n12 f13, (M).1 p0 = some (.inr (.byte, n12, .inl f13)) ∧ (∀ i, i < n12 → fits .byte (.int (f13 i)) = true) ∧ 0 + 1 ≤ mc ∧ 0 + n12 ≤ ms ∧ (∃ x15, ((kz_nw M (.inr (.byte, n12, .inl f13)))).1 ((M).2) = some (.inr (.byte, x15)) ∧ (Qr (some (.ref ((M).2))) (kz_nw M (.inr (.byte, n12, .inl f13)))))))) : kz_C G (d + 1) mc ms mJ7_copyOf_9075b [.ref p0, .int p1] M Qr Qx := by
  refine kz_enter (n := 2) kmJ7_copyOf_9075b.1 (Nat.le_of_ble_eq_true rfl) (ls := [(0, .ref p0), (1, .int p1)]) rfl ?_
  refine kz_iload_n (pc := 0) 1 (i := 1) rfl rfl dJ7_copyOf_9075b_0 ?_
  refine kz_aload_n (pc := 1) 0 (v := .ref p0) (i := 0) rfl rfl rfl dJ7_copyOf_9075b_1 ?_
  obtain ⟨ty1, A2, hM, h⟩ := h
  refine kz_alen (pc := 2) hM rfl dJ7_copyOf_9075b_2 ?_
  refine kz_icmp_ne (pc := 3) (tgt := 14) (by decide) dJ7_copyOf_9075b_3 (fun hb => ?_) (fun hb => ?_)
  · replace h := h.1 hb
    refine kz_iload_n (pc := 14) 1 (i := 1) rfl rfl dJ7_copyOf_9075b_14 ?_
    obtain ⟨N3, hn, hN, hb8, hc4, hs4, h⟩ := h
    refine kz_newaB (pc := 15) N3 kw_60 hn hN hb8 hc4 hs4 dJ7_copyOf_9075b_15 ?_
    refine kz_astore_n (pc := 17) (i := 2) (v := .ref ((M).2)) (ls' := [(0, .ref p0), (1, .int p1)]) rfl rfl (by decide) rfl dJ7_copyOf_9075b_17 ?_
    refine kz_aload_n (pc := 18) 1 (v := .ref p0) (i := 0) rfl rfl rfl dJ7_copyOf_9075b_18 ?_
    refine kz_iconst (pc := 19) (v := 0) (by decide) dJ7_copyOf_9075b_19 ?_
    refine kz_aload_n (pc := 20) 0 (v := .ref ((M).2)) (i := 2) rfl rfl rfl dJ7_copyOf_9075b_20 ?_
    refine kz_iconst (pc := 21) (v := 0) (by decide) dJ7_copyOf_9075b_21 ?_
    refine kz_aload_n (pc := 22) 1 (v := .ref p0) (i := 0) rfl rfl rfl dJ7_copyOf_9075b_22 ?_
    obtain ⟨ty5, A6, hM, h⟩ := h
    refine kz_alen (pc := 23) hM rfl dJ7_copyOf_9075b_23 ?_
    refine kz_iload_n (pc := 24) 2 (i := 1) rfl rfl dJ7_copyOf_9075b_24 ?_
    refine kz_mmin (pc := 25) kw_556 kw_557 kw_9 kw_558 (by omega) (Nat.le_of_ble_eq_true rfl) hc4 hs4 dJ7_copyOf_9075b_25 ?_
    obtain ⟨n9, f7, n10, g8, ha, hb, hfit, h1, h2, h3, h4, h5, h⟩ := h
    refine kz_copyb (pc := 28) ⟨kw_559, kw_409, kw_408, kw_11⟩ ha hb hfit h1 h2 h3 h4 h5 (by omega) (Nat.le_of_ble_eq_true rfl) dJ7_copyOf_9075b_28 ?_
    refine kz_nameM (fun M11 e9 => ?_)
    replace h := h M11 e9
    refine kz_aload_n (pc := 31) 0 (v := .ref ((M).2)) (i := 2) rfl rfl rfl dJ7_copyOf_9075b_31 ?_
    exact kz_aret (pc := 32) (v := .ref ((M).2)) rfl rfl (Or.inr ⟨_, rfl⟩) hc4 hs4 dJ7_copyOf_9075b_32 h
  · replace h := h.2 hb
    refine kz_aload_n (pc := 6) 0 (v := .ref p0) (i := 0) rfl rfl rfl dJ7_copyOf_9075b_6 ?_
    obtain ⟨n12, f13, hM, hfit, hc14, hs14, h⟩ := h
    refine kz_clone (pc := 7) (ad := "[B") (ty := .byte) ⟨kw_549, kw_550, kw_551, kw_552, kw_553, kw_554⟩ (by decide) hM (kz_fitB _ _ G hfit) (kz_fitIs G _ _) (by omega) (Nat.le_of_ble_eq_true rfl) hc14 hs14 dJ7_copyOf_9075b_7 ?_
    obtain ⟨x15, hM, h⟩ := h
    refine kz_castA (pc := 10) (ty := .byte) kw_555 (by decide) hM dJ7_copyOf_9075b_10 ?_
    exact kz_aret (pc := 13) (v := .ref ((M).2)) rfl rfl (Or.inr ⟨_, rfl⟩) hc14 hs14 dJ7_copyOf_9075b_13 h
theorem dJ7_checkLength_df160_0 : decode cJ7_checkLength_df160 0 = .ok (.iload_n 1, 1) := by decide +kernel
theorem dJ7_checkLength_df160_1 : decode cJ7_checkLength_df160 1 = .ok (.iload_n 0, 1) := by decide +kernel
theorem dJ7_checkLength_df160_2 : decode cJ7_checkLength_df160 2 = .ok (.if_icmp .ge 35, 3) := by decide +kernel
theorem dJ7_checkLength_df160_5 : decode cJ7_checkLength_df160 5 = .ok (.new 43, 3) := by decide +kernel
theorem dJ7_checkLength_df160_8 : decode cJ7_checkLength_df160 8 = .ok (.dup, 1) := by decide +kernel
theorem dJ7_checkLength_df160_9 : decode cJ7_checkLength_df160 9 = .ok (.new 45, 3) := by decide +kernel
theorem dJ7_checkLength_df160_12 : decode cJ7_checkLength_df160 12 = .ok (.dup, 1) := by decide +kernel
theorem dJ7_checkLength_df160_13 : decode cJ7_checkLength_df160 13 = .ok (.invokespecial 47, 3) := by decide +kernel
theorem dJ7_checkLength_df160_16 : decode cJ7_checkLength_df160 16 = .ok (.iload_n 0, 1) := by decide +kernel
theorem dJ7_checkLength_df160_17 : decode cJ7_checkLength_df160 17 = .ok (.invokevirtual 54, 3) := by decide +kernel
theorem dJ7_checkLength_df160_20 : decode cJ7_checkLength_df160 20 = .ok (.ldc_w 337, 3) := by decide +kernel
theorem dJ7_checkLength_df160_23 : decode cJ7_checkLength_df160 23 = .ok (.invokevirtual 50, 3) := by decide +kernel
theorem dJ7_checkLength_df160_26 : decode cJ7_checkLength_df160 26 = .ok (.iload_n 1, 1) := by decide +kernel
theorem dJ7_checkLength_df160_27 : decode cJ7_checkLength_df160 27 = .ok (.invokevirtual 54, 3) := by decide +kernel
theorem dJ7_checkLength_df160_30 : decode cJ7_checkLength_df160 30 = .ok (.invokevirtual 61, 3) := by decide +kernel
theorem dJ7_checkLength_df160_33 : decode cJ7_checkLength_df160 33 = .ok (.invokespecial 65, 3) := by decide +kernel
theorem dJ7_checkLength_df160_36 : decode cJ7_checkLength_df160 36 = .ok (.athrow, 1) := by decide +kernel
theorem dJ7_checkLength_df160_37 : decode cJ7_checkLength_df160 37 = .ok (.return_, 1) := by decide +kernel
theorem rJ7_checkLength_df160_0 {G : kz_G} {d : Nat} {Qr : Option Value → kz_M → Prop} {Qx : String → kz_M → Prop} {p0 : Int32} {p1 : Int32}  {M : kz_M} (h : (p0 ≤ p1 → Qr none M) ∧ (¬ p0 ≤ p1 → False)) : kz_C G d 0 0 mJ7_checkLength_df160 [.int p0, .int p1] M Qr Qx := by
  refine kz_enter (n := 2) kmJ7_checkLength_df160.1 (Nat.le_of_ble_eq_true rfl) (ls := [(0, .int p0), (1, .int p1)]) rfl ?_
  refine kz_iload_n (pc := 0) 1 (i := 1) rfl rfl dJ7_checkLength_df160_0 ?_
  refine kz_iload_n (pc := 1) 0 (i := 0) rfl rfl dJ7_checkLength_df160_1 ?_
  refine kz_icmp_ge (pc := 2) (tgt := 37) (by decide) dJ7_checkLength_df160_2 (fun hb => ?_) (fun hb => ?_)
  · replace h := h.1 hb
    exact kz_vret (pc := 37) rfl (Nat.le_refl _) (Nat.le_refl _) dJ7_checkLength_df160_37 h
  · replace h := h.2 hb
    exact h.elim
theorem dJ7_copyOfRangeByte_39247_0 : decode cJ7_copyOfRangeByte_39247 0 = .ok (.iload_n 1, 1) := by decide +kernel
theorem dJ7_copyOfRangeByte_39247_1 : decode cJ7_copyOfRangeByte_39247 1 = .ok (.iload_n 2, 1) := by decide +kernel
theorem dJ7_copyOfRangeByte_39247_2 : decode cJ7_copyOfRangeByte_39247 2 = .ok (.invokestatic 343, 3) := by decide +kernel
theorem dJ7_copyOfRangeByte_39247_5 : decode cJ7_copyOfRangeByte_39247 5 = .ok (.iload_n 2, 1) := by decide +kernel
theorem dJ7_copyOfRangeByte_39247_6 : decode cJ7_copyOfRangeByte_39247 6 = .ok (.iload_n 1, 1) := by decide +kernel
theorem dJ7_copyOfRangeByte_39247_7 : decode cJ7_copyOfRangeByte_39247 7 = .ok (.isub, 1) := by decide +kernel
theorem dJ7_copyOfRangeByte_39247_8 : decode cJ7_copyOfRangeByte_39247 8 = .ok (.istore_n 3, 1) := by decide +kernel
theorem dJ7_copyOfRangeByte_39247_9 : decode cJ7_copyOfRangeByte_39247 9 = .ok (.iload_n 3, 1) := by decide +kernel
theorem dJ7_copyOfRangeByte_39247_10 : decode cJ7_copyOfRangeByte_39247 10 = .ok (.newarray .byte, 2) := by decide +kernel
theorem dJ7_copyOfRangeByte_39247_12 : decode cJ7_copyOfRangeByte_39247 12 = .ok (.astore 4, 2) := by decide +kernel
theorem dJ7_copyOfRangeByte_39247_14 : decode cJ7_copyOfRangeByte_39247 14 = .ok (.aload_n 0, 1) := by decide +kernel
theorem dJ7_copyOfRangeByte_39247_15 : decode cJ7_copyOfRangeByte_39247 15 = .ok (.iload_n 1, 1) := by decide +kernel
theorem dJ7_copyOfRangeByte_39247_16 : decode cJ7_copyOfRangeByte_39247 16 = .ok (.aload 4, 2) := by decide +kernel
theorem dJ7_copyOfRangeByte_39247_18 : decode cJ7_copyOfRangeByte_39247 18 = .ok (.iconst 0, 1) := by decide +kernel
theorem dJ7_copyOfRangeByte_39247_19 : decode cJ7_copyOfRangeByte_39247 19 = .ok (.aload_n 0, 1) := by decide +kernel
theorem dJ7_copyOfRangeByte_39247_20 : decode cJ7_copyOfRangeByte_39247 20 = .ok (.arraylength, 1) := by decide +kernel
theorem dJ7_copyOfRangeByte_39247_21 : decode cJ7_copyOfRangeByte_39247 21 = .ok (.iload_n 1, 1) := by decide +kernel
theorem dJ7_copyOfRangeByte_39247_22 : decode cJ7_copyOfRangeByte_39247 22 = .ok (.isub, 1) := by decide +kernel
theorem dJ7_copyOfRangeByte_39247_23 : decode cJ7_copyOfRangeByte_39247 23 = .ok (.iload_n 3, 1) := by decide +kernel
theorem dJ7_copyOfRangeByte_39247_24 : decode cJ7_copyOfRangeByte_39247 24 = .ok (.invokestatic 304, 3) := by decide +kernel
theorem dJ7_copyOfRangeByte_39247_27 : decode cJ7_copyOfRangeByte_39247 27 = .ok (.invokestatic 150, 3) := by decide +kernel
theorem dJ7_copyOfRangeByte_39247_30 : decode cJ7_copyOfRangeByte_39247 30 = .ok (.aload 4, 2) := by decide +kernel
theorem dJ7_copyOfRangeByte_39247_32 : decode cJ7_copyOfRangeByte_39247 32 = .ok (.areturn, 1) := by decide +kernel
theorem rJ7_copyOfRangeByte_39247_0 {G : kz_G} {d : Nat} {mc ms : Nat} {Qr : Option Value → kz_M → Prop} {Qx : String → kz_M → Prop} {p0 : Nat} {p1 : Int32} {p2 : Int32}  {M : kz_M} (h : kz_C G (d + 0) 0 0 mJ7_checkLength_df160 [.int p1, .int p2] M (fun v M1 => v = none ∧ (∃ N4, ¬ (p2 - p1) < 0 ∧ (p2 - p1 : Int32).toNatClampNeg = N4 ∧ N4 ≤ 60000000 ∧ 0 + 1 ≤ mc ∧ 0 + N4 ≤ ms ∧ (∃ ty6 A7, ((kz_nw M1 (.inr (.byte, N4, .inl (fun _ => 0))))).1 p0 = some (.inr (ty6, A7)) ∧ (∃ n10 f8 n11 g9, ((kz_nw M1 (.inr (.byte, N4, .inl (fun _ => 0))))).1 p0 = some (.inr (.byte, n10, .inl f8)) ∧ ((kz_nw M1 (.inr (.byte, N4, .inl (fun _ => 0))))).1 ((M1).2) = some (.inr (.byte, n11, .inl g9)) ∧ (∀ i, i < n10 → fits .byte (.int (f8 i)) = true) ∧ ¬ p1 < (0 : Int32) ∧ ¬ ((0 : Int32)) < (0 : Int32) ∧ ¬ ((if (p2 - p1) < ((Int32.ofNat A7.1) - p1) then (p2 - p1) else ((Int32.ofNat A7.1) - p1))) < (0 : Int32) ∧ (p1 : Int32).toNatClampNeg + (if (p2 - p1) < ((Int32.ofNat A7.1) - p1) then (p2 - p1) else ((Int32.ofNat A7.1) - p1) : Int32).toNatClampNeg ≤ n10 ∧ (0 : Int32).toNatClampNeg + (if (p2 - p1) < ((Int32.ofNat A7.1) - p1) then (p2 - p1) else ((Int32.ofNat A7.1) - p1) : Int32).toNatClampNeg ≤ n11 ∧ ∀ M12, M12 = kz_up (kz_nw M1 (.inr (.byte, N4, .inl (fun _ => 0)))) ((M1).2) (.inr (.byte, n11, .inl (va_cpy f8 g9 (p1 : Int32).toNatClampNeg (0 : Int32).toNatClampNeg (if (p2 - p1) < ((Int32.ofNat A7.1) - p1) then (p2 - p1) else ((Int32.ofNat A7.1) - p1) : Int32).toNatClampNeg))) → Qr (some (.ref ((M1).2))) M12)))) Qx) : kz_C G (d + 1) mc ms mJ7_copyOfRangeByte_39247 [.ref p0, .int p1, .int p2] M Qr Qx := by
  refine kz_enter (n := 3) kmJ7_copyOfRangeByte_39247.1 (Nat.le_of_ble_eq_true rfl) (ls := [(0, .ref p0), (1, .int p1), (2, .int p2)]) rfl ?_
  refine kz_iload_n (pc := 0) 1 (i := 1) rfl rfl dJ7_copyOfRangeByte_39247_0 ?_
  refine kz_iload_n (pc := 1) 2 (i := 2) rfl rfl dJ7_copyOfRangeByte_39247_1 ?_
  refine kz_callS (pc := 2) (μ' := mJ7_checkLength_df160) (d' := d + 0) (mc' := 0) (ms' := 0) (As := [.int p1, .int p2]) (st := []) (c := 0) (sl := 0) kmJ7_checkLength_df160 kw_1047 (by omega) rfl (Nat.le_of_ble_eq_true rfl) (Nat.zero_le _) (Nat.zero_le _) dJ7_copyOfRangeByte_39247_2 (fun E M9 hx => kz_Tout rfl (Nat.zero_le _) (Nat.zero_le _) hx) (kz_Cmono (fun v M1 h => ?_) (fun _ _ h => h) h)
  obtain ⟨rfl, h⟩ := h
  show kz_Z G (d + 1) mc ms mJ7_copyOfRangeByte_39247 Qr Qx 5 [(0, .ref p0), (1, .int p1), (2, .int p2)] [] M1 0 0
  refine kz_iload_n (pc := 5) 2 (i := 2) rfl rfl dJ7_copyOfRangeByte_39247_5 ?_
  refine kz_iload_n (pc := 6) 1 (i := 1) rfl rfl dJ7_copyOfRangeByte_39247_6 ?_
  refine kz_isub (pc := 7) dJ7_copyOfRangeByte_39247_7 ?_
  refine kz_istore_n (pc := 8) (i := 3) (ls' := [(0, .ref p0), (1, .int p1), (2, .int p2)]) rfl (by decide) rfl dJ7_copyOfRangeByte_39247_8 ?_
  refine kz_iload_n (pc := 9) 0 (i := 3) rfl rfl dJ7_copyOfRangeByte_39247_9 ?_
  obtain ⟨N4, hn, hN, hb8, hc5, hs5, h⟩ := h
  refine kz_newaB (pc := 10) N4 kw_60 hn hN hb8 hc5 hs5 dJ7_copyOfRangeByte_39247_10 ?_
  refine kz_astore (pc := 12) (i := 4) (v := .ref ((M1).2)) (ls' := [(3, .int (p2 - p1)), (0, .ref p0), (1, .int p1), (2, .int p2)]) rfl (by decide) rfl dJ7_copyOfRangeByte_39247_12 ?_
  refine kz_aload_n (pc := 14) 2 (v := .ref p0) (i := 0) rfl rfl rfl dJ7_copyOfRangeByte_39247_14 ?_
  refine kz_iload_n (pc := 15) 3 (i := 1) rfl rfl dJ7_copyOfRangeByte_39247_15 ?_
  refine kz_aload (pc := 16) 0 (v := .ref ((M1).2)) (i := 4) rfl rfl dJ7_copyOfRangeByte_39247_16 ?_
  refine kz_iconst (pc := 18) (v := 0) (by decide) dJ7_copyOfRangeByte_39247_18 ?_
  refine kz_aload_n (pc := 19) 2 (v := .ref p0) (i := 0) rfl rfl rfl dJ7_copyOfRangeByte_39247_19 ?_
  obtain ⟨ty6, A7, hM, h⟩ := h
  refine kz_alen (pc := 20) hM rfl dJ7_copyOfRangeByte_39247_20 ?_
  refine kz_iload_n (pc := 21) 3 (i := 1) rfl rfl dJ7_copyOfRangeByte_39247_21 ?_
  refine kz_isub (pc := 22) dJ7_copyOfRangeByte_39247_22 ?_
  refine kz_iload_n (pc := 23) 1 (i := 3) rfl rfl dJ7_copyOfRangeByte_39247_23 ?_
  refine kz_mmin (pc := 24) kw_556 kw_557 kw_9 kw_558 (by omega) (Nat.le_of_ble_eq_true rfl) hc5 hs5 dJ7_copyOfRangeByte_39247_24 ?_
  obtain ⟨n10, f8, n11, g9, ha, hb, hfit, h1, h2, h3, h4, h5, h⟩ := h
  refine kz_copyb (pc := 27) ⟨kw_559, kw_409, kw_408, kw_11⟩ ha hb hfit h1 h2 h3 h4 h5 (by omega) (Nat.le_of_ble_eq_true rfl) dJ7_copyOfRangeByte_39247_27 ?_
  refine kz_nameM (fun M12 e9 => ?_)
  replace h := h M12 e9
  refine kz_aload (pc := 30) 0 (v := .ref ((M1).2)) (i := 4) rfl rfl dJ7_copyOfRangeByte_39247_30 ?_
  exact kz_aret (pc := 32) (v := .ref ((M1).2)) rfl rfl (Or.inr ⟨_, rfl⟩) hc5 hs5 dJ7_copyOfRangeByte_39247_32 h
theorem dJ7_copyOfRange_39247_0 : decode cJ7_copyOfRange_39247 0 = .ok (.iload_n 1, 1) := by decide +kernel
theorem dJ7_copyOfRange_39247_1 : decode cJ7_copyOfRange_39247 1 = .ok (.ifCond .ne 9, 3) := by decide +kernel
theorem dJ7_copyOfRange_39247_4 : decode cJ7_copyOfRange_39247 4 = .ok (.iload_n 2, 1) := by decide +kernel
theorem dJ7_copyOfRange_39247_5 : decode cJ7_copyOfRange_39247 5 = .ok (.aload_n 0, 1) := by decide +kernel
theorem dJ7_copyOfRange_39247_6 : decode cJ7_copyOfRange_39247 6 = .ok (.arraylength, 1) := by decide +kernel
theorem dJ7_copyOfRange_39247_7 : decode cJ7_copyOfRange_39247 7 = .ok (.if_icmp .eq 10, 3) := by decide +kernel
theorem dJ7_copyOfRange_39247_10 : decode cJ7_copyOfRange_39247 10 = .ok (.aload_n 0, 1) := by decide +kernel
theorem dJ7_copyOfRange_39247_11 : decode cJ7_copyOfRange_39247 11 = .ok (.iload_n 1, 1) := by decide +kernel
theorem dJ7_copyOfRange_39247_12 : decode cJ7_copyOfRange_39247 12 = .ok (.iload_n 2, 1) := by decide +kernel
theorem dJ7_copyOfRange_39247_13 : decode cJ7_copyOfRange_39247 13 = .ok (.invokestatic 339, 3) := by decide +kernel
theorem dJ7_copyOfRange_39247_16 : decode cJ7_copyOfRange_39247 16 = .ok (.areturn, 1) := by decide +kernel
theorem dJ7_copyOfRange_39247_17 : decode cJ7_copyOfRange_39247 17 = .ok (.aload_n 0, 1) := by decide +kernel
theorem dJ7_copyOfRange_39247_18 : decode cJ7_copyOfRange_39247 18 = .ok (.invokevirtual 310, 3) := by decide +kernel
theorem dJ7_copyOfRange_39247_21 : decode cJ7_copyOfRange_39247 21 = .ok (.checkcast 311, 3) := by decide +kernel
theorem dJ7_copyOfRange_39247_24 : decode cJ7_copyOfRange_39247 24 = .ok (.areturn, 1) := by decide +kernel
theorem rJ7_copyOfRange_39247_0 {G : kz_G} {d : Nat} {mc ms : Nat} {Qr : Option Value → kz_M → Prop} {Qx : String → kz_M → Prop} {p0 : Nat} {p1 : Int32} {p2 : Int32}  {M : kz_M} (h : (¬ p1 = 0 → ∃ mc3 ms3, 0 + mc3 ≤ mc ∧ 0 + ms3 ≤ ms ∧ kz_C G (d + 1) mc3 ms3 mJ7_copyOfRangeByte_39247 [.ref p0, .int p1, .int p2] M (fun v M1 => ∃ r2 : Nat, v = some (.ref r2) ∧ (Qr (some (.ref r2)) M1)) Qx) ∧ (p1 = 0 → ∃ ty5 A6, (M).1 p0 = some (.inr (ty5, A6)) ∧ ((p2 = (Int32.ofNat A6.1) → ∃ n7 f8, (M).1 p0 = some (.inr (.byte, n7, .inl f8)) ∧ (∀ i, i < n7 → fits .byte (.int (f8 i)) = true) ∧ 0 + 1 ≤ mc ∧ 0 + n7 ≤ ms ∧ (∃ x10, ((kz_nw M (.inr (.byte, n7, .inl f8)))).1 ((M).2) = some (.inr (.byte, x10)) ∧ (Qr (some (.ref ((M).2))) (kz_nw M (.inr (.byte, n7, .inl f8)))))) ∧ (¬ p2 = (Int32.ofNat A6.1) → ∃ mc13 ms13, 0 + mc13 ≤ mc ∧ 0 + ms13 ≤ ms ∧ kz_C G (d + 1) mc13 ms13 mJ7_copyOfRangeByte_39247 [.ref p0, .int p1, .int p2] M (fun v M11 => ∃ r12 : Nat, v = some (.ref r12) ∧ (Qr (some (.ref r12)) M11)) Qx)))) : kz_C G (d + 2) mc ms mJ7_copyOfRange_39247 [.ref p0, .int p1, .int p2] M Qr Qx := by
  refine kz_enter (n := 3) kmJ7_copyOfRange_39247.1 (Nat.le_of_ble_eq_true rfl) (ls := [(0, .ref p0), (1, .int p1), (2, .int p2)]) rfl ?_
  refine kz_iload_n (pc := 0) 1 (i := 1) rfl rfl dJ7_copyOfRange_39247_0 ?_
  refine kz_if_ne (pc := 1) (tgt := 10) (by decide) dJ7_copyOfRange_39247_1 (fun hb => ?_) (fun hb => ?_)
  · replace h := h.1 hb
    refine kz_aload_n (pc := 10) 0 (v := .ref p0) (i := 0) rfl rfl rfl dJ7_copyOfRange_39247_10 ?_
    refine kz_iload_n (pc := 11) 1 (i := 1) rfl rfl dJ7_copyOfRange_39247_11 ?_
    refine kz_iload_n (pc := 12) 2 (i := 2) rfl rfl dJ7_copyOfRange_39247_12 ?_
    obtain ⟨mc3, ms3, hc3, hs3, h⟩ := h
    refine kz_callS (pc := 13) (μ' := mJ7_copyOfRangeByte_39247) (d' := d + 1) (mc' := mc3) (ms' := ms3) (As := [.ref p0, .int p1, .int p2]) (st := []) (c := 0) (sl := 0) kmJ7_copyOfRangeByte_39247 kw_1044 (by omega) rfl (Nat.le_of_ble_eq_true rfl) hc3 hs3 dJ7_copyOfRange_39247_13 (fun E M9 hx => kz_Tout rfl hc3 hs3 hx) (kz_Cmono (fun v M1 h => ?_) (fun _ _ h => h) h)
    obtain ⟨r2, rfl, h⟩ := h
    show kz_Z G (d + 2) mc ms mJ7_copyOfRange_39247 Qr Qx 16 [(0, .ref p0), (1, .int p1), (2, .int p2)] [.ref r2] M1 (0 + mc3) (0 + ms3)
    exact kz_aret (pc := 16) (v := .ref r2) rfl rfl (Or.inr ⟨_, rfl⟩) hc3 hs3 dJ7_copyOfRange_39247_16 h
  · replace h := h.2 hb
    refine kz_iload_n (pc := 4) 2 (i := 2) rfl rfl dJ7_copyOfRange_39247_4 ?_
    refine kz_aload_n (pc := 5) 0 (v := .ref p0) (i := 0) rfl rfl rfl dJ7_copyOfRange_39247_5 ?_
    obtain ⟨ty5, A6, hM, h⟩ := h
    refine kz_alen (pc := 6) hM rfl dJ7_copyOfRange_39247_6 ?_
    refine kz_icmp_eq (pc := 7) (tgt := 17) (by decide) dJ7_copyOfRange_39247_7 (fun hb => ?_) (fun hb => ?_)
    · replace h := h.1 hb
      refine kz_aload_n (pc := 17) 0 (v := .ref p0) (i := 0) rfl rfl rfl dJ7_copyOfRange_39247_17 ?_
      obtain ⟨n7, f8, hM, hfit, hc9, hs9, h⟩ := h
      refine kz_clone (pc := 18) (ad := "[B") (ty := .byte) ⟨kw_549, kw_550, kw_551, kw_552, kw_553, kw_554⟩ (by decide) hM (kz_fitB _ _ G hfit) (kz_fitIs G _ _) (by omega) (Nat.le_of_ble_eq_true rfl) hc9 hs9 dJ7_copyOfRange_39247_18 ?_
      obtain ⟨x10, hM, h⟩ := h
      refine kz_castA (pc := 21) (ty := .byte) kw_555 (by decide) hM dJ7_copyOfRange_39247_21 ?_
      exact kz_aret (pc := 24) (v := .ref ((M).2)) rfl rfl (Or.inr ⟨_, rfl⟩) hc9 hs9 dJ7_copyOfRange_39247_24 h
    · replace h := h.2 hb
      refine kz_aload_n (pc := 10) 0 (v := .ref p0) (i := 0) rfl rfl rfl dJ7_copyOfRange_39247_10 ?_
      refine kz_iload_n (pc := 11) 1 (i := 1) rfl rfl dJ7_copyOfRange_39247_11 ?_
      refine kz_iload_n (pc := 12) 2 (i := 2) rfl rfl dJ7_copyOfRange_39247_12 ?_
      obtain ⟨mc13, ms13, hc13, hs13, h⟩ := h
      refine kz_callS (pc := 13) (μ' := mJ7_copyOfRangeByte_39247) (d' := d + 1) (mc' := mc13) (ms' := ms13) (As := [.ref p0, .int p1, .int p2]) (st := []) (c := 0) (sl := 0) kmJ7_copyOfRangeByte_39247 kw_1044 (by omega) rfl (Nat.le_of_ble_eq_true rfl) hc13 hs13 dJ7_copyOfRange_39247_13 (fun E M9 hx => kz_Tout rfl hc13 hs13 hx) (kz_Cmono (fun v M11 h => ?_) (fun _ _ h => h) h)
      obtain ⟨r12, rfl, h⟩ := h
      show kz_Z G (d + 2) mc ms mJ7_copyOfRange_39247 Qr Qx 16 [(0, .ref p0), (1, .int p1), (2, .int p2)] [.ref r12] M11 (0 + mc13) (0 + ms13)
      exact kz_aret (pc := 16) (v := .ref r12) rfl rfl (Or.inr ⟨_, rfl⟩) hc13 hs13 dJ7_copyOfRange_39247_16 h
theorem dJ5_length_8abf5_0 : decode cJ5_length_8abf5 0 = .ok (.aload_n 0, 1) := by decide +kernel
theorem dJ5_length_8abf5_1 : decode cJ5_length_8abf5 1 = .ok (.getfield 79, 3) := by decide +kernel
theorem dJ5_length_8abf5_4 : decode cJ5_length_8abf5 4 = .ok (.ireturn, 1) := by decide +kernel
theorem rJ5_length_8abf5_0 {G : kz_G} {d : Nat} {Qr : Option Value → kz_M → Prop} {Qx : String → kz_M → Prop} {a0 : Nat}  {M : kz_M} (h : ∃ fs1 v2, (M).1 a0 = some (.inl (15, fs1)) ∧ fs1[3]? = some (.int v2) ∧ (Qr (some (.int v2)) M)) : kz_C G d 0 0 mJ5_length_8abf5 [.ref a0] M Qr Qx := by
  refine kz_enter (n := 0) kmJ5_length_8abf5 (Nat.le_of_ble_eq_true rfl) (ls := [(0, .ref a0)]) rfl ?_
  refine kz_aload_n (pc := 0) 0 (v := .ref a0) (i := 0) rfl rfl rfl dJ5_length_8abf5_0 ?_
  obtain ⟨fs1, v2, hM, hv, h⟩ := h
  refine kz_getf (pc := 1) (k := 3) kcJ4 hM hv (by decide) kw_502 dJ5_length_8abf5_1 ?_
  exact kz_iret (pc := 4) rfl (Nat.le_refl _) (Nat.le_refl _) dJ5_length_8abf5_4 h
theorem dJ5_isLatin1_aae02_0 : decode cJ5_isLatin1_aae02 0 = .ok (.getstatic 18, 3) := by decide +kernel
theorem dJ5_isLatin1_aae02_3 : decode cJ5_isLatin1_aae02 3 = .ok (.ifCond .eq 14, 3) := by decide +kernel
theorem dJ5_isLatin1_aae02_6 : decode cJ5_isLatin1_aae02 6 = .ok (.aload_n 0, 1) := by decide +kernel
theorem dJ5_isLatin1_aae02_7 : decode cJ5_isLatin1_aae02 7 = .ok (.getfield 22, 3) := by decide +kernel
theorem dJ5_isLatin1_aae02_10 : decode cJ5_isLatin1_aae02 10 = .ok (.ifCond .ne 7, 3) := by decide +kernel
theorem dJ5_isLatin1_aae02_13 : decode cJ5_isLatin1_aae02 13 = .ok (.iconst 1, 1) := by decide +kernel
theorem dJ5_isLatin1_aae02_14 : decode cJ5_isLatin1_aae02 14 = .ok (.goto 4, 3) := by decide +kernel
theorem dJ5_isLatin1_aae02_17 : decode cJ5_isLatin1_aae02 17 = .ok (.iconst 0, 1) := by decide +kernel
theorem dJ5_isLatin1_aae02_18 : decode cJ5_isLatin1_aae02 18 = .ok (.ireturn, 1) := by decide +kernel
theorem rJ5_isLatin1_aae02_0 {G : kz_G} {d : Nat} {Qr : Option Value → kz_M → Prop} {Qx : String → kz_M → Prop} {a0 : Nat}  {M : kz_M} (hG : kz_stat G) (h : ((1 : Int32) = 0 → Qr (some (.int 0)) M) ∧ (¬ (1 : Int32) = 0 → ∃ fs1 v2, (M).1 a0 = some (.inl (15, fs1)) ∧ fs1[1]? = some (.int v2) ∧ ((¬ v2 = 0 → Qr (some (.int 0)) M) ∧ (v2 = 0 → Qr (some (.int 1)) M)))) : kz_C G d 0 0 mJ5_isLatin1_aae02 [.ref a0] M Qr Qx := by
  refine kz_enter (n := 0) kmJ5_isLatin1_aae02 (Nat.le_of_ble_eq_true rfl) (ls := [(0, .ref a0)]) rfl ?_
  refine kz_gets (pc := 0) (v := .int 1) hG.2.2.2.2.2.2.2.1.1 kw_491 dJ5_isLatin1_aae02_0 ?_
  refine kz_if_eq (pc := 3) (tgt := 17) (by decide) dJ5_isLatin1_aae02_3 (fun hb => ?_) (fun hb => ?_)
  · replace h := h.1 hb
    refine kz_iconst (pc := 17) (v := 0) (by decide) dJ5_isLatin1_aae02_17 ?_
    exact kz_zret (pc := 18) (ty := .boolean) rfl (by decide) (Nat.le_refl _) (Nat.le_refl _) dJ5_isLatin1_aae02_18 h
  · replace h := h.2 hb
    refine kz_aload_n (pc := 6) 0 (v := .ref a0) (i := 0) rfl rfl rfl dJ5_isLatin1_aae02_6 ?_
    obtain ⟨fs1, v2, hM, hv, h⟩ := h
    refine kz_getf (pc := 7) (k := 1) kcJ4 hM hv (by decide) kw_500 dJ5_isLatin1_aae02_7 ?_
    refine kz_if_ne (pc := 10) (tgt := 17) (by decide) dJ5_isLatin1_aae02_10 (fun hb => ?_) (fun hb => ?_)
    · replace h := h.1 hb
      refine kz_iconst (pc := 17) (v := 0) (by decide) dJ5_isLatin1_aae02_17 ?_
      exact kz_zret (pc := 18) (ty := .boolean) rfl (by decide) (Nat.le_refl _) (Nat.le_refl _) dJ5_isLatin1_aae02_18 h
    · replace h := h.2 hb
      refine kz_iconst (pc := 13) (v := 1) (by decide) dJ5_isLatin1_aae02_13 ?_
      refine kz_goto (pc := 14) (tgt := 18) (by decide) dJ5_isLatin1_aae02_14 ?_
      exact kz_zret (pc := 18) (ty := .boolean) rfl (by decide) (Nat.le_refl _) (Nat.le_refl _) dJ5_isLatin1_aae02_18 h
theorem dJ5_getValue_6d5f1_0 : decode cJ5_getValue_6d5f1 0 = .ok (.aload_n 0, 1) := by decide +kernel
theorem dJ5_getValue_6d5f1_1 : decode cJ5_getValue_6d5f1 1 = .ok (.getfield 15, 3) := by decide +kernel
theorem dJ5_getValue_6d5f1_4 : decode cJ5_getValue_6d5f1 4 = .ok (.areturn, 1) := by decide +kernel
theorem rJ5_getValue_6d5f1_0 {G : kz_G} {d : Nat} {Qr : Option Value → kz_M → Prop} {Qx : String → kz_M → Prop} {a0 : Nat}  {M : kz_M} (h : ∃ fs1 v2, (M).1 a0 = some (.inl (15, fs1)) ∧ fs1[0]? = some (.ref v2) ∧ (Qr (some (.ref v2)) M)) : kz_C G d 0 0 mJ5_getValue_6d5f1 [.ref a0] M Qr Qx := by
  refine kz_enter (n := 0) kmJ5_getValue_6d5f1 (Nat.le_of_ble_eq_true rfl) (ls := [(0, .ref a0)]) rfl ?_
  refine kz_aload_n (pc := 0) 0 (v := .ref a0) (i := 0) rfl rfl rfl dJ5_getValue_6d5f1_0 ?_
  obtain ⟨fs1, v2, hM, hv, h⟩ := h
  refine kz_getf (pc := 1) (k := 0) kcJ4 hM hv (by decide) kw_499 dJ5_getValue_6d5f1_1 ?_
  exact kz_aret (pc := 4) (v := .ref v2) rfl rfl (Or.inr ⟨_, rfl⟩) (Nat.le_refl _) (Nat.le_refl _) dJ5_getValue_6d5f1_4 h
theorem dJ5_init_d00df_0 : decode cJ5_init_d00df 0 = .ok (.aload_n 0, 1) := by decide +kernel
theorem dJ5_init_d00df_1 : decode cJ5_init_d00df 1 = .ok (.invokespecial 3, 3) := by decide +kernel
theorem dJ5_init_d00df_4 : decode cJ5_init_d00df 4 = .ok (.getstatic 18, 3) := by decide +kernel
theorem dJ5_init_d00df_7 : decode cJ5_init_d00df 7 = .ok (.ifCond .eq 18, 3) := by decide +kernel
theorem dJ5_init_d00df_10 : decode cJ5_init_d00df 10 = .ok (.aload_n 0, 1) := by decide +kernel
theorem dJ5_init_d00df_11 : decode cJ5_init_d00df 11 = .ok (.iload_n 1, 1) := by decide +kernel
theorem dJ5_init_d00df_12 : decode cJ5_init_d00df 12 = .ok (.newarray .byte, 2) := by decide +kernel
theorem dJ5_init_d00df_14 : decode cJ5_init_d00df 14 = .ok (.putfield 15, 3) := by decide +kernel
theorem dJ5_init_d00df_17 : decode cJ5_init_d00df 17 = .ok (.aload_n 0, 1) := by decide +kernel
theorem dJ5_init_d00df_18 : decode cJ5_init_d00df 18 = .ok (.iconst 0, 1) := by decide +kernel
theorem dJ5_init_d00df_19 : decode cJ5_init_d00df 19 = .ok (.putfield 22, 3) := by decide +kernel
theorem dJ5_init_d00df_22 : decode cJ5_init_d00df 22 = .ok (.goto 16, 3) := by decide +kernel
theorem dJ5_init_d00df_25 : decode cJ5_init_d00df 25 = .ok (.aload_n 0, 1) := by decide +kernel
theorem dJ5_init_d00df_26 : decode cJ5_init_d00df 26 = .ok (.iload_n 1, 1) := by decide +kernel
theorem dJ5_init_d00df_27 : decode cJ5_init_d00df 27 = .ok (.invokestatic 26, 3) := by decide +kernel
theorem dJ5_init_d00df_30 : decode cJ5_init_d00df 30 = .ok (.putfield 15, 3) := by decide +kernel
theorem dJ5_init_d00df_33 : decode cJ5_init_d00df 33 = .ok (.aload_n 0, 1) := by decide +kernel
theorem dJ5_init_d00df_34 : decode cJ5_init_d00df 34 = .ok (.iconst 1, 1) := by decide +kernel
theorem dJ5_init_d00df_35 : decode cJ5_init_d00df 35 = .ok (.putfield 22, 3) := by decide +kernel
theorem dJ5_init_d00df_38 : decode cJ5_init_d00df 38 = .ok (.return_, 1) := by decide +kernel
theorem rJ5_init_d00df_0 {G : kz_G} {d : Nat} {mc ms : Nat} {Qr : Option Value → kz_M → Prop} {Qx : String → kz_M → Prop} {a0 : Nat} {p1 : Int32}  {M : kz_M} (hG : kz_stat G) (h : ((1 : Int32) = 0 → False) ∧ (¬ (1 : Int32) = 0 → ∃ N1, ¬ p1 < 0 ∧ (p1 : Int32).toNatClampNeg = N1 ∧ N1 ≤ 60000000 ∧ 0 + 1 ≤ mc ∧ 0 + N1 ≤ ms ∧ (∃ fs3, ((kz_nw M (.inr (.byte, N1, .inl (fun _ => 0))))).1 a0 = some (.inl (15, fs3)) ∧ 0 < fs3.length ∧ (∃ fs4, ((kz_up (kz_nw M (.inr (.byte, N1, .inl (fun _ => 0)))) a0 (.inl (15, fs3.set 0 (.ref ((M).2)))))).1 a0 = some (.inl (15, fs4)) ∧ 1 < fs4.length ∧ (Qr none (kz_up (kz_up (kz_nw M (.inr (.byte, N1, .inl (fun _ => 0)))) a0 (.inl (15, fs3.set 0 (.ref ((M).2))))) a0 (.inl (15, fs4.set 1 (.int 0))))))))) : kz_C G (d + 1) mc ms mJ5_init_d00df [.ref a0, .int p1] M Qr Qx := by
  refine kz_enter (n := 1) kmJ5_init_d00df.1 (Nat.le_of_ble_eq_true rfl) (ls := [(0, .ref a0), (1, .int p1)]) rfl ?_
  refine kz_aload_n (pc := 0) 0 (v := .ref a0) (i := 0) rfl rfl rfl dJ5_init_d00df_0 ?_
  refine kz_objInit (pc := 1) kw_490 kw_43 kw_44 (by omega) (Nat.le_of_ble_eq_true rfl) dJ5_init_d00df_1 ?_
  refine kz_gets (pc := 4) (v := .int 1) hG.2.2.2.2.2.2.2.1.1 kw_491 dJ5_init_d00df_4 ?_
  refine kz_if_eq (pc := 7) (tgt := 25) (by decide) dJ5_init_d00df_7 (fun hb => ?_) (fun hb => ?_)
  · replace h := h.1 hb
    exact h.elim
  · replace h := h.2 hb
    refine kz_aload_n (pc := 10) 0 (v := .ref a0) (i := 0) rfl rfl rfl dJ5_init_d00df_10 ?_
    refine kz_iload_n (pc := 11) 1 (i := 1) rfl rfl dJ5_init_d00df_11 ?_
    obtain ⟨N1, hn, hN, hb8, hc2, hs2, h⟩ := h
    refine kz_newaB (pc := 12) N1 kw_60 hn hN hb8 hc2 hs2 dJ5_init_d00df_12 ?_
    obtain ⟨fs3, hM, hlen, h⟩ := h
    refine kz_putf (pc := 14) (k := 0) kcJ4 hM (by decide) hlen kw_499 rfl rfl rfl dJ5_init_d00df_14 ?_
    refine kz_aload_n (pc := 17) 0 (v := .ref a0) (i := 0) rfl rfl rfl dJ5_init_d00df_17 ?_
    refine kz_iconst (pc := 18) (v := 0) (by decide) dJ5_init_d00df_18 ?_
    obtain ⟨fs4, hM, hlen, h⟩ := h
    refine kz_putf (pc := 19) (k := 1) kcJ4 hM (by decide) hlen kw_500 rfl (show narrow .byte (.int 0) = .int 0 from by decide) (show fits .byte (.int 0) = true from by decide) dJ5_init_d00df_19 ?_
    refine kz_goto (pc := 22) (tgt := 38) (by decide) dJ5_init_d00df_22 ?_
    exact kz_vret (pc := 38) rfl hc2 hs2 dJ5_init_d00df_38 h
theorem dJ5_newCapacity_0f7a4_0 : decode cJ5_newCapacity_0f7a4 0 = .ok (.aload_n 0, 1) := by decide +kernel
theorem dJ5_newCapacity_0f7a4_1 : decode cJ5_newCapacity_0f7a4 1 = .ok (.getfield 15, 3) := by decide +kernel
theorem dJ5_newCapacity_0f7a4_4 : decode cJ5_newCapacity_0f7a4 4 = .ok (.arraylength, 1) := by decide +kernel
theorem dJ5_newCapacity_0f7a4_5 : decode cJ5_newCapacity_0f7a4 5 = .ok (.istore_n 2, 1) := by decide +kernel
theorem dJ5_newCapacity_0f7a4_6 : decode cJ5_newCapacity_0f7a4 6 = .ok (.iload_n 1, 1) := by decide +kernel
theorem dJ5_newCapacity_0f7a4_7 : decode cJ5_newCapacity_0f7a4 7 = .ok (.aload_n 0, 1) := by decide +kernel
theorem dJ5_newCapacity_0f7a4_8 : decode cJ5_newCapacity_0f7a4 8 = .ok (.getfield 22, 3) := by decide +kernel
theorem dJ5_newCapacity_0f7a4_11 : decode cJ5_newCapacity_0f7a4 11 = .ok (.ishl, 1) := by decide +kernel
theorem dJ5_newCapacity_0f7a4_12 : decode cJ5_newCapacity_0f7a4 12 = .ok (.istore_n 3, 1) := by decide +kernel
theorem dJ5_newCapacity_0f7a4_13 : decode cJ5_newCapacity_0f7a4 13 = .ok (.iload_n 3, 1) := by decide +kernel
theorem dJ5_newCapacity_0f7a4_14 : decode cJ5_newCapacity_0f7a4 14 = .ok (.iload_n 2, 1) := by decide +kernel
theorem dJ5_newCapacity_0f7a4_15 : decode cJ5_newCapacity_0f7a4 15 = .ok (.isub, 1) := by decide +kernel
theorem dJ5_newCapacity_0f7a4_16 : decode cJ5_newCapacity_0f7a4 16 = .ok (.istore 4, 2) := by decide +kernel
theorem dJ5_newCapacity_0f7a4_18 : decode cJ5_newCapacity_0f7a4 18 = .ok (.iload_n 2, 1) := by decide +kernel
theorem dJ5_newCapacity_0f7a4_19 : decode cJ5_newCapacity_0f7a4 19 = .ok (.iload 4, 2) := by decide +kernel
theorem dJ5_newCapacity_0f7a4_21 : decode cJ5_newCapacity_0f7a4 21 = .ok (.iload_n 2, 1) := by decide +kernel
theorem dJ5_newCapacity_0f7a4_22 : decode cJ5_newCapacity_0f7a4 22 = .ok (.iconst 2, 1) := by decide +kernel
theorem dJ5_newCapacity_0f7a4_23 : decode cJ5_newCapacity_0f7a4 23 = .ok (.aload_n 0, 1) := by decide +kernel
theorem dJ5_newCapacity_0f7a4_24 : decode cJ5_newCapacity_0f7a4 24 = .ok (.getfield 22, 3) := by decide +kernel
theorem dJ5_newCapacity_0f7a4_27 : decode cJ5_newCapacity_0f7a4 27 = .ok (.ishl, 1) := by decide +kernel
theorem dJ5_newCapacity_0f7a4_28 : decode cJ5_newCapacity_0f7a4 28 = .ok (.iadd, 1) := by decide +kernel
theorem dJ5_newCapacity_0f7a4_29 : decode cJ5_newCapacity_0f7a4 29 = .ok (.invokestatic 114, 3) := by decide +kernel
theorem dJ5_newCapacity_0f7a4_32 : decode cJ5_newCapacity_0f7a4 32 = .ok (.istore 5, 2) := by decide +kernel
theorem dJ5_newCapacity_0f7a4_34 : decode cJ5_newCapacity_0f7a4 34 = .ok (.iload 5, 2) := by decide +kernel
theorem dJ5_newCapacity_0f7a4_36 : decode cJ5_newCapacity_0f7a4 36 = .ok (.ldc 39, 2) := by decide +kernel
theorem dJ5_newCapacity_0f7a4_38 : decode cJ5_newCapacity_0f7a4 38 = .ok (.if_icmp .ne 13, 3) := by decide +kernel
theorem dJ5_newCapacity_0f7a4_41 : decode cJ5_newCapacity_0f7a4 41 = .ok (.new 120, 3) := by decide +kernel
theorem dJ5_newCapacity_0f7a4_44 : decode cJ5_newCapacity_0f7a4 44 = .ok (.dup, 1) := by decide +kernel
theorem dJ5_newCapacity_0f7a4_45 : decode cJ5_newCapacity_0f7a4 45 = .ok (.ldc 122, 2) := by decide +kernel
theorem dJ5_newCapacity_0f7a4_47 : decode cJ5_newCapacity_0f7a4 47 = .ok (.invokespecial 124, 3) := by decide +kernel
theorem dJ5_newCapacity_0f7a4_50 : decode cJ5_newCapacity_0f7a4 50 = .ok (.athrow, 1) := by decide +kernel
theorem dJ5_newCapacity_0f7a4_51 : decode cJ5_newCapacity_0f7a4 51 = .ok (.iload 5, 2) := by decide +kernel
theorem dJ5_newCapacity_0f7a4_53 : decode cJ5_newCapacity_0f7a4 53 = .ok (.aload_n 0, 1) := by decide +kernel
theorem dJ5_newCapacity_0f7a4_54 : decode cJ5_newCapacity_0f7a4 54 = .ok (.getfield 22, 3) := by decide +kernel
theorem dJ5_newCapacity_0f7a4_57 : decode cJ5_newCapacity_0f7a4 57 = .ok (.ishr, 1) := by decide +kernel
theorem dJ5_newCapacity_0f7a4_58 : decode cJ5_newCapacity_0f7a4 58 = .ok (.ireturn, 1) := by decide +kernel
theorem rJ5_newCapacity_0f7a4_0 {G : kz_G} {d : Nat} {Qr : Option Value → kz_M → Prop} {Qx : String → kz_M → Prop} {a0 : Nat} {p1 : Int32}  {M : kz_M} (h : ∃ fs1 v2, (M).1 a0 = some (.inl (15, fs1)) ∧ fs1[0]? = some (.ref v2) ∧ (∃ ty3 A4, (M).1 v2 = some (.inr (ty3, A4)) ∧ (∃ fs5 v6, (M).1 a0 = some (.inl (15, fs5)) ∧ fs5[1]? = some (.int v6) ∧ (∃ fs7 v8, (M).1 a0 = some (.inl (15, fs7)) ∧ fs7[1]? = some (.int v8) ∧ (kz_C G (d + 1) 0 0 mJ8_newLength_cabcc [.int (Int32.ofNat A4.1), .int ((p1 <<< (v6 &&& 31)) - (Int32.ofNat A4.1)), .int ((Int32.ofNat A4.1) + ((2 : Int32) <<< (v8 &&& 31)))] M (fun v M9 => ∃ r10 : Int32, v = some (.int r10) ∧ ((¬ r10 = (2147483647 : Int32) → ∃ fs12 v13, (M9).1 a0 = some (.inl (15, fs12)) ∧ fs12[1]? = some (.int v13) ∧ (Qr (some (.int (r10 >>> (v13 &&& 31)))) M9)) ∧ (r10 = (2147483647 : Int32) → False))) Qx))))) : kz_C G (d + 2) 0 0 mJ5_newCapacity_0f7a4 [.ref a0, .int p1] M Qr Qx := by
  refine kz_enter (n := 1) kmJ5_newCapacity_0f7a4 (Nat.le_of_ble_eq_true rfl) (ls := [(0, .ref a0), (1, .int p1)]) rfl ?_
  refine kz_aload_n (pc := 0) 0 (v := .ref a0) (i := 0) rfl rfl rfl dJ5_newCapacity_0f7a4_0 ?_
  obtain ⟨fs1, v2, hM, hv, h⟩ := h
  refine kz_getf (pc := 1) (k := 0) kcJ4 hM hv (by decide) kw_499 dJ5_newCapacity_0f7a4_1 ?_
  obtain ⟨ty3, A4, hM, h⟩ := h
  refine kz_alen (pc := 4) hM rfl dJ5_newCapacity_0f7a4_4 ?_
  refine kz_istore_n (pc := 5) (i := 2) (ls' := [(0, .ref a0), (1, .int p1)]) rfl (by decide) rfl dJ5_newCapacity_0f7a4_5 ?_
  refine kz_iload_n (pc := 6) 2 (i := 1) rfl rfl dJ5_newCapacity_0f7a4_6 ?_
  refine kz_aload_n (pc := 7) 1 (v := .ref a0) (i := 0) rfl rfl rfl dJ5_newCapacity_0f7a4_7 ?_
  obtain ⟨fs5, v6, hM, hv, h⟩ := h
  refine kz_getf (pc := 8) (k := 1) kcJ4 hM hv (by decide) kw_500 dJ5_newCapacity_0f7a4_8 ?_
  refine kz_ishl (pc := 11) dJ5_newCapacity_0f7a4_11 ?_
  refine kz_istore_n (pc := 12) (i := 3) (ls' := [(2, .int (Int32.ofNat A4.1)), (0, .ref a0), (1, .int p1)]) rfl (by decide) rfl dJ5_newCapacity_0f7a4_12 ?_
  refine kz_iload_n (pc := 13) 0 (i := 3) rfl rfl dJ5_newCapacity_0f7a4_13 ?_
  refine kz_iload_n (pc := 14) 1 (i := 2) rfl rfl dJ5_newCapacity_0f7a4_14 ?_
  refine kz_isub (pc := 15) dJ5_newCapacity_0f7a4_15 ?_
  refine kz_istore (pc := 16) (i := 4) (ls' := [(3, .int (p1 <<< (v6 &&& 31))), (2, .int (Int32.ofNat A4.1)), (0, .ref a0), (1, .int p1)]) (by decide) rfl dJ5_newCapacity_0f7a4_16 ?_
  refine kz_iload_n (pc := 18) 2 (i := 2) rfl rfl dJ5_newCapacity_0f7a4_18 ?_
  refine kz_iload (pc := 19) 0 (i := 4) rfl dJ5_newCapacity_0f7a4_19 ?_
  refine kz_iload_n (pc := 21) 2 (i := 2) rfl rfl dJ5_newCapacity_0f7a4_21 ?_
  refine kz_iconst (pc := 22) (v := 2) (by decide) dJ5_newCapacity_0f7a4_22 ?_
  refine kz_aload_n (pc := 23) 3 (v := .ref a0) (i := 0) rfl rfl rfl dJ5_newCapacity_0f7a4_23 ?_
  obtain ⟨fs7, v8, hM, hv, h⟩ := h
  refine kz_getf (pc := 24) (k := 1) kcJ4 hM hv (by decide) kw_500 dJ5_newCapacity_0f7a4_24 ?_
  refine kz_ishl (pc := 27) dJ5_newCapacity_0f7a4_27 ?_
  refine kz_iadd (pc := 28) dJ5_newCapacity_0f7a4_28 ?_
  refine kz_callS (pc := 29) (μ' := mJ8_newLength_cabcc) (d' := d + 1) (mc' := 0) (ms' := 0) (As := [.int (Int32.ofNat A4.1), .int ((p1 <<< (v6 &&& 31)) - (Int32.ofNat A4.1)), .int ((Int32.ofNat A4.1) + ((2 : Int32) <<< (v8 &&& 31)))]) (st := []) (c := 0) (sl := 0) kmJ8_newLength_cabcc kw_535 (by omega) rfl (Nat.le_of_ble_eq_true rfl) (Nat.le_refl _) (Nat.le_refl _) dJ5_newCapacity_0f7a4_29 (fun E M9 hx => kz_Tout rfl (Nat.le_refl _) (Nat.le_refl _) hx) (kz_Cmono (fun v M9 h => ?_) (fun _ _ h => h) h)
  obtain ⟨r10, rfl, h⟩ := h
  show kz_Z G (d + 2) 0 0 mJ5_newCapacity_0f7a4 Qr Qx 32 [(4, .int ((p1 <<< (v6 &&& 31)) - (Int32.ofNat A4.1))), (3, .int (p1 <<< (v6 &&& 31))), (2, .int (Int32.ofNat A4.1)), (0, .ref a0), (1, .int p1)] [.int r10] M9 0 0
  refine kz_istore (pc := 32) (i := 5) (ls' := [(4, .int ((p1 <<< (v6 &&& 31)) - (Int32.ofNat A4.1))), (3, .int (p1 <<< (v6 &&& 31))), (2, .int (Int32.ofNat A4.1)), (0, .ref a0), (1, .int p1)]) (by decide) rfl dJ5_newCapacity_0f7a4_32 ?_
  refine kz_iload (pc := 34) 0 (i := 5) rfl dJ5_newCapacity_0f7a4_34 ?_
  refine kz_ldcI (pc := 36) kw_545 rfl dJ5_newCapacity_0f7a4_36 ?_
  refine kz_icmp_ne (pc := 38) (tgt := 51) (by decide) dJ5_newCapacity_0f7a4_38 (fun hb => ?_) (fun hb => ?_)
  · replace h := h.1 hb
    refine kz_iload (pc := 51) 0 (i := 5) rfl dJ5_newCapacity_0f7a4_51 ?_
    refine kz_aload_n (pc := 53) 4 (v := .ref a0) (i := 0) rfl rfl rfl dJ5_newCapacity_0f7a4_53 ?_
    obtain ⟨fs12, v13, hM, hv, h⟩ := h
    refine kz_getf (pc := 54) (k := 1) kcJ4 hM hv (by decide) kw_500 dJ5_newCapacity_0f7a4_54 ?_
    refine kz_ishr (pc := 57) dJ5_newCapacity_0f7a4_57 ?_
    exact kz_iret (pc := 58) rfl (Nat.le_refl _) (Nat.le_refl _) dJ5_newCapacity_0f7a4_58 h
  · replace h := h.2 hb
    exact h.elim
theorem dJ5_ensureCapacityInternal_d00df_0 : decode cJ5_ensureCapacityInternal_d00df 0 = .ok (.aload_n 0, 1) := by decide +kernel
theorem dJ5_ensureCapacityInternal_d00df_1 : decode cJ5_ensureCapacityInternal_d00df 1 = .ok (.getfield 15, 3) := by decide +kernel
theorem dJ5_ensureCapacityInternal_d00df_4 : decode cJ5_ensureCapacityInternal_d00df 4 = .ok (.arraylength, 1) := by decide +kernel
theorem dJ5_ensureCapacityInternal_d00df_5 : decode cJ5_ensureCapacityInternal_d00df 5 = .ok (.aload_n 0, 1) := by decide +kernel
theorem dJ5_ensureCapacityInternal_d00df_6 : decode cJ5_ensureCapacityInternal_d00df 6 = .ok (.getfield 22, 3) := by decide +kernel
theorem dJ5_ensureCapacityInternal_d00df_9 : decode cJ5_ensureCapacityInternal_d00df 9 = .ok (.ishr, 1) := by decide +kernel
theorem dJ5_ensureCapacityInternal_d00df_10 : decode cJ5_ensureCapacityInternal_d00df 10 = .ok (.istore_n 2, 1) := by decide +kernel
theorem dJ5_ensureCapacityInternal_d00df_11 : decode cJ5_ensureCapacityInternal_d00df 11 = .ok (.iload_n 1, 1) := by decide +kernel
theorem dJ5_ensureCapacityInternal_d00df_12 : decode cJ5_ensureCapacityInternal_d00df 12 = .ok (.iload_n 2, 1) := by decide +kernel
theorem dJ5_ensureCapacityInternal_d00df_13 : decode cJ5_ensureCapacityInternal_d00df 13 = .ok (.isub, 1) := by decide +kernel
theorem dJ5_ensureCapacityInternal_d00df_14 : decode cJ5_ensureCapacityInternal_d00df 14 = .ok (.ifCond .le 24, 3) := by decide +kernel
theorem dJ5_ensureCapacityInternal_d00df_17 : decode cJ5_ensureCapacityInternal_d00df 17 = .ok (.aload_n 0, 1) := by decide +kernel
theorem dJ5_ensureCapacityInternal_d00df_18 : decode cJ5_ensureCapacityInternal_d00df 18 = .ok (.aload_n 0, 1) := by decide +kernel
theorem dJ5_ensureCapacityInternal_d00df_19 : decode cJ5_ensureCapacityInternal_d00df 19 = .ok (.getfield 15, 3) := by decide +kernel
theorem dJ5_ensureCapacityInternal_d00df_22 : decode cJ5_ensureCapacityInternal_d00df 22 = .ok (.aload_n 0, 1) := by decide +kernel
theorem dJ5_ensureCapacityInternal_d00df_23 : decode cJ5_ensureCapacityInternal_d00df 23 = .ok (.iload_n 1, 1) := by decide +kernel
theorem dJ5_ensureCapacityInternal_d00df_24 : decode cJ5_ensureCapacityInternal_d00df 24 = .ok (.invokevirtual 104, 3) := by decide +kernel
theorem dJ5_ensureCapacityInternal_d00df_27 : decode cJ5_ensureCapacityInternal_d00df 27 = .ok (.aload_n 0, 1) := by decide +kernel
theorem dJ5_ensureCapacityInternal_d00df_28 : decode cJ5_ensureCapacityInternal_d00df 28 = .ok (.getfield 22, 3) := by decide +kernel
theorem dJ5_ensureCapacityInternal_d00df_31 : decode cJ5_ensureCapacityInternal_d00df 31 = .ok (.ishl, 1) := by decide +kernel
theorem dJ5_ensureCapacityInternal_d00df_32 : decode cJ5_ensureCapacityInternal_d00df 32 = .ok (.invokestatic 108, 3) := by decide +kernel
theorem dJ5_ensureCapacityInternal_d00df_35 : decode cJ5_ensureCapacityInternal_d00df 35 = .ok (.putfield 15, 3) := by decide +kernel
theorem dJ5_ensureCapacityInternal_d00df_38 : decode cJ5_ensureCapacityInternal_d00df 38 = .ok (.return_, 1) := by decide +kernel
theorem rJ5_ensureCapacityInternal_d00df_0 {G : kz_G} {d : Nat} {mc ms : Nat} {Qr : Option Value → kz_M → Prop} {Qx : String → kz_M → Prop} {a0 : Nat} {p1 : Int32}  {M : kz_M} (hP : kz_statP G) (h : ∃ fs1 v2, (M).1 a0 = some (.inl (15, fs1)) ∧ fs1[0]? = some (.ref v2) ∧ (∃ ty3 A4, (M).1 v2 = some (.inr (ty3, A4)) ∧ (∃ fs5 v6, (M).1 a0 = some (.inl (15, fs5)) ∧ fs5[1]? = some (.int v6) ∧ (((p1 - ((Int32.ofNat A4.1) >>> (v6 &&& 31))) ≤ 0 → Qr none M) ∧ (¬ (p1 - ((Int32.ofNat A4.1) >>> (v6 &&& 31))) ≤ 0 → ∃ fs7 v8, (M).1 a0 = some (.inl (15, fs7)) ∧ fs7[0]? = some (.ref v8) ∧ ((∃ fs19, (M).1 a0 = some (.inl (15, fs19))) ∧ kz_C G (d + 2) 0 0 mJ5_newCapacity_0f7a4 [.ref a0, .int p1] M (fun v M9 => ∃ r10 : Int32, v = some (.int r10) ∧ (∃ fs12 v13, (M9).1 a0 = some (.inl (15, fs12)) ∧ fs12[1]? = some (.int v13) ∧ (∃ mc16 ms16, 0 + mc16 ≤ mc ∧ 0 + ms16 ≤ ms ∧ kz_C G (d + 2) mc16 ms16 mJ7_copyOf_9075b [.ref v8, .int (r10 <<< (v13 &&& 31))] M9 (fun v M14 => ∃ r15 : Nat, v = some (.ref r15) ∧ (∃ fs17, (M14).1 a0 = some (.inl (15, fs17)) ∧ 0 < fs17.length ∧ (Qr none (kz_up M14 a0 (.inl (15, fs17.set 0 (.ref r15))))))) Qx))) Qx)))))) : kz_C G (d + 3) mc ms mJ5_ensureCapacityInternal_d00df [.ref a0, .int p1] M Qr Qx := by
  refine kz_enter (n := 1) kmJ5_ensureCapacityInternal_d00df (Nat.le_of_ble_eq_true rfl) (ls := [(0, .ref a0), (1, .int p1)]) rfl ?_
  refine kz_aload_n (pc := 0) 0 (v := .ref a0) (i := 0) rfl rfl rfl dJ5_ensureCapacityInternal_d00df_0 ?_
  obtain ⟨fs1, v2, hM, hv, h⟩ := h
  refine kz_getf (pc := 1) (k := 0) kcJ4 hM hv (by decide) kw_499 dJ5_ensureCapacityInternal_d00df_1 ?_
  obtain ⟨ty3, A4, hM, h⟩ := h
  refine kz_alen (pc := 4) hM rfl dJ5_ensureCapacityInternal_d00df_4 ?_
  refine kz_aload_n (pc := 5) 0 (v := .ref a0) (i := 0) rfl rfl rfl dJ5_ensureCapacityInternal_d00df_5 ?_
  obtain ⟨fs5, v6, hM, hv, h⟩ := h
  refine kz_getf (pc := 6) (k := 1) kcJ4 hM hv (by decide) kw_500 dJ5_ensureCapacityInternal_d00df_6 ?_
  refine kz_ishr (pc := 9) dJ5_ensureCapacityInternal_d00df_9 ?_
  refine kz_istore_n (pc := 10) (i := 2) (ls' := [(0, .ref a0), (1, .int p1)]) rfl (by decide) rfl dJ5_ensureCapacityInternal_d00df_10 ?_
  refine kz_iload_n (pc := 11) 2 (i := 1) rfl rfl dJ5_ensureCapacityInternal_d00df_11 ?_
  refine kz_iload_n (pc := 12) 0 (i := 2) rfl rfl dJ5_ensureCapacityInternal_d00df_12 ?_
  refine kz_isub (pc := 13) dJ5_ensureCapacityInternal_d00df_13 ?_
  refine kz_if_le (pc := 14) (tgt := 38) (by decide) dJ5_ensureCapacityInternal_d00df_14 (fun hb => ?_) (fun hb => ?_)
  · replace h := h.1 hb
    exact kz_vret (pc := 38) rfl (Nat.zero_le _) (Nat.zero_le _) dJ5_ensureCapacityInternal_d00df_38 h
  · replace h := h.2 hb
    refine kz_aload_n (pc := 17) 1 (v := .ref a0) (i := 0) rfl rfl rfl dJ5_ensureCapacityInternal_d00df_17 ?_
    refine kz_aload_n (pc := 18) 1 (v := .ref a0) (i := 0) rfl rfl rfl dJ5_ensureCapacityInternal_d00df_18 ?_
    obtain ⟨fs7, v8, hM, hv, h⟩ := h
    refine kz_getf (pc := 19) (k := 0) kcJ4 hM hv (by decide) kw_499 dJ5_ensureCapacityInternal_d00df_19 ?_
    refine kz_aload_n (pc := 22) 1 (v := .ref a0) (i := 0) rfl rfl rfl dJ5_ensureCapacityInternal_d00df_22 ?_
    refine kz_iload_n (pc := 23) 2 (i := 1) rfl rfl dJ5_ensureCapacityInternal_d00df_23 ?_
    obtain ⟨⟨fs19, he⟩, h⟩ := h
    refine kz_callVC (pc := 24) (μ' := mJ5_newCapacity_0f7a4) (ci := 15) (q := (RJ4, TJ4, 4)) (b := a0) (d' := d + 2) (mc' := 0) (ms' := 0) (As := [.int p1]) (st := [.ref v8, .ref a0]) (c := 0) (sl := 0) kmJ5_newCapacity_0f7a4 rfl kw_533 (fun s args hK => kz_selP (x0 := yJ5_isLatin1_aae02) ⟨by decide +kernel, by decide +kernel⟩ (hK.1 _ kw_563 rfl args) rfl (kz_priv hP (List.mem_of_getElem? (i := 1) rfl) hK) (hK.1 _ kw_533 rfl args)) kw_531 (by omega) rfl (Nat.le_of_ble_eq_true rfl) he rfl (Nat.zero_le _) (Nat.zero_le _) dJ5_ensureCapacityInternal_d00df_24 (fun E M9 hx => kz_Tout rfl (Nat.zero_le _) (Nat.zero_le _) hx) (kz_Cmono (fun v M9 h => ?_) (fun _ _ h => h) h)
    obtain ⟨r10, rfl, h⟩ := h
    show kz_Z G (d + 3) mc ms mJ5_ensureCapacityInternal_d00df Qr Qx 27 [(2, .int ((Int32.ofNat A4.1) >>> (v6 &&& 31))), (0, .ref a0), (1, .int p1)] [.int r10, .ref v8, .ref a0] M9 0 0
    refine kz_aload_n (pc := 27) 1 (v := .ref a0) (i := 0) rfl rfl rfl dJ5_ensureCapacityInternal_d00df_27 ?_
    obtain ⟨fs12, v13, hM, hv, h⟩ := h
    refine kz_getf (pc := 28) (k := 1) kcJ4 hM hv (by decide) kw_500 dJ5_ensureCapacityInternal_d00df_28 ?_
    refine kz_ishl (pc := 31) dJ5_ensureCapacityInternal_d00df_31 ?_
    obtain ⟨mc16, ms16, hc16, hs16, h⟩ := h
    refine kz_callS (pc := 32) (μ' := mJ7_copyOf_9075b) (d' := d + 2) (mc' := mc16) (ms' := ms16) (As := [.ref v8, .int (r10 <<< (v13 &&& 31))]) (st := [.ref a0]) (c := 0) (sl := 0) kmJ7_copyOf_9075b kw_546 (by omega) rfl (Nat.le_of_ble_eq_true rfl) hc16 hs16 dJ5_ensureCapacityInternal_d00df_32 (fun E M9 hx => kz_Tout rfl hc16 hs16 hx) (kz_Cmono (fun v M14 h => ?_) (fun _ _ h => h) h)
    obtain ⟨r15, rfl, h⟩ := h
    show kz_Z G (d + 3) mc ms mJ5_ensureCapacityInternal_d00df Qr Qx 35 [(2, .int ((Int32.ofNat A4.1) >>> (v6 &&& 31))), (0, .ref a0), (1, .int p1)] [.ref r15, .ref a0] M14 (0 + mc16) (0 + ms16)
    obtain ⟨fs17, hM, hlen, h⟩ := h
    refine kz_putf (pc := 35) (k := 0) kcJ4 hM (by decide) hlen kw_499 rfl rfl rfl dJ5_ensureCapacityInternal_d00df_35 ?_
    exact kz_vret (pc := 38) rfl hc16 hs16 dJ5_ensureCapacityInternal_d00df_38 h
theorem dJ5_inflateIfNeededFor_a7421_0 : decode cJ5_inflateIfNeededFor_a7421 0 = .ok (.getstatic 18, 3) := by decide +kernel
theorem dJ5_inflateIfNeededFor_a7421_3 : decode cJ5_inflateIfNeededFor_a7421 3 = .ok (.ifCond .eq 18, 3) := by decide +kernel
theorem dJ5_inflateIfNeededFor_a7421_6 : decode cJ5_inflateIfNeededFor_a7421 6 = .ok (.aload_n 0, 1) := by decide +kernel
theorem dJ5_inflateIfNeededFor_a7421_7 : decode cJ5_inflateIfNeededFor_a7421 7 = .ok (.getfield 22, 3) := by decide +kernel
theorem dJ5_inflateIfNeededFor_a7421_10 : decode cJ5_inflateIfNeededFor_a7421 10 = .ok (.aload_n 1, 1) := by decide +kernel
theorem dJ5_inflateIfNeededFor_a7421_11 : decode cJ5_inflateIfNeededFor_a7421 11 = .ok (.invokevirtual 40, 3) := by decide +kernel
theorem dJ5_inflateIfNeededFor_a7421_14 : decode cJ5_inflateIfNeededFor_a7421 14 = .ok (.if_icmp .eq 7, 3) := by decide +kernel
theorem dJ5_inflateIfNeededFor_a7421_17 : decode cJ5_inflateIfNeededFor_a7421 17 = .ok (.aload_n 0, 1) := by decide +kernel
theorem dJ5_inflateIfNeededFor_a7421_18 : decode cJ5_inflateIfNeededFor_a7421 18 = .ok (.invokevirtual 195, 3) := by decide +kernel
theorem dJ5_inflateIfNeededFor_a7421_21 : decode cJ5_inflateIfNeededFor_a7421 21 = .ok (.return_, 1) := by decide +kernel
theorem rJ5_inflateIfNeededFor_a7421_0 {G : kz_G} {d : Nat} {Qr : Option Value → kz_M → Prop} {Qx : String → kz_M → Prop} {a0 : Nat} {p1 : Nat}  {M : kz_M} (hG : kz_stat G) (h : ((1 : Int32) = 0 → Qr none M) ∧ (¬ (1 : Int32) = 0 → ∃ fs1 v2, (M).1 a0 = some (.inl (15, fs1)) ∧ fs1[1]? = some (.int v2) ∧ (kz_lit G p1 ∧ kz_C G (d + 0) 0 0 mJ0_coder_7d493 [.retAddr p1] M (fun v M3 => ∃ r4 : Int32, v = some (.int r4) ∧ ((v2 = r4 → Qr none M3) ∧ (¬ v2 = r4 → False))) Qx))) : kz_C G (d + 1) 0 0 mJ5_inflateIfNeededFor_a7421 [.ref a0, .retAddr p1] M Qr Qx := by
  refine kz_enter (n := 1) kmJ5_inflateIfNeededFor_a7421 (Nat.le_of_ble_eq_true rfl) (ls := [(0, .ref a0), (1, .retAddr p1)]) rfl ?_
  refine kz_gets (pc := 0) (v := .int 1) hG.2.2.2.2.2.2.2.1.1 kw_491 dJ5_inflateIfNeededFor_a7421_0 ?_
  refine kz_if_eq (pc := 3) (tgt := 21) (by decide) dJ5_inflateIfNeededFor_a7421_3 (fun hb => ?_) (fun hb => ?_)
  · replace h := h.1 hb
    exact kz_vret (pc := 21) rfl (Nat.le_refl _) (Nat.le_refl _) dJ5_inflateIfNeededFor_a7421_21 h
  · replace h := h.2 hb
    refine kz_aload_n (pc := 6) 0 (v := .ref a0) (i := 0) rfl rfl rfl dJ5_inflateIfNeededFor_a7421_6 ?_
    obtain ⟨fs1, v2, hM, hv, h⟩ := h
    refine kz_getf (pc := 7) (k := 1) kcJ4 hM hv (by decide) kw_500 dJ5_inflateIfNeededFor_a7421_7 ?_
    refine kz_aload_n (pc := 10) 1 (v := .retAddr p1) (i := 1) rfl rfl rfl dJ5_inflateIfNeededFor_a7421_10 ?_
    obtain ⟨hl9, h⟩ := h
    refine kz_callVO (pc := 11) (μ' := mJ0_coder_7d493) (d' := d + 0) (mc' := 0) (ms' := 0) (As := []) (st := [.int v2]) (c := 0) (sl := 0) kmJ0_coder_7d493 kw_589 (by omega) rfl (Nat.le_of_ble_eq_true rfl) hl9.1 (Nat.le_refl _) (Nat.le_refl _) dJ5_inflateIfNeededFor_a7421_11 (fun E M9 hx => kz_Tout rfl (Nat.le_refl _) (Nat.le_refl _) hx) (kz_Cmono (fun v M3 h => ?_) (fun _ _ h => h) h)
    obtain ⟨r4, rfl, h⟩ := h
    show kz_Z G (d + 1) 0 0 mJ5_inflateIfNeededFor_a7421 Qr Qx 14 [(0, .ref a0), (1, .retAddr p1)] [.int r4, .int v2] M3 0 0
    refine kz_icmp_eq (pc := 14) (tgt := 21) (by decide) dJ5_inflateIfNeededFor_a7421_14 (fun hb => ?_) (fun hb => ?_)
    · replace h := h.1 hb
      exact kz_vret (pc := 21) rfl (Nat.le_refl _) (Nat.le_refl _) dJ5_inflateIfNeededFor_a7421_21 h
    · replace h := h.2 hb
      exact h.elim
theorem dJ0_getBytes_840e7_0 : decode cJ0_getBytes_840e7 0 = .ok (.aload_n 0, 1) := by decide +kernel
theorem dJ0_getBytes_840e7_1 : decode cJ0_getBytes_840e7 1 = .ok (.invokevirtual 335, 3) := by decide +kernel
theorem dJ0_getBytes_840e7_4 : decode cJ0_getBytes_840e7 4 = .ok (.iload_n 3, 1) := by decide +kernel
theorem dJ0_getBytes_840e7_5 : decode cJ0_getBytes_840e7 5 = .ok (.if_icmp .ne 23, 3) := by decide +kernel
theorem dJ0_getBytes_840e7_8 : decode cJ0_getBytes_840e7 8 = .ok (.aload_n 0, 1) := by decide +kernel
theorem dJ0_getBytes_840e7_9 : decode cJ0_getBytes_840e7 9 = .ok (.getfield 9, 3) := by decide +kernel
theorem dJ0_getBytes_840e7_12 : decode cJ0_getBytes_840e7 12 = .ok (.iconst 0, 1) := by decide +kernel
theorem dJ0_getBytes_840e7_13 : decode cJ0_getBytes_840e7 13 = .ok (.aload_n 1, 1) := by decide +kernel
theorem dJ0_getBytes_840e7_14 : decode cJ0_getBytes_840e7 14 = .ok (.iload_n 2, 1) := by decide +kernel
theorem dJ0_getBytes_840e7_15 : decode cJ0_getBytes_840e7 15 = .ok (.iload_n 3, 1) := by decide +kernel
theorem dJ0_getBytes_840e7_16 : decode cJ0_getBytes_840e7 16 = .ok (.ishl, 1) := by decide +kernel
theorem dJ0_getBytes_840e7_17 : decode cJ0_getBytes_840e7 17 = .ok (.aload_n 0, 1) := by decide +kernel
theorem dJ0_getBytes_840e7_18 : decode cJ0_getBytes_840e7 18 = .ok (.getfield 9, 3) := by decide +kernel
theorem dJ0_getBytes_840e7_21 : decode cJ0_getBytes_840e7 21 = .ok (.arraylength, 1) := by decide +kernel
theorem dJ0_getBytes_840e7_22 : decode cJ0_getBytes_840e7 22 = .ok (.invokestatic 212, 3) := by decide +kernel
theorem dJ0_getBytes_840e7_25 : decode cJ0_getBytes_840e7 25 = .ok (.goto 18, 3) := by decide +kernel
theorem dJ0_getBytes_840e7_28 : decode cJ0_getBytes_840e7 28 = .ok (.aload_n 0, 1) := by decide +kernel
theorem dJ0_getBytes_840e7_29 : decode cJ0_getBytes_840e7 29 = .ok (.getfield 9, 3) := by decide +kernel
theorem dJ0_getBytes_840e7_32 : decode cJ0_getBytes_840e7 32 = .ok (.iconst 0, 1) := by decide +kernel
theorem dJ0_getBytes_840e7_33 : decode cJ0_getBytes_840e7 33 = .ok (.aload_n 1, 1) := by decide +kernel
theorem dJ0_getBytes_840e7_34 : decode cJ0_getBytes_840e7 34 = .ok (.iload_n 2, 1) := by decide +kernel
theorem dJ0_getBytes_840e7_35 : decode cJ0_getBytes_840e7 35 = .ok (.aload_n 0, 1) := by decide +kernel
theorem dJ0_getBytes_840e7_36 : decode cJ0_getBytes_840e7 36 = .ok (.getfield 9, 3) := by decide +kernel
theorem dJ0_getBytes_840e7_39 : decode cJ0_getBytes_840e7 39 = .ok (.arraylength, 1) := by decide +kernel
theorem dJ0_getBytes_840e7_40 : decode cJ0_getBytes_840e7 40 = .ok (.invokestatic 106, 3) := by decide +kernel
theorem dJ0_getBytes_840e7_43 : decode cJ0_getBytes_840e7 43 = .ok (.return_, 1) := by decide +kernel
theorem rJ0_getBytes_840e7_0 {G : kz_G} {d : Nat} {Qr : Option Value → kz_M → Prop} {Qx : String → kz_M → Prop} {a0 : Nat} {p1 : Nat} {p2 : Int32} {p3 : Int32}  {M : kz_M} (h : kz_lit G a0 ∧ kz_C G (d + 0) 0 0 mJ0_coder_7d493 [.retAddr a0] M (fun v M1 => ∃ r2 : Int32, v = some (.int r2) ∧ ((¬ r2 = p3 → False) ∧ (r2 = p3 → kz_lit G a0 ∧ (kz_lit G a0 ∧ (kz_lit G a0 ∧ (∃ n7 g5, kz_lit G a0 ∧ (M1).1 p1 = some (.inr (.byte, n7, .inl g5)) ∧ (∀ i, i < (kz_txt a0).length → fits .byte (.int ((kz_txt a0).getD i 0)) = true) ∧ ¬ ((0 : Int32)) < (0 : Int32) ∧ ¬ ((p2 <<< (p3 &&& 31))) < (0 : Int32) ∧ ¬ ((Int32.ofNat (kz_txt a0).length)) < (0 : Int32) ∧ (0 : Int32).toNatClampNeg + (Int32.ofNat (kz_txt a0).length : Int32).toNatClampNeg ≤ (kz_txt a0).length ∧ (p2 <<< (p3 &&& 31) : Int32).toNatClampNeg + (Int32.ofNat (kz_txt a0).length : Int32).toNatClampNeg ≤ n7 ∧ ∀ M8, M8 = kz_up M1 p1 (.inr (.byte, n7, .inl (va_cpy (fun k => (kz_txt a0).getD k 0) g5 (0 : Int32).toNatClampNeg (p2 <<< (p3 &&& 31) : Int32).toNatClampNeg (Int32.ofNat (kz_txt a0).length : Int32).toNatClampNeg))) → Qr none M8)))))) Qx) : kz_C G (d + 1) 0 0 mJ0_getBytes_840e7 [.retAddr a0, .ref p1, .int p2, .int p3] M Qr Qx := by
  refine kz_enter (n := 3) kmJ0_getBytes_840e7.1 (Nat.le_of_ble_eq_true rfl) (ls := [(0, .retAddr a0), (1, .ref p1), (2, .int p2), (3, .int p3)]) rfl ?_
  refine kz_aload_n (pc := 0) 0 (v := .retAddr a0) (i := 0) rfl rfl rfl dJ0_getBytes_840e7_0 ?_
  obtain ⟨hl9, h⟩ := h
  refine kz_callVO (pc := 1) (μ' := mJ0_coder_7d493) (d' := d + 0) (mc' := 0) (ms' := 0) (As := []) (st := []) (c := 0) (sl := 0) kmJ0_coder_7d493 kw_231 (by omega) rfl (Nat.le_of_ble_eq_true rfl) hl9.1 (Nat.le_refl _) (Nat.le_refl _) dJ0_getBytes_840e7_1 (fun E M9 hx => kz_Tout rfl (Nat.le_refl _) (Nat.le_refl _) hx) (kz_Cmono (fun v M1 h => ?_) (fun _ _ h => h) h)
  obtain ⟨r2, rfl, h⟩ := h
  show kz_Z G (d + 1) 0 0 mJ0_getBytes_840e7 Qr Qx 4 [(0, .retAddr a0), (1, .ref p1), (2, .int p2), (3, .int p3)] [.int r2] M1 0 0
  refine kz_iload_n (pc := 4) 3 (i := 3) rfl rfl dJ0_getBytes_840e7_4 ?_
  refine kz_icmp_ne (pc := 5) (tgt := 28) (by decide) dJ0_getBytes_840e7_5 (fun hb => ?_) (fun hb => ?_)
  · replace h := h.1 hb
    exact h.elim
  · replace h := h.2 hb
    refine kz_aload_n (pc := 8) 0 (v := .retAddr a0) (i := 0) rfl rfl rfl dJ0_getBytes_840e7_8 ?_
    obtain ⟨hl9, h⟩ := h
    refine kz_sgetf (pc := 9) (v := .retAddr (a0 + 1000)) hl9.2.2.1 kw_1060 dJ0_getBytes_840e7_9 ?_
    refine kz_iconst (pc := 12) (v := 0) (by decide) dJ0_getBytes_840e7_12 ?_
    refine kz_aload_n (pc := 13) 1 (v := .ref p1) (i := 1) rfl rfl rfl dJ0_getBytes_840e7_13 ?_
    refine kz_iload_n (pc := 14) 2 (i := 2) rfl rfl dJ0_getBytes_840e7_14 ?_
    refine kz_iload_n (pc := 15) 3 (i := 3) rfl rfl dJ0_getBytes_840e7_15 ?_
    refine kz_ishl (pc := 16) dJ0_getBytes_840e7_16 ?_
    refine kz_aload_n (pc := 17) 0 (v := .retAddr a0) (i := 0) rfl rfl rfl dJ0_getBytes_840e7_17 ?_
    obtain ⟨hl9, h⟩ := h
    refine kz_sgetf (pc := 18) (v := .retAddr (a0 + 1000)) hl9.2.2.1 kw_1060 dJ0_getBytes_840e7_18 ?_
    obtain ⟨hl9, h⟩ := h
    refine kz_salen (pc := 21) hl9.2.2.2 rfl dJ0_getBytes_840e7_21 ?_
    obtain ⟨n7, g5, hl9, hb, hfit, h1, h2, h3, h4, h5, h⟩ := h
    refine kz_copySB (pc := 22) ⟨kw_613, kw_409, kw_408, kw_11⟩ hl9.2.2.2 hb hfit h1 h2 h3 h4 h5 (by omega) (Nat.le_of_ble_eq_true rfl) dJ0_getBytes_840e7_22 ?_
    refine kz_nameM (fun M8 e9 => ?_)
    replace h := h M8 e9
    refine kz_goto (pc := 25) (tgt := 43) (by decide) dJ0_getBytes_840e7_25 ?_
    exact kz_vret (pc := 43) rfl (Nat.le_refl _) (Nat.le_refl _) dJ0_getBytes_840e7_43 h
theorem dJ5_putStringAt_47b60_0 : decode cJ5_putStringAt_47b60 0 = .ok (.aload_n 0, 1) := by decide +kernel
theorem dJ5_putStringAt_47b60_1 : decode cJ5_putStringAt_47b60 1 = .ok (.aload_n 2, 1) := by decide +kernel
theorem dJ5_putStringAt_47b60_2 : decode cJ5_putStringAt_47b60 2 = .ok (.invokevirtual 397, 3) := by decide +kernel
theorem dJ5_putStringAt_47b60_5 : decode cJ5_putStringAt_47b60 5 = .ok (.aload_n 2, 1) := by decide +kernel
theorem dJ5_putStringAt_47b60_6 : decode cJ5_putStringAt_47b60 6 = .ok (.aload_n 0, 1) := by decide +kernel
theorem dJ5_putStringAt_47b60_7 : decode cJ5_putStringAt_47b60 7 = .ok (.getfield 15, 3) := by decide +kernel
theorem dJ5_putStringAt_47b60_10 : decode cJ5_putStringAt_47b60 10 = .ok (.iload_n 1, 1) := by decide +kernel
theorem dJ5_putStringAt_47b60_11 : decode cJ5_putStringAt_47b60 11 = .ok (.aload_n 0, 1) := by decide +kernel
theorem dJ5_putStringAt_47b60_12 : decode cJ5_putStringAt_47b60 12 = .ok (.getfield 22, 3) := by decide +kernel
theorem dJ5_putStringAt_47b60_15 : decode cJ5_putStringAt_47b60 15 = .ok (.invokevirtual 399, 3) := by decide +kernel
theorem dJ5_putStringAt_47b60_18 : decode cJ5_putStringAt_47b60 18 = .ok (.return_, 1) := by decide +kernel
theorem rJ5_putStringAt_47b60_0 {G : kz_G} {d : Nat} {Qr : Option Value → kz_M → Prop} {Qx : String → kz_M → Prop} {a0 : Nat} {p1 : Int32} {p2 : Nat}  {M : kz_M} (hP : kz_statP G) (h : (∃ fs12, (M).1 a0 = some (.inl (15, fs12))) ∧ kz_C G (d + 1) 0 0 mJ5_inflateIfNeededFor_a7421 [.ref a0, .retAddr p2] M (fun v M1 => v = none ∧ (∃ fs4 v5, (M1).1 a0 = some (.inl (15, fs4)) ∧ fs4[0]? = some (.ref v5) ∧ (∃ fs6 v7, (M1).1 a0 = some (.inl (15, fs6)) ∧ fs6[1]? = some (.int v7) ∧ (kz_lit G p2 ∧ kz_C G (d + 1) 0 0 mJ0_getBytes_840e7 [.retAddr p2, .ref v5, .int p1, .int v7] M1 (fun v M8 => v = none ∧ (Qr none M8)) Qx)))) Qx) : kz_C G (d + 2) 0 0 mJ5_putStringAt_47b60 [.ref a0, .int p1, .retAddr p2] M Qr Qx := by
  refine kz_enter (n := 2) kmJ5_putStringAt_47b60 (Nat.le_of_ble_eq_true rfl) (ls := [(0, .ref a0), (1, .int p1), (2, .retAddr p2)]) rfl ?_
  refine kz_aload_n (pc := 0) 0 (v := .ref a0) (i := 0) rfl rfl rfl dJ5_putStringAt_47b60_0 ?_
  refine kz_aload_n (pc := 1) 2 (v := .retAddr p2) (i := 2) rfl rfl rfl dJ5_putStringAt_47b60_1 ?_
  obtain ⟨⟨fs12, he⟩, h⟩ := h
  refine kz_callVC (pc := 2) (μ' := mJ5_inflateIfNeededFor_a7421) (ci := 15) (q := (RJ4, TJ4, 4)) (b := a0) (d' := d + 1) (mc' := 0) (ms' := 0) (As := [.retAddr p2]) (st := []) (c := 0) (sl := 0) kmJ5_inflateIfNeededFor_a7421 rfl kw_587 (fun s args hK => kz_selP (x0 := yJ5_isLatin1_aae02) ⟨by decide +kernel, by decide +kernel⟩ (hK.1 _ kw_563 rfl args) rfl (kz_priv hP (List.mem_of_getElem? (i := 3) rfl) hK) (hK.1 _ kw_587 rfl args)) kw_585 (by omega) rfl (Nat.le_of_ble_eq_true rfl) he rfl (Nat.le_refl _) (Nat.le_refl _) dJ5_putStringAt_47b60_2 (fun E M9 hx => kz_Tout rfl (Nat.le_refl _) (Nat.le_refl _) hx) (kz_Cmono (fun v M1 h => ?_) (fun _ _ h => h) h)
  obtain ⟨rfl, h⟩ := h
  show kz_Z G (d + 2) 0 0 mJ5_putStringAt_47b60 Qr Qx 5 [(0, .ref a0), (1, .int p1), (2, .retAddr p2)] [] M1 0 0
  refine kz_aload_n (pc := 5) 2 (v := .retAddr p2) (i := 2) rfl rfl rfl dJ5_putStringAt_47b60_5 ?_
  refine kz_aload_n (pc := 6) 0 (v := .ref a0) (i := 0) rfl rfl rfl dJ5_putStringAt_47b60_6 ?_
  obtain ⟨fs4, v5, hM, hv, h⟩ := h
  refine kz_getf (pc := 7) (k := 0) kcJ4 hM hv (by decide) kw_499 dJ5_putStringAt_47b60_7 ?_
  refine kz_iload_n (pc := 10) 1 (i := 1) rfl rfl dJ5_putStringAt_47b60_10 ?_
  refine kz_aload_n (pc := 11) 0 (v := .ref a0) (i := 0) rfl rfl rfl dJ5_putStringAt_47b60_11 ?_
  obtain ⟨fs6, v7, hM, hv, h⟩ := h
  refine kz_getf (pc := 12) (k := 1) kcJ4 hM hv (by decide) kw_500 dJ5_putStringAt_47b60_12 ?_
  obtain ⟨hl9, h⟩ := h
  refine kz_callVO (pc := 15) (μ' := mJ0_getBytes_840e7) (d' := d + 1) (mc' := 0) (ms' := 0) (As := [.ref v5, .int p1, .int v7]) (st := []) (c := 0) (sl := 0) kmJ0_getBytes_840e7 kw_609 (by omega) rfl (Nat.le_of_ble_eq_true rfl) hl9.1 (Nat.le_refl _) (Nat.le_refl _) dJ5_putStringAt_47b60_15 (fun E M9 hx => kz_Tout rfl (Nat.le_refl _) (Nat.le_refl _) hx) (kz_Cmono (fun v M8 h => ?_) (fun _ _ h => h) h)
  obtain ⟨rfl, h⟩ := h
  show kz_Z G (d + 2) 0 0 mJ5_putStringAt_47b60 Qr Qx 18 [(0, .ref a0), (1, .int p1), (2, .retAddr p2)] [] M8 0 0
  exact kz_vret (pc := 18) rfl (Nat.le_refl _) (Nat.le_refl _) dJ5_putStringAt_47b60_18 h
theorem dJ5_append_cf1ce_0 : decode cJ5_append_cf1ce 0 = .ok (.aload_n 1, 1) := by decide +kernel
theorem dJ5_append_cf1ce_1 : decode cJ5_append_cf1ce 1 = .ok (.ifnonnull 8, 3) := by decide +kernel
theorem dJ5_append_cf1ce_4 : decode cJ5_append_cf1ce 4 = .ok (.aload_n 0, 1) := by decide +kernel
theorem dJ5_append_cf1ce_5 : decode cJ5_append_cf1ce 5 = .ok (.invokevirtual 204, 3) := by decide +kernel
theorem dJ5_append_cf1ce_8 : decode cJ5_append_cf1ce 8 = .ok (.areturn, 1) := by decide +kernel
theorem dJ5_append_cf1ce_9 : decode cJ5_append_cf1ce 9 = .ok (.aload_n 1, 1) := by decide +kernel
theorem dJ5_append_cf1ce_10 : decode cJ5_append_cf1ce 10 = .ok (.invokevirtual 32, 3) := by decide +kernel
theorem dJ5_append_cf1ce_13 : decode cJ5_append_cf1ce 13 = .ok (.istore_n 2, 1) := by decide +kernel
theorem dJ5_append_cf1ce_14 : decode cJ5_append_cf1ce 14 = .ok (.aload_n 0, 1) := by decide +kernel
theorem dJ5_append_cf1ce_15 : decode cJ5_append_cf1ce 15 = .ok (.aload_n 0, 1) := by decide +kernel
theorem dJ5_append_cf1ce_16 : decode cJ5_append_cf1ce 16 = .ok (.getfield 79, 3) := by decide +kernel
theorem dJ5_append_cf1ce_19 : decode cJ5_append_cf1ce 19 = .ok (.iload_n 2, 1) := by decide +kernel
theorem dJ5_append_cf1ce_20 : decode cJ5_append_cf1ce 20 = .ok (.iadd, 1) := by decide +kernel
theorem dJ5_append_cf1ce_21 : decode cJ5_append_cf1ce 21 = .ok (.invokevirtual 100, 3) := by decide +kernel
theorem dJ5_append_cf1ce_24 : decode cJ5_append_cf1ce 24 = .ok (.aload_n 0, 1) := by decide +kernel
theorem dJ5_append_cf1ce_25 : decode cJ5_append_cf1ce 25 = .ok (.aload_n 0, 1) := by decide +kernel
theorem dJ5_append_cf1ce_26 : decode cJ5_append_cf1ce 26 = .ok (.getfield 79, 3) := by decide +kernel
theorem dJ5_append_cf1ce_29 : decode cJ5_append_cf1ce 29 = .ok (.aload_n 1, 1) := by decide +kernel
theorem dJ5_append_cf1ce_30 : decode cJ5_append_cf1ce 30 = .ok (.invokevirtual 208, 3) := by decide +kernel
theorem dJ5_append_cf1ce_33 : decode cJ5_append_cf1ce 33 = .ok (.aload_n 0, 1) := by decide +kernel
theorem dJ5_append_cf1ce_34 : decode cJ5_append_cf1ce 34 = .ok (.dup, 1) := by decide +kernel
theorem dJ5_append_cf1ce_35 : decode cJ5_append_cf1ce 35 = .ok (.getfield 79, 3) := by decide +kernel
theorem dJ5_append_cf1ce_38 : decode cJ5_append_cf1ce 38 = .ok (.iload_n 2, 1) := by decide +kernel
theorem dJ5_append_cf1ce_39 : decode cJ5_append_cf1ce 39 = .ok (.iadd, 1) := by decide +kernel
theorem dJ5_append_cf1ce_40 : decode cJ5_append_cf1ce 40 = .ok (.putfield 79, 3) := by decide +kernel
theorem dJ5_append_cf1ce_43 : decode cJ5_append_cf1ce 43 = .ok (.aload_n 0, 1) := by decide +kernel
theorem dJ5_append_cf1ce_44 : decode cJ5_append_cf1ce 44 = .ok (.areturn, 1) := by decide +kernel
theorem rJ5_append_cf1ce_0 {G : kz_G} {d : Nat} {mc ms : Nat} {Qr : Option Value → kz_M → Prop} {Qx : String → kz_M → Prop} {a0 : Nat} {p1 : Nat}  {M : kz_M} (hP : kz_statP G) (h : kz_lit G p1 ∧ kz_C G (d + 3) 0 0 mJ0_length_8abf5 [.retAddr p1] M (fun v M1 => ∃ r2 : Int32, v = some (.int r2) ∧ (∃ fs4 v5, (M1).1 a0 = some (.inl (15, fs4)) ∧ fs4[3]? = some (.int v5) ∧ ((∃ fs18, (M1).1 a0 = some (.inl (15, fs18))) ∧ ∃ mc8 ms8, 0 + mc8 ≤ mc ∧ 0 + ms8 ≤ ms ∧ kz_C G (d + 3) mc8 ms8 mJ5_ensureCapacityInternal_d00df [.ref a0, .int (v5 + r2)] M1 (fun v M6 => v = none ∧ (∃ fs9 v10, (M6).1 a0 = some (.inl (15, fs9)) ∧ fs9[3]? = some (.int v10) ∧ ((∃ fs17, (M6).1 a0 = some (.inl (15, fs17))) ∧ kz_C G (d + 3) 0 0 mJ5_putStringAt_47b60 [.ref a0, .int v10, .retAddr p1] M6 (fun v M11 => v = none ∧ (∃ fs14 v15, (M11).1 a0 = some (.inl (15, fs14)) ∧ fs14[3]? = some (.int v15) ∧ (∃ fs16, (M11).1 a0 = some (.inl (15, fs16)) ∧ 3 < fs16.length ∧ (Qr (some (.ref a0)) (kz_up M11 a0 (.inl (15, fs16.set 3 (.int (v15 + r2))))))))) Qx))) Qx))) Qx) : kz_C G (d + 4) mc ms mJ5_append_cf1ce [.ref a0, .retAddr p1] M Qr Qx := by
  refine kz_enter (n := 1) kmJ5_append_cf1ce (Nat.le_of_ble_eq_true rfl) (ls := [(0, .ref a0), (1, .retAddr p1)]) rfl ?_
  refine kz_aload_n (pc := 0) 1 (v := .retAddr p1) (i := 1) rfl rfl rfl dJ5_append_cf1ce_0 ?_
  refine kz_ifnonnull (pc := 1) (tgt := 9) rfl (by decide) dJ5_append_cf1ce_1 (fun _ => ?_) (fun hn => by cases hn)
  refine kz_aload_n (pc := 9) 1 (v := .retAddr p1) (i := 1) rfl rfl rfl dJ5_append_cf1ce_9 ?_
  obtain ⟨hl9, h⟩ := h
  refine kz_callVO (pc := 10) (μ' := mJ0_length_8abf5) (d' := d + 3) (mc' := 0) (ms' := 0) (As := []) (st := []) (c := 0) (sl := 0) kmJ0_length_8abf5 kw_580 (by omega) rfl (Nat.le_of_ble_eq_true rfl) hl9.1 (Nat.zero_le _) (Nat.zero_le _) dJ5_append_cf1ce_10 (fun E M9 hx => kz_Tout rfl (Nat.zero_le _) (Nat.zero_le _) hx) (kz_Cmono (fun v M1 h => ?_) (fun _ _ h => h) h)
  obtain ⟨r2, rfl, h⟩ := h
  show kz_Z G (d + 4) mc ms mJ5_append_cf1ce Qr Qx 13 [(0, .ref a0), (1, .retAddr p1)] [.int r2] M1 0 0
  refine kz_istore_n (pc := 13) (i := 2) (ls' := [(0, .ref a0), (1, .retAddr p1)]) rfl (by decide) rfl dJ5_append_cf1ce_13 ?_
  refine kz_aload_n (pc := 14) 1 (v := .ref a0) (i := 0) rfl rfl rfl dJ5_append_cf1ce_14 ?_
  refine kz_aload_n (pc := 15) 1 (v := .ref a0) (i := 0) rfl rfl rfl dJ5_append_cf1ce_15 ?_
  obtain ⟨fs4, v5, hM, hv, h⟩ := h
  refine kz_getf (pc := 16) (k := 3) kcJ4 hM hv (by decide) kw_502 dJ5_append_cf1ce_16 ?_
  refine kz_iload_n (pc := 19) 0 (i := 2) rfl rfl dJ5_append_cf1ce_19 ?_
  refine kz_iadd (pc := 20) dJ5_append_cf1ce_20 ?_
  obtain ⟨⟨fs18, he⟩, h⟩ := h
  obtain ⟨mc8, ms8, hc8, hs8, h⟩ := h
  refine kz_callVC (pc := 21) (μ' := mJ5_ensureCapacityInternal_d00df) (ci := 15) (q := (RJ4, TJ4, 4)) (b := a0) (d' := d + 3) (mc' := mc8) (ms' := ms8) (As := [.int (v5 + r2)]) (st := []) (c := 0) (sl := 0) kmJ5_ensureCapacityInternal_d00df rfl kw_529 (fun s args hK => kz_selP (x0 := yJ5_isLatin1_aae02) ⟨by decide +kernel, by decide +kernel⟩ (hK.1 _ kw_563 rfl args) rfl (kz_priv hP (List.mem_of_getElem? (i := 0) rfl) hK) (hK.1 _ kw_529 rfl args)) kw_527 (by omega) rfl (Nat.le_of_ble_eq_true rfl) he rfl hc8 hs8 dJ5_append_cf1ce_21 (fun E M9 hx => kz_Tout rfl hc8 hs8 hx) (kz_Cmono (fun v M6 h => ?_) (fun _ _ h => h) h)
  obtain ⟨rfl, h⟩ := h
  show kz_Z G (d + 4) mc ms mJ5_append_cf1ce Qr Qx 24 [(2, .int r2), (0, .ref a0), (1, .retAddr p1)] [] M6 (0 + mc8) (0 + ms8)
  refine kz_aload_n (pc := 24) 1 (v := .ref a0) (i := 0) rfl rfl rfl dJ5_append_cf1ce_24 ?_
  refine kz_aload_n (pc := 25) 1 (v := .ref a0) (i := 0) rfl rfl rfl dJ5_append_cf1ce_25 ?_
  obtain ⟨fs9, v10, hM, hv, h⟩ := h
  refine kz_getf (pc := 26) (k := 3) kcJ4 hM hv (by decide) kw_502 dJ5_append_cf1ce_26 ?_
  refine kz_aload_n (pc := 29) 2 (v := .retAddr p1) (i := 1) rfl rfl rfl dJ5_append_cf1ce_29 ?_
  obtain ⟨⟨fs17, he⟩, h⟩ := h
  refine kz_callVC (pc := 30) (μ' := mJ5_putStringAt_47b60) (ci := 15) (q := (RJ4, TJ4, 4)) (b := a0) (d' := d + 3) (mc' := 0) (ms' := 0) (As := [.int v10, .retAddr p1]) (st := []) (c := 0 + mc8) (sl := 0 + ms8) kmJ5_putStringAt_47b60 rfl kw_583 (fun s args hK => kz_selP (x0 := yJ5_isLatin1_aae02) ⟨by decide +kernel, by decide +kernel⟩ (hK.1 _ kw_563 rfl args) rfl (kz_priv hP (List.mem_of_getElem? (i := 2) rfl) hK) (hK.1 _ kw_583 rfl args)) kw_581 (by omega) rfl (Nat.le_of_ble_eq_true rfl) he rfl hc8 hs8 dJ5_append_cf1ce_30 (fun E M9 hx => kz_Tout rfl hc8 hs8 hx) (kz_Cmono (fun v M11 h => ?_) (fun _ _ h => h) h)
  obtain ⟨rfl, h⟩ := h
  show kz_Z G (d + 4) mc ms mJ5_append_cf1ce Qr Qx 33 [(2, .int r2), (0, .ref a0), (1, .retAddr p1)] [] M11 (0 + mc8) (0 + ms8)
  refine kz_aload_n (pc := 33) 1 (v := .ref a0) (i := 0) rfl rfl rfl dJ5_append_cf1ce_33 ?_
  refine kz_dup (pc := 34) rfl dJ5_append_cf1ce_34 ?_
  obtain ⟨fs14, v15, hM, hv, h⟩ := h
  refine kz_getf (pc := 35) (k := 3) kcJ4 hM hv (by decide) kw_502 dJ5_append_cf1ce_35 ?_
  refine kz_iload_n (pc := 38) 0 (i := 2) rfl rfl dJ5_append_cf1ce_38 ?_
  refine kz_iadd (pc := 39) dJ5_append_cf1ce_39 ?_
  obtain ⟨fs16, hM, hlen, h⟩ := h
  refine kz_putf (pc := 40) (k := 3) kcJ4 hM (by decide) hlen kw_502 rfl rfl rfl dJ5_append_cf1ce_40 ?_
  refine kz_aload_n (pc := 43) 1 (v := .ref a0) (i := 0) rfl rfl rfl dJ5_append_cf1ce_43 ?_
  exact kz_aret (pc := 44) (v := .ref a0) rfl rfl (Or.inl ⟨_, rfl⟩) hc8 hs8 dJ5_append_cf1ce_44 h
theorem dJ5_append_3fe6f_0 : decode cJ5_append_3fe6f 0 = .ok (.aload_n 0, 1) := by decide +kernel
theorem dJ5_append_3fe6f_1 : decode cJ5_append_3fe6f 1 = .ok (.aload_n 0, 1) := by decide +kernel
theorem dJ5_append_3fe6f_2 : decode cJ5_append_3fe6f 2 = .ok (.getfield 79, 3) := by decide +kernel
theorem dJ5_append_3fe6f_5 : decode cJ5_append_3fe6f 5 = .ok (.iconst 1, 1) := by decide +kernel
theorem dJ5_append_3fe6f_6 : decode cJ5_append_3fe6f 6 = .ok (.iadd, 1) := by decide +kernel
theorem dJ5_append_3fe6f_7 : decode cJ5_append_3fe6f 7 = .ok (.invokevirtual 100, 3) := by decide +kernel
theorem dJ5_append_3fe6f_10 : decode cJ5_append_3fe6f 10 = .ok (.aload_n 0, 1) := by decide +kernel
theorem dJ5_append_3fe6f_11 : decode cJ5_append_3fe6f 11 = .ok (.invokevirtual 83, 3) := by decide +kernel
theorem dJ5_append_3fe6f_14 : decode cJ5_append_3fe6f 14 = .ok (.ifCond .eq 31, 3) := by decide +kernel
theorem dJ5_append_3fe6f_17 : decode cJ5_append_3fe6f 17 = .ok (.iload_n 1, 1) := by decide +kernel
theorem dJ5_append_3fe6f_18 : decode cJ5_append_3fe6f 18 = .ok (.invokestatic 191, 3) := by decide +kernel
theorem dJ5_append_3fe6f_21 : decode cJ5_append_3fe6f 21 = .ok (.ifCond .eq 24, 3) := by decide +kernel
theorem dJ5_append_3fe6f_24 : decode cJ5_append_3fe6f 24 = .ok (.aload_n 0, 1) := by decide +kernel
theorem dJ5_append_3fe6f_25 : decode cJ5_append_3fe6f 25 = .ok (.getfield 15, 3) := by decide +kernel
theorem dJ5_append_3fe6f_28 : decode cJ5_append_3fe6f 28 = .ok (.aload_n 0, 1) := by decide +kernel
theorem dJ5_append_3fe6f_29 : decode cJ5_append_3fe6f 29 = .ok (.dup, 1) := by decide +kernel
theorem dJ5_append_3fe6f_30 : decode cJ5_append_3fe6f 30 = .ok (.getfield 79, 3) := by decide +kernel
theorem dJ5_append_3fe6f_33 : decode cJ5_append_3fe6f 33 = .ok (.dup_x1, 1) := by decide +kernel
theorem dJ5_append_3fe6f_34 : decode cJ5_append_3fe6f 34 = .ok (.iconst 1, 1) := by decide +kernel
theorem dJ5_append_3fe6f_35 : decode cJ5_append_3fe6f 35 = .ok (.iadd, 1) := by decide +kernel
theorem dJ5_append_3fe6f_36 : decode cJ5_append_3fe6f 36 = .ok (.putfield 79, 3) := by decide +kernel
theorem dJ5_append_3fe6f_39 : decode cJ5_append_3fe6f 39 = .ok (.iload_n 1, 1) := by decide +kernel
theorem dJ5_append_3fe6f_40 : decode cJ5_append_3fe6f 40 = .ok (.i2b, 1) := by decide +kernel
theorem dJ5_append_3fe6f_41 : decode cJ5_append_3fe6f 41 = .ok (.bastore, 1) := by decide +kernel
theorem dJ5_append_3fe6f_42 : decode cJ5_append_3fe6f 42 = .ok (.goto 33, 3) := by decide +kernel
theorem dJ5_append_3fe6f_45 : decode cJ5_append_3fe6f 45 = .ok (.aload_n 0, 1) := by decide +kernel
theorem dJ5_append_3fe6f_46 : decode cJ5_append_3fe6f 46 = .ok (.invokevirtual 83, 3) := by decide +kernel
theorem dJ5_append_3fe6f_49 : decode cJ5_append_3fe6f 49 = .ok (.ifCond .eq 7, 3) := by decide +kernel
theorem dJ5_append_3fe6f_52 : decode cJ5_append_3fe6f 52 = .ok (.aload_n 0, 1) := by decide +kernel
theorem dJ5_append_3fe6f_53 : decode cJ5_append_3fe6f 53 = .ok (.invokevirtual 195, 3) := by decide +kernel
theorem dJ5_append_3fe6f_56 : decode cJ5_append_3fe6f 56 = .ok (.aload_n 0, 1) := by decide +kernel
theorem dJ5_append_3fe6f_57 : decode cJ5_append_3fe6f 57 = .ok (.getfield 15, 3) := by decide +kernel
theorem dJ5_append_3fe6f_60 : decode cJ5_append_3fe6f 60 = .ok (.aload_n 0, 1) := by decide +kernel
theorem dJ5_append_3fe6f_61 : decode cJ5_append_3fe6f 61 = .ok (.dup, 1) := by decide +kernel
theorem dJ5_append_3fe6f_62 : decode cJ5_append_3fe6f 62 = .ok (.getfield 79, 3) := by decide +kernel
theorem dJ5_append_3fe6f_65 : decode cJ5_append_3fe6f 65 = .ok (.dup_x1, 1) := by decide +kernel
theorem dJ5_append_3fe6f_66 : decode cJ5_append_3fe6f 66 = .ok (.iconst 1, 1) := by decide +kernel
theorem dJ5_append_3fe6f_67 : decode cJ5_append_3fe6f 67 = .ok (.iadd, 1) := by decide +kernel
theorem dJ5_append_3fe6f_68 : decode cJ5_append_3fe6f 68 = .ok (.putfield 79, 3) := by decide +kernel
theorem dJ5_append_3fe6f_71 : decode cJ5_append_3fe6f 71 = .ok (.iload_n 1, 1) := by decide +kernel
theorem dJ5_append_3fe6f_72 : decode cJ5_append_3fe6f 72 = .ok (.invokestatic 197, 3) := by decide +kernel
theorem dJ5_append_3fe6f_75 : decode cJ5_append_3fe6f 75 = .ok (.aload_n 0, 1) := by decide +kernel
theorem dJ5_append_3fe6f_76 : decode cJ5_append_3fe6f 76 = .ok (.areturn, 1) := by decide +kernel
theorem rJ5_append_3fe6f_0 {G : kz_G} {d : Nat} {mc ms : Nat} {Qr : Option Value → kz_M → Prop} {Qx : String → kz_M → Prop} {a0 : Nat} {p1 : Int32}  {M : kz_M} (hP : kz_statP G) (h : ∃ fs1 v2, (M).1 a0 = some (.inl (15, fs1)) ∧ fs1[3]? = some (.int v2) ∧ ((∃ fs38, (M).1 a0 = some (.inl (15, fs38))) ∧ ∃ mc5 ms5, 0 + mc5 ≤ mc ∧ 0 + ms5 ≤ ms ∧ kz_C G (d + 3) mc5 ms5 mJ5_ensureCapacityInternal_d00df [.ref a0, .int (v2 + 1)] M (fun v M3 => v = none ∧ ((∃ fs37, (M3).1 a0 = some (.inl (15, fs37))) ∧ kz_C G (d + 3) 0 0 mJ5_isLatin1_aae02 [.ref a0] M3 (fun v M6 => ∃ r7 : Int32, v = some (.int r7) ∧ ((r7 = 0 → False) ∧ (¬ r7 = 0 → kz_C G (d + 3) 0 0 mJ1_canEncode_fc78d [.int p1] M6 (fun v M17 => ∃ r18 : Int32, v = some (.int r18) ∧ ((r18 = 0 → False) ∧ (¬ r18 = 0 → ∃ fs28 v29, (M17).1 a0 = some (.inl (15, fs28)) ∧ fs28[0]? = some (.ref v29) ∧ (∃ fs30 v31, (M17).1 a0 = some (.inl (15, fs30)) ∧ fs30[3]? = some (.int v31) ∧ (∃ fs32, (M17).1 a0 = some (.inl (15, fs32)) ∧ 3 < fs32.length ∧ (∃ n33 f34, ((kz_up M17 a0 (.inl (15, fs32.set 3 (.int (v31 + 1)))))).1 v29 = some (.inr (.byte, n33, .inl f34)) ∧ vp_in v31 n33 ∧ (∀ M35, M35 = kz_up (kz_up M17 a0 (.inl (15, fs32.set 3 (.int (v31 + 1))))) v29 (.inr (.byte, n33, .inl (upd f34 (v31 : Int32).toNatClampNeg (vp_nar .byte ((p1 : Int32).toInt8.toInt32))))) → Qr (some (.ref a0)) M35))))))) Qx))) Qx)) Qx)) : kz_C G (d + 4) mc ms mJ5_append_3fe6f [.ref a0, .int p1] M Qr Qx := by
  refine kz_enter (n := 1) kmJ5_append_3fe6f (Nat.le_of_ble_eq_true rfl) (ls := [(0, .ref a0), (1, .int p1)]) rfl ?_
  refine kz_aload_n (pc := 0) 0 (v := .ref a0) (i := 0) rfl rfl rfl dJ5_append_3fe6f_0 ?_
  refine kz_aload_n (pc := 1) 0 (v := .ref a0) (i := 0) rfl rfl rfl dJ5_append_3fe6f_1 ?_
  obtain ⟨fs1, v2, hM, hv, h⟩ := h
  refine kz_getf (pc := 2) (k := 3) kcJ4 hM hv (by decide) kw_502 dJ5_append_3fe6f_2 ?_
  refine kz_iconst (pc := 5) (v := 1) (by decide) dJ5_append_3fe6f_5 ?_
  refine kz_iadd (pc := 6) dJ5_append_3fe6f_6 ?_
  obtain ⟨⟨fs38, he⟩, h⟩ := h
  obtain ⟨mc5, ms5, hc5, hs5, h⟩ := h
  refine kz_callVC (pc := 7) (μ' := mJ5_ensureCapacityInternal_d00df) (ci := 15) (q := (RJ4, TJ4, 4)) (b := a0) (d' := d + 3) (mc' := mc5) (ms' := ms5) (As := [.int (v2 + 1)]) (st := []) (c := 0) (sl := 0) kmJ5_ensureCapacityInternal_d00df rfl kw_529 (fun s args hK => kz_selP (x0 := yJ5_isLatin1_aae02) ⟨by decide +kernel, by decide +kernel⟩ (hK.1 _ kw_563 rfl args) rfl (kz_priv hP (List.mem_of_getElem? (i := 0) rfl) hK) (hK.1 _ kw_529 rfl args)) kw_527 (by omega) rfl (Nat.le_of_ble_eq_true rfl) he rfl hc5 hs5 dJ5_append_3fe6f_7 (fun E M9 hx => kz_Tout rfl hc5 hs5 hx) (kz_Cmono (fun v M3 h => ?_) (fun _ _ h => h) h)
  obtain ⟨rfl, h⟩ := h
  show kz_Z G (d + 4) mc ms mJ5_append_3fe6f Qr Qx 10 [(0, .ref a0), (1, .int p1)] [] M3 (0 + mc5) (0 + ms5)
  refine kz_aload_n (pc := 10) 0 (v := .ref a0) (i := 0) rfl rfl rfl dJ5_append_3fe6f_10 ?_
  obtain ⟨⟨fs37, he⟩, h⟩ := h
  refine kz_callVC (pc := 11) (μ' := mJ5_isLatin1_aae02) (ci := 15) (q := (RJ4, TJ4, 4)) (b := a0) (d' := d + 3) (mc' := 0) (ms' := 0) (As := []) (st := []) (c := 0 + mc5) (sl := 0 + ms5) kmJ5_isLatin1_aae02 rfl kw_561 (fun s args hK => hK.1 _ kw_563 rfl args) kw_560 (by omega) rfl (Nat.le_of_ble_eq_true rfl) he rfl hc5 hs5 dJ5_append_3fe6f_11 (fun E M9 hx => kz_Tout rfl hc5 hs5 hx) (kz_Cmono (fun v M6 h => ?_) (fun _ _ h => h) h)
  obtain ⟨r7, rfl, h⟩ := h
  show kz_Z G (d + 4) mc ms mJ5_append_3fe6f Qr Qx 14 [(0, .ref a0), (1, .int p1)] [.int r7] M6 (0 + mc5) (0 + ms5)
  refine kz_if_eq (pc := 14) (tgt := 45) (by decide) dJ5_append_3fe6f_14 (fun hb => ?_) (fun hb => ?_)
  · replace h := h.1 hb
    exact h.elim
  · replace h := h.2 hb
    refine kz_iload_n (pc := 17) 1 (i := 1) rfl rfl dJ5_append_3fe6f_17 ?_
    refine kz_callS (pc := 18) (μ' := mJ1_canEncode_fc78d) (d' := d + 3) (mc' := 0) (ms' := 0) (As := [.int p1]) (st := []) (c := 0 + mc5) (sl := 0 + ms5) kmJ1_canEncode_fc78d kw_654 (by omega) rfl (Nat.le_of_ble_eq_true rfl) hc5 hs5 dJ5_append_3fe6f_18 (fun E M9 hx => kz_Tout rfl hc5 hs5 hx) (kz_Cmono (fun v M17 h => ?_) (fun _ _ h => h) h)
    obtain ⟨r18, rfl, h⟩ := h
    show kz_Z G (d + 4) mc ms mJ5_append_3fe6f Qr Qx 21 [(0, .ref a0), (1, .int p1)] [.int r18] M17 (0 + mc5) (0 + ms5)
    refine kz_if_eq (pc := 21) (tgt := 45) (by decide) dJ5_append_3fe6f_21 (fun hb => ?_) (fun hb => ?_)
    · replace h := h.1 hb
      exact h.elim
    · replace h := h.2 hb
      refine kz_aload_n (pc := 24) 0 (v := .ref a0) (i := 0) rfl rfl rfl dJ5_append_3fe6f_24 ?_
      obtain ⟨fs28, v29, hM, hv, h⟩ := h
      refine kz_getf (pc := 25) (k := 0) kcJ4 hM hv (by decide) kw_499 dJ5_append_3fe6f_25 ?_
      refine kz_aload_n (pc := 28) 0 (v := .ref a0) (i := 0) rfl rfl rfl dJ5_append_3fe6f_28 ?_
      refine kz_dup (pc := 29) rfl dJ5_append_3fe6f_29 ?_
      obtain ⟨fs30, v31, hM, hv, h⟩ := h
      refine kz_getf (pc := 30) (k := 3) kcJ4 hM hv (by decide) kw_502 dJ5_append_3fe6f_30 ?_
      refine kz_dup_x1 (pc := 33) rfl rfl dJ5_append_3fe6f_33 ?_
      refine kz_iconst (pc := 34) (v := 1) (by decide) dJ5_append_3fe6f_34 ?_
      refine kz_iadd (pc := 35) dJ5_append_3fe6f_35 ?_
      obtain ⟨fs32, hM, hlen, h⟩ := h
      refine kz_putf (pc := 36) (k := 3) kcJ4 hM (by decide) hlen kw_502 rfl rfl rfl dJ5_append_3fe6f_36 ?_
      refine kz_iload_n (pc := 39) 1 (i := 1) rfl rfl dJ5_append_3fe6f_39 ?_
      refine kz_i2b (pc := 40) dJ5_append_3fe6f_40 ?_
      obtain ⟨n33, f34, hM, hi, h⟩ := h
      refine kz_bast (pc := 41) hM hi dJ5_append_3fe6f_41 ?_
      refine kz_nameM (fun M35 e9 => ?_)
      replace h := h M35 e9
      refine kz_goto (pc := 42) (tgt := 75) (by decide) dJ5_append_3fe6f_42 ?_
      refine kz_aload_n (pc := 75) 0 (v := .ref a0) (i := 0) rfl rfl rfl dJ5_append_3fe6f_75 ?_
      exact kz_aret (pc := 76) (v := .ref a0) rfl rfl (Or.inl ⟨_, rfl⟩) hc5 hs5 dJ5_append_3fe6f_76 h
theorem dJ5_append_c97b9_0 : decode cJ5_append_c97b9 0 = .ok (.aload_n 0, 1) := by decide +kernel
theorem dJ5_append_c97b9_1 : decode cJ5_append_c97b9 1 = .ok (.getfield 79, 3) := by decide +kernel
theorem dJ5_append_c97b9_4 : decode cJ5_append_c97b9 4 = .ok (.istore_n 2, 1) := by decide +kernel
theorem dJ5_append_c97b9_5 : decode cJ5_append_c97b9 5 = .ok (.iload_n 2, 1) := by decide +kernel
theorem dJ5_append_c97b9_6 : decode cJ5_append_c97b9 6 = .ok (.iload_n 1, 1) := by decide +kernel
theorem dJ5_append_c97b9_7 : decode cJ5_append_c97b9 7 = .ok (.invokestatic 245, 3) := by decide +kernel
theorem dJ5_append_c97b9_10 : decode cJ5_append_c97b9 10 = .ok (.iadd, 1) := by decide +kernel
theorem dJ5_append_c97b9_11 : decode cJ5_append_c97b9 11 = .ok (.istore_n 3, 1) := by decide +kernel
theorem dJ5_append_c97b9_12 : decode cJ5_append_c97b9 12 = .ok (.aload_n 0, 1) := by decide +kernel
theorem dJ5_append_c97b9_13 : decode cJ5_append_c97b9 13 = .ok (.iload_n 3, 1) := by decide +kernel
theorem dJ5_append_c97b9_14 : decode cJ5_append_c97b9 14 = .ok (.invokevirtual 100, 3) := by decide +kernel
theorem dJ5_append_c97b9_17 : decode cJ5_append_c97b9 17 = .ok (.aload_n 0, 1) := by decide +kernel
theorem dJ5_append_c97b9_18 : decode cJ5_append_c97b9 18 = .ok (.invokevirtual 83, 3) := by decide +kernel
theorem dJ5_append_c97b9_21 : decode cJ5_append_c97b9 21 = .ok (.ifCond .eq 16, 3) := by decide +kernel
theorem dJ5_append_c97b9_24 : decode cJ5_append_c97b9 24 = .ok (.iload_n 1, 1) := by decide +kernel
theorem dJ5_append_c97b9_25 : decode cJ5_append_c97b9 25 = .ok (.iload_n 3, 1) := by decide +kernel
theorem dJ5_append_c97b9_26 : decode cJ5_append_c97b9 26 = .ok (.aload_n 0, 1) := by decide +kernel
theorem dJ5_append_c97b9_27 : decode cJ5_append_c97b9 27 = .ok (.getfield 15, 3) := by decide +kernel
theorem dJ5_append_c97b9_30 : decode cJ5_append_c97b9 30 = .ok (.invokestatic 248, 3) := by decide +kernel
theorem dJ5_append_c97b9_33 : decode cJ5_append_c97b9 33 = .ok (.pop, 1) := by decide +kernel
theorem dJ5_append_c97b9_34 : decode cJ5_append_c97b9 34 = .ok (.goto 14, 3) := by decide +kernel
theorem dJ5_append_c97b9_37 : decode cJ5_append_c97b9 37 = .ok (.iload_n 1, 1) := by decide +kernel
theorem dJ5_append_c97b9_38 : decode cJ5_append_c97b9 38 = .ok (.iload_n 2, 1) := by decide +kernel
theorem dJ5_append_c97b9_39 : decode cJ5_append_c97b9 39 = .ok (.iload_n 3, 1) := by decide +kernel
theorem dJ5_append_c97b9_40 : decode cJ5_append_c97b9 40 = .ok (.aload_n 0, 1) := by decide +kernel
theorem dJ5_append_c97b9_41 : decode cJ5_append_c97b9 41 = .ok (.getfield 15, 3) := by decide +kernel
theorem dJ5_append_c97b9_44 : decode cJ5_append_c97b9 44 = .ok (.invokestatic 251, 3) := by decide +kernel
theorem dJ5_append_c97b9_47 : decode cJ5_append_c97b9 47 = .ok (.pop, 1) := by decide +kernel
theorem dJ5_append_c97b9_48 : decode cJ5_append_c97b9 48 = .ok (.aload_n 0, 1) := by decide +kernel
theorem dJ5_append_c97b9_49 : decode cJ5_append_c97b9 49 = .ok (.iload_n 3, 1) := by decide +kernel
theorem dJ5_append_c97b9_50 : decode cJ5_append_c97b9 50 = .ok (.putfield 79, 3) := by decide +kernel
theorem dJ5_append_c97b9_53 : decode cJ5_append_c97b9 53 = .ok (.aload_n 0, 1) := by decide +kernel
theorem dJ5_append_c97b9_54 : decode cJ5_append_c97b9 54 = .ok (.areturn, 1) := by decide +kernel
theorem rJ5_append_c97b9_0 {G : kz_G} {d : Nat} {mc ms : Nat} {Qr : Option Value → kz_M → Prop} {Qx : String → kz_M → Prop} {a0 : Nat} {p1 : Int32}  {M : kz_M} (hP : kz_statP G) (h : ∃ fs1 v2, (M).1 a0 = some (.inl (15, fs1)) ∧ fs1[3]? = some (.int v2) ∧ (kz_C G (d + 3) 0 0 mJ6_stringSize_0f7a4 [.int p1] M (fun v M3 => ∃ r4 : Int32, v = some (.int r4) ∧ ((∃ fs22, (M3).1 a0 = some (.inl (15, fs22))) ∧ ∃ mc8 ms8, 0 + mc8 ≤ mc ∧ 0 + ms8 ≤ ms ∧ kz_C G (d + 3) mc8 ms8 mJ5_ensureCapacityInternal_d00df [.ref a0, .int (v2 + r4)] M3 (fun v M6 => v = none ∧ ((∃ fs21, (M6).1 a0 = some (.inl (15, fs21))) ∧ kz_C G (d + 3) 0 0 mJ5_isLatin1_aae02 [.ref a0] M6 (fun v M9 => ∃ r10 : Int32, v = some (.int r10) ∧ ((r10 = 0 → False) ∧ (¬ r10 = 0 → ∃ fs14 v15, (M9).1 a0 = some (.inl (15, fs14)) ∧ fs14[0]? = some (.ref v15) ∧ (kz_C G (d + 3) 0 0 mJ6_getChars_ba4f3 [.int p1, .int (v2 + r4), .ref v15] M9 (fun v M16 => ∃ r17 : Int32, v = some (.int r17) ∧ (∃ fs19, (M16).1 a0 = some (.inl (15, fs19)) ∧ 3 < fs19.length ∧ (Qr (some (.ref a0)) (kz_up M16 a0 (.inl (15, fs19.set 3 (.int (v2 + r4)))))))) Qx)))) Qx)) Qx)) Qx)) : kz_C G (d + 4) mc ms mJ5_append_c97b9 [.ref a0, .int p1] M Qr Qx := by
  refine kz_enter (n := 1) kmJ5_append_c97b9 (Nat.le_of_ble_eq_true rfl) (ls := [(0, .ref a0), (1, .int p1)]) rfl ?_
  refine kz_aload_n (pc := 0) 0 (v := .ref a0) (i := 0) rfl rfl rfl dJ5_append_c97b9_0 ?_
  obtain ⟨fs1, v2, hM, hv, h⟩ := h
  refine kz_getf (pc := 1) (k := 3) kcJ4 hM hv (by decide) kw_502 dJ5_append_c97b9_1 ?_
  refine kz_istore_n (pc := 4) (i := 2) (ls' := [(0, .ref a0), (1, .int p1)]) rfl (by decide) rfl dJ5_append_c97b9_4 ?_
  refine kz_iload_n (pc := 5) 0 (i := 2) rfl rfl dJ5_append_c97b9_5 ?_
  refine kz_iload_n (pc := 6) 2 (i := 1) rfl rfl dJ5_append_c97b9_6 ?_
  refine kz_callS (pc := 7) (μ' := mJ6_stringSize_0f7a4) (d' := d + 3) (mc' := 0) (ms' := 0) (As := [.int p1]) (st := [.int v2]) (c := 0) (sl := 0) kmJ6_stringSize_0f7a4 kw_622 (by omega) rfl (Nat.le_of_ble_eq_true rfl) (Nat.zero_le _) (Nat.zero_le _) dJ5_append_c97b9_7 (fun E M9 hx => kz_Tout rfl (Nat.zero_le _) (Nat.zero_le _) hx) (kz_Cmono (fun v M3 h => ?_) (fun _ _ h => h) h)
  obtain ⟨r4, rfl, h⟩ := h
  show kz_Z G (d + 4) mc ms mJ5_append_c97b9 Qr Qx 10 [(2, .int v2), (0, .ref a0), (1, .int p1)] [.int r4, .int v2] M3 0 0
  refine kz_iadd (pc := 10) dJ5_append_c97b9_10 ?_
  refine kz_istore_n (pc := 11) (i := 3) (ls' := [(2, .int v2), (0, .ref a0), (1, .int p1)]) rfl (by decide) rfl dJ5_append_c97b9_11 ?_
  refine kz_aload_n (pc := 12) 2 (v := .ref a0) (i := 0) rfl rfl rfl dJ5_append_c97b9_12 ?_
  refine kz_iload_n (pc := 13) 0 (i := 3) rfl rfl dJ5_append_c97b9_13 ?_
  obtain ⟨⟨fs22, he⟩, h⟩ := h
  obtain ⟨mc8, ms8, hc8, hs8, h⟩ := h
  refine kz_callVC (pc := 14) (μ' := mJ5_ensureCapacityInternal_d00df) (ci := 15) (q := (RJ4, TJ4, 4)) (b := a0) (d' := d + 3) (mc' := mc8) (ms' := ms8) (As := [.int (v2 + r4)]) (st := []) (c := 0) (sl := 0) kmJ5_ensureCapacityInternal_d00df rfl kw_529 (fun s args hK => kz_selP (x0 := yJ5_isLatin1_aae02) ⟨by decide +kernel, by decide +kernel⟩ (hK.1 _ kw_563 rfl args) rfl (kz_priv hP (List.mem_of_getElem? (i := 0) rfl) hK) (hK.1 _ kw_529 rfl args)) kw_527 (by omega) rfl (Nat.le_of_ble_eq_true rfl) he rfl hc8 hs8 dJ5_append_c97b9_14 (fun E M9 hx => kz_Tout rfl hc8 hs8 hx) (kz_Cmono (fun v M6 h => ?_) (fun _ _ h => h) h)
  obtain ⟨rfl, h⟩ := h
  show kz_Z G (d + 4) mc ms mJ5_append_c97b9 Qr Qx 17 [(3, .int (v2 + r4)), (2, .int v2), (0, .ref a0), (1, .int p1)] [] M6 (0 + mc8) (0 + ms8)
  refine kz_aload_n (pc := 17) 2 (v := .ref a0) (i := 0) rfl rfl rfl dJ5_append_c97b9_17 ?_
  obtain ⟨⟨fs21, he⟩, h⟩ := h
  refine kz_callVC (pc := 18) (μ' := mJ5_isLatin1_aae02) (ci := 15) (q := (RJ4, TJ4, 4)) (b := a0) (d' := d + 3) (mc' := 0) (ms' := 0) (As := []) (st := []) (c := 0 + mc8) (sl := 0 + ms8) kmJ5_isLatin1_aae02 rfl kw_561 (fun s args hK => hK.1 _ kw_563 rfl args) kw_560 (by omega) rfl (Nat.le_of_ble_eq_true rfl) he rfl hc8 hs8 dJ5_append_c97b9_18 (fun E M9 hx => kz_Tout rfl hc8 hs8 hx) (kz_Cmono (fun v M9 h => ?_) (fun _ _ h => h) h)
  obtain ⟨r10, rfl, h⟩ := h
  show kz_Z G (d + 4) mc ms mJ5_append_c97b9 Qr Qx 21 [(3, .int (v2 + r4)), (2, .int v2), (0, .ref a0), (1, .int p1)] [.int r10] M9 (0 + mc8) (0 + ms8)
  refine kz_if_eq (pc := 21) (tgt := 37) (by decide) dJ5_append_c97b9_21 (fun hb => ?_) (fun hb => ?_)
  · replace h := h.1 hb
    exact h.elim
  · replace h := h.2 hb
    refine kz_iload_n (pc := 24) 3 (i := 1) rfl rfl dJ5_append_c97b9_24 ?_
    refine kz_iload_n (pc := 25) 0 (i := 3) rfl rfl dJ5_append_c97b9_25 ?_
    refine kz_aload_n (pc := 26) 2 (v := .ref a0) (i := 0) rfl rfl rfl dJ5_append_c97b9_26 ?_
    obtain ⟨fs14, v15, hM, hv, h⟩ := h
    refine kz_getf (pc := 27) (k := 0) kcJ4 hM hv (by decide) kw_499 dJ5_append_c97b9_27 ?_
    refine kz_callS (pc := 30) (μ' := mJ6_getChars_ba4f3) (d' := d + 3) (mc' := 0) (ms' := 0) (As := [.int p1, .int (v2 + r4), .ref v15]) (st := []) (c := 0 + mc8) (sl := 0 + ms8) kmJ6_getChars_ba4f3 kw_625 (by omega) rfl (Nat.le_of_ble_eq_true rfl) hc8 hs8 dJ5_append_c97b9_30 (fun E M9 hx => kz_Tout rfl hc8 hs8 hx) (kz_Cmono (fun v M16 h => ?_) (fun _ _ h => h) h)
    obtain ⟨r17, rfl, h⟩ := h
    show kz_Z G (d + 4) mc ms mJ5_append_c97b9 Qr Qx 33 [(3, .int (v2 + r4)), (2, .int v2), (0, .ref a0), (1, .int p1)] [.int r17] M16 (0 + mc8) (0 + ms8)
    refine kz_pop (pc := 33) rfl dJ5_append_c97b9_33 ?_
    refine kz_goto (pc := 34) (tgt := 48) (by decide) dJ5_append_c97b9_34 ?_
    refine kz_aload_n (pc := 48) 2 (v := .ref a0) (i := 0) rfl rfl rfl dJ5_append_c97b9_48 ?_
    refine kz_iload_n (pc := 49) 0 (i := 3) rfl rfl dJ5_append_c97b9_49 ?_
    obtain ⟨fs19, hM, hlen, h⟩ := h
    refine kz_putf (pc := 50) (k := 3) kcJ4 hM (by decide) hlen kw_502 rfl rfl rfl dJ5_append_c97b9_50 ?_
    refine kz_aload_n (pc := 53) 2 (v := .ref a0) (i := 0) rfl rfl rfl dJ5_append_c97b9_53 ?_
    exact kz_aret (pc := 54) (v := .ref a0) rfl rfl (Or.inl ⟨_, rfl⟩) hc8 hs8 dJ5_append_c97b9_54 h
theorem dJ4_init_da8c8_0 : decode cJ4_init_da8c8 0 = .ok (.aload_n 0, 1) := by decide +kernel
theorem dJ4_init_da8c8_1 : decode cJ4_init_da8c8 1 = .ok (.bipush 16, 2) := by decide +kernel
theorem dJ4_init_da8c8_3 : decode cJ4_init_da8c8 3 = .ok (.invokespecial 1, 3) := by decide +kernel
theorem dJ4_init_da8c8_6 : decode cJ4_init_da8c8 6 = .ok (.return_, 1) := by decide +kernel
theorem rJ4_init_da8c8_0 {G : kz_G} {d : Nat} {mc ms : Nat} {Qr : Option Value → kz_M → Prop} {Qx : String → kz_M → Prop} {a0 : Nat}  {M : kz_M} (h : ∃ mc3 ms3, 0 + mc3 ≤ mc ∧ 0 + ms3 ≤ ms ∧ kz_C G (d + 1) mc3 ms3 mJ5_init_d00df [.ref a0, .int 16] M (fun v M1 => v = none ∧ (Qr none M1)) Qx) : kz_C G (d + 2) mc ms mJ4_init_da8c8 [.ref a0] M Qr Qx := by
  refine kz_enter (n := 0) kmJ4_init_da8c8.1 (Nat.le_of_ble_eq_true rfl) (ls := [(0, .ref a0)]) rfl ?_
  refine kz_aload_n (pc := 0) 0 (v := .ref a0) (i := 0) rfl rfl rfl dJ4_init_da8c8_0 ?_
  refine kz_bipush (pc := 1) (v := 16) (by decide) dJ4_init_da8c8_1 ?_
  obtain ⟨mc3, ms3, hc3, hs3, h⟩ := h
  refine kz_callI (pc := 3) (μ' := mJ5_init_d00df) (b := a0) (d' := d + 1) (mc' := mc3) (ms' := ms3) (As := [.int 16]) (st := []) (c := 0) (sl := 0) kmJ5_init_d00df kw_487 (by omega) rfl (Nat.le_of_ble_eq_true rfl) hc3 hs3 dJ4_init_da8c8_3 (fun E M9 hx => kz_Tout rfl hc3 hs3 hx) (kz_Cmono (fun v M1 h => ?_) (fun _ _ h => h) h)
  obtain ⟨rfl, h⟩ := h
  show kz_Z G (d + 2) mc ms mJ4_init_da8c8 Qr Qx 6 [(0, .ref a0)] [] M1 (0 + mc3) (0 + ms3)
  exact kz_vret (pc := 6) rfl hc3 hs3 dJ4_init_da8c8_6 h
theorem dJ4_append_15ec4_0 : decode cJ4_append_15ec4 0 = .ok (.aload_n 0, 1) := by decide +kernel
theorem dJ4_append_15ec4_1 : decode cJ4_append_15ec4 1 = .ok (.aload_n 1, 1) := by decide +kernel
theorem dJ4_append_15ec4_2 : decode cJ4_append_15ec4 2 = .ok (.invokespecial 29, 3) := by decide +kernel
theorem dJ4_append_15ec4_5 : decode cJ4_append_15ec4 5 = .ok (.pop, 1) := by decide +kernel
theorem dJ4_append_15ec4_6 : decode cJ4_append_15ec4 6 = .ok (.aload_n 0, 1) := by decide +kernel
theorem dJ4_append_15ec4_7 : decode cJ4_append_15ec4 7 = .ok (.areturn, 1) := by decide +kernel
theorem rJ4_append_15ec4_0 {G : kz_G} {d : Nat} {mc ms : Nat} {Qr : Option Value → kz_M → Prop} {Qx : String → kz_M → Prop} {a0 : Nat} {p1 : Nat}  {M : kz_M} (h : (∃ fs4, (M).1 a0 = some (.inl (15, fs4))) ∧ ∃ mc3 ms3, 0 + mc3 ≤ mc ∧ 0 + ms3 ≤ ms ∧ kz_C G (d + 4) mc3 ms3 mJ5_append_cf1ce [.ref a0, .retAddr p1] M (fun v M1 => ∃ r2 : Nat, v = some (.ref r2) ∧ (Qr (some (.ref a0)) M1)) (fun _ _ => False)) : kz_C G (d + 5) mc ms mJ4_append_15ec4 [.ref a0, .retAddr p1] M Qr Qx := by
  refine kz_enter (n := 1) kmJ4_append_15ec4.1 (Nat.le_of_ble_eq_true rfl) (ls := [(0, .ref a0), (1, .retAddr p1)]) rfl ?_
  refine kz_aload_n (pc := 0) 0 (v := .ref a0) (i := 0) rfl rfl rfl dJ4_append_15ec4_0 ?_
  refine kz_aload_n (pc := 1) 1 (v := .retAddr p1) (i := 1) rfl rfl rfl dJ4_append_15ec4_1 ?_
  obtain ⟨⟨fs4, he⟩, h⟩ := h
  obtain ⟨mc3, ms3, hc3, hs3, h⟩ := h
  refine kz_callSU (pc := 2) (μ' := mJ5_append_cf1ce) (ci := 15) (q := (RJ4, TJ4, 4)) (b := a0) (d' := d + 4) (mc' := mc3) (ms' := ms3) (As := [.retAddr p1]) (st := []) (c := 0) (sl := 0) kmJ5_append_cf1ce rfl kw_521 kw_1542 kw_511 rfl (by decide) kw_520 (by omega) rfl (Nat.le_of_ble_eq_true rfl) he rfl hc3 hs3 dJ4_append_15ec4_2 (kz_Cmono (fun v M1 h => ?_) (fun _ _ h => h) h)
  obtain ⟨r2, rfl, h⟩ := h
  show kz_Z G (d + 5) mc ms mJ4_append_15ec4 Qr Qx 5 [(0, .ref a0), (1, .retAddr p1)] [.ref r2] M1 (0 + mc3) (0 + ms3)
  refine kz_pop (pc := 5) rfl dJ4_append_15ec4_5 ?_
  refine kz_aload_n (pc := 6) 0 (v := .ref a0) (i := 0) rfl rfl rfl dJ4_append_15ec4_6 ?_
  exact kz_aret (pc := 7) (v := .ref a0) rfl rfl (Or.inl ⟨_, rfl⟩) hc3 hs3 dJ4_append_15ec4_7 h
theorem dJ4_append_cf468_0 : decode cJ4_append_cf468 0 = .ok (.aload_n 0, 1) := by decide +kernel
theorem dJ4_append_cf468_1 : decode cJ4_append_cf468 1 = .ok (.iload_n 1, 1) := by decide +kernel
theorem dJ4_append_cf468_2 : decode cJ4_append_cf468 2 = .ok (.invokespecial 50, 3) := by decide +kernel
theorem dJ4_append_cf468_5 : decode cJ4_append_cf468 5 = .ok (.pop, 1) := by decide +kernel
theorem dJ4_append_cf468_6 : decode cJ4_append_cf468 6 = .ok (.aload_n 0, 1) := by decide +kernel
theorem dJ4_append_cf468_7 : decode cJ4_append_cf468 7 = .ok (.areturn, 1) := by decide +kernel
theorem rJ4_append_cf468_0 {G : kz_G} {d : Nat} {mc ms : Nat} {Qr : Option Value → kz_M → Prop} {Qx : String → kz_M → Prop} {a0 : Nat} {p1 : Int32}  {M : kz_M} (h : (∃ fs4, (M).1 a0 = some (.inl (15, fs4))) ∧ ∃ mc3 ms3, 0 + mc3 ≤ mc ∧ 0 + ms3 ≤ ms ∧ kz_C G (d + 4) mc3 ms3 mJ5_append_3fe6f [.ref a0, .int p1] M (fun v M1 => ∃ r2 : Nat, v = some (.ref r2) ∧ (Qr (some (.ref a0)) M1)) (fun _ _ => False)) : kz_C G (d + 5) mc ms mJ4_append_cf468 [.ref a0, .int p1] M Qr Qx := by
  refine kz_enter (n := 1) kmJ4_append_cf468.1 (Nat.le_of_ble_eq_true rfl) (ls := [(0, .ref a0), (1, .int p1)]) rfl ?_
  refine kz_aload_n (pc := 0) 0 (v := .ref a0) (i := 0) rfl rfl rfl dJ4_append_cf468_0 ?_
  refine kz_iload_n (pc := 1) 1 (i := 1) rfl rfl dJ4_append_cf468_1 ?_
  obtain ⟨⟨fs4, he⟩, h⟩ := h
  obtain ⟨mc3, ms3, hc3, hs3, h⟩ := h
  refine kz_callSU (pc := 2) (μ' := mJ5_append_3fe6f) (ci := 15) (q := (RJ4, TJ4, 4)) (b := a0) (d' := d + 4) (mc' := mc3) (ms' := ms3) (As := [.int p1]) (st := []) (c := 0) (sl := 0) kmJ5_append_3fe6f rfl kw_652 kw_1550 kw_511 rfl (by decide) kw_651 (by omega) rfl (Nat.le_of_ble_eq_true rfl) he rfl hc3 hs3 dJ4_append_cf468_2 (kz_Cmono (fun v M1 h => ?_) (fun _ _ h => h) h)
  obtain ⟨r2, rfl, h⟩ := h
  show kz_Z G (d + 5) mc ms mJ4_append_cf468 Qr Qx 5 [(0, .ref a0), (1, .int p1)] [.ref r2] M1 (0 + mc3) (0 + ms3)
  refine kz_pop (pc := 5) rfl dJ4_append_cf468_5 ?_
  refine kz_aload_n (pc := 6) 0 (v := .ref a0) (i := 0) rfl rfl rfl dJ4_append_cf468_6 ?_
  exact kz_aret (pc := 7) (v := .ref a0) rfl rfl (Or.inl ⟨_, rfl⟩) hc3 hs3 dJ4_append_cf468_7 h
theorem dJ4_append_bf812_0 : decode cJ4_append_bf812 0 = .ok (.aload_n 0, 1) := by decide +kernel
theorem dJ4_append_bf812_1 : decode cJ4_append_bf812 1 = .ok (.iload_n 1, 1) := by decide +kernel
theorem dJ4_append_bf812_2 : decode cJ4_append_bf812 2 = .ok (.invokespecial 53, 3) := by decide +kernel
theorem dJ4_append_bf812_5 : decode cJ4_append_bf812 5 = .ok (.pop, 1) := by decide +kernel
theorem dJ4_append_bf812_6 : decode cJ4_append_bf812 6 = .ok (.aload_n 0, 1) := by decide +kernel
theorem dJ4_append_bf812_7 : decode cJ4_append_bf812 7 = .ok (.areturn, 1) := by decide +kernel
theorem rJ4_append_bf812_0 {G : kz_G} {d : Nat} {mc ms : Nat} {Qr : Option Value → kz_M → Prop} {Qx : String → kz_M → Prop} {a0 : Nat} {p1 : Int32}  {M : kz_M} (h : (∃ fs4, (M).1 a0 = some (.inl (15, fs4))) ∧ ∃ mc3 ms3, 0 + mc3 ≤ mc ∧ 0 + ms3 ≤ ms ∧ kz_C G (d + 4) mc3 ms3 mJ5_append_c97b9 [.ref a0, .int p1] M (fun v M1 => ∃ r2 : Nat, v = some (.ref r2) ∧ (Qr (some (.ref a0)) M1)) (fun _ _ => False)) : kz_C G (d + 5) mc ms mJ4_append_bf812 [.ref a0, .int p1] M Qr Qx := by
  refine kz_enter (n := 1) kmJ4_append_bf812.1 (Nat.le_of_ble_eq_true rfl) (ls := [(0, .ref a0), (1, .int p1)]) rfl ?_
  refine kz_aload_n (pc := 0) 0 (v := .ref a0) (i := 0) rfl rfl rfl dJ4_append_bf812_0 ?_
  refine kz_iload_n (pc := 1) 1 (i := 1) rfl rfl dJ4_append_bf812_1 ?_
  obtain ⟨⟨fs4, he⟩, h⟩ := h
  obtain ⟨mc3, ms3, hc3, hs3, h⟩ := h
  refine kz_callSU (pc := 2) (μ' := mJ5_append_c97b9) (ci := 15) (q := (RJ4, TJ4, 4)) (b := a0) (d' := d + 4) (mc' := mc3) (ms' := ms3) (As := [.int p1]) (st := []) (c := 0) (sl := 0) kmJ5_append_c97b9 rfl kw_620 kw_1549 kw_511 rfl (by decide) kw_619 (by omega) rfl (Nat.le_of_ble_eq_true rfl) he rfl hc3 hs3 dJ4_append_bf812_2 (kz_Cmono (fun v M1 h => ?_) (fun _ _ h => h) h)
  obtain ⟨r2, rfl, h⟩ := h
  show kz_Z G (d + 5) mc ms mJ4_append_bf812 Qr Qx 5 [(0, .ref a0), (1, .int p1)] [.ref r2] M1 (0 + mc3) (0 + ms3)
  refine kz_pop (pc := 5) rfl dJ4_append_bf812_5 ?_
  refine kz_aload_n (pc := 6) 0 (v := .ref a0) (i := 0) rfl rfl rfl dJ4_append_bf812_6 ?_
  exact kz_aret (pc := 7) (v := .ref a0) rfl rfl (Or.inl ⟨_, rfl⟩) hc3 hs3 dJ4_append_bf812_7 h
theorem dJ4_length_8abf5_0 : decode cJ4_length_8abf5 0 = .ok (.aload_n 0, 1) := by decide +kernel
theorem dJ4_length_8abf5_1 : decode cJ4_length_8abf5 1 = .ok (.invokespecial 343, 3) := by decide +kernel
theorem dJ4_length_8abf5_4 : decode cJ4_length_8abf5 4 = .ok (.ireturn, 1) := by decide +kernel
theorem rJ4_length_8abf5_0 {G : kz_G} {d : Nat} {Qr : Option Value → kz_M → Prop} {Qx : String → kz_M → Prop} {a0 : Nat}  {M : kz_M} (h : (∃ fs4, (M).1 a0 = some (.inl (15, fs4))) ∧ kz_C G (d + 0) 0 0 mJ5_length_8abf5 [.ref a0] M (fun v M1 => ∃ r2 : Int32, v = some (.int r2) ∧ (Qr (some (.int r2)) M1)) (fun _ _ => False)) : kz_C G (d + 1) 0 0 mJ4_length_8abf5 [.ref a0] M Qr Qx := by
  refine kz_enter (n := 0) kmJ4_length_8abf5.1 (Nat.le_of_ble_eq_true rfl) (ls := [(0, .ref a0)]) rfl ?_
  refine kz_aload_n (pc := 0) 0 (v := .ref a0) (i := 0) rfl rfl rfl dJ4_length_8abf5_0 ?_
  obtain ⟨⟨fs4, he⟩, h⟩ := h
  refine kz_callSU (pc := 1) (μ' := mJ5_length_8abf5) (ci := 15) (q := (RJ4, TJ4, 4)) (b := a0) (d' := d + 0) (mc' := 0) (ms' := 0) (As := []) (st := []) (c := 0) (sl := 0) kmJ5_length_8abf5 rfl kw_1033 kw_1034 kw_511 rfl (by decide) kw_1038 (by omega) rfl (Nat.le_of_ble_eq_true rfl) he rfl (Nat.le_refl _) (Nat.le_refl _) dJ4_length_8abf5_1 (kz_Cmono (fun v M1 h => ?_) (fun _ _ h => h) h)
  obtain ⟨r2, rfl, h⟩ := h
  show kz_Z G (d + 1) 0 0 mJ4_length_8abf5 Qr Qx 4 [(0, .ref a0)] [.int r2] M1 0 0
  exact kz_iret (pc := 4) rfl (Nat.le_refl _) (Nat.le_refl _) dJ4_length_8abf5_4 h
theorem dJ0_init_db425_0 : decode cJ0_init_db425 0 = .ok (.aload_n 0, 1) := by decide +kernel
theorem dJ0_init_db425_1 : decode cJ0_init_db425 1 = .ok (.invokespecial 1, 3) := by decide +kernel
theorem dJ0_init_db425_4 : decode cJ0_init_db425 4 = .ok (.aload_n 1, 1) := by decide +kernel
theorem dJ0_init_db425_5 : decode cJ0_init_db425 5 = .ok (.invokevirtual 552, 3) := by decide +kernel
theorem dJ0_init_db425_8 : decode cJ0_init_db425 8 = .ok (.astore_n 3, 1) := by decide +kernel
theorem dJ0_init_db425_9 : decode cJ0_init_db425 9 = .ok (.aload_n 1, 1) := by decide +kernel
theorem dJ0_init_db425_10 : decode cJ0_init_db425 10 = .ok (.invokevirtual 549, 3) := by decide +kernel
theorem dJ0_init_db425_13 : decode cJ0_init_db425 13 = .ok (.istore 4, 2) := by decide +kernel
theorem dJ0_init_db425_15 : decode cJ0_init_db425 15 = .ok (.aload_n 1, 1) := by decide +kernel
theorem dJ0_init_db425_16 : decode cJ0_init_db425 16 = .ok (.invokevirtual 1047, 3) := by decide +kernel
theorem dJ0_init_db425_19 : decode cJ0_init_db425 19 = .ok (.ifCond .eq 22, 3) := by decide +kernel
theorem dJ0_init_db425_22 : decode cJ0_init_db425 22 = .ok (.aload_n 0, 1) := by decide +kernel
theorem dJ0_init_db425_23 : decode cJ0_init_db425 23 = .ok (.iconst 0, 1) := by decide +kernel
theorem dJ0_init_db425_24 : decode cJ0_init_db425 24 = .ok (.putfield 15, 3) := by decide +kernel
theorem dJ0_init_db425_27 : decode cJ0_init_db425 27 = .ok (.aload_n 0, 1) := by decide +kernel
theorem dJ0_init_db425_28 : decode cJ0_init_db425 28 = .ok (.aload_n 3, 1) := by decide +kernel
theorem dJ0_init_db425_29 : decode cJ0_init_db425 29 = .ok (.iconst 0, 1) := by decide +kernel
theorem dJ0_init_db425_30 : decode cJ0_init_db425 30 = .ok (.iload 4, 2) := by decide +kernel
theorem dJ0_init_db425_32 : decode cJ0_init_db425 32 = .ok (.invokestatic 54, 3) := by decide +kernel
theorem dJ0_init_db425_35 : decode cJ0_init_db425 35 = .ok (.putfield 9, 3) := by decide +kernel
theorem dJ0_init_db425_38 : decode cJ0_init_db425 38 = .ok (.goto 59, 3) := by decide +kernel
theorem dJ0_init_db425_41 : decode cJ0_init_db425 41 = .ok (.getstatic 38, 3) := by decide +kernel
theorem dJ0_init_db425_44 : decode cJ0_init_db425 44 = .ok (.ifCond .eq 35, 3) := by decide +kernel
theorem dJ0_init_db425_47 : decode cJ0_init_db425 47 = .ok (.aload_n 1, 1) := by decide +kernel
theorem dJ0_init_db425_48 : decode cJ0_init_db425 48 = .ok (.getfield 1048, 3) := by decide +kernel
theorem dJ0_init_db425_51 : decode cJ0_init_db425 51 = .ok (.ifCond .eq 28, 3) := by decide +kernel
theorem dJ0_init_db425_54 : decode cJ0_init_db425 54 = .ok (.aload_n 0, 1) := by decide +kernel
theorem dJ0_init_db425_55 : decode cJ0_init_db425 55 = .ok (.aload_n 3, 1) := by decide +kernel
theorem dJ0_init_db425_56 : decode cJ0_init_db425 56 = .ok (.iconst 0, 1) := by decide +kernel
theorem dJ0_init_db425_57 : decode cJ0_init_db425 57 = .ok (.iload 4, 2) := by decide +kernel
theorem dJ0_init_db425_59 : decode cJ0_init_db425 59 = .ok (.invokestatic 1051, 3) := by decide +kernel
theorem dJ0_init_db425_62 : decode cJ0_init_db425 62 = .ok (.putfield 9, 3) := by decide +kernel
theorem dJ0_init_db425_65 : decode cJ0_init_db425 65 = .ok (.aload_n 0, 1) := by decide +kernel
theorem dJ0_init_db425_66 : decode cJ0_init_db425 66 = .ok (.aload_n 0, 1) := by decide +kernel
theorem dJ0_init_db425_67 : decode cJ0_init_db425 67 = .ok (.getfield 9, 3) := by decide +kernel
theorem dJ0_init_db425_70 : decode cJ0_init_db425 70 = .ok (.iload 4, 2) := by decide +kernel
theorem dJ0_init_db425_72 : decode cJ0_init_db425 72 = .ok (.invokestatic 47, 3) := by decide +kernel
theorem dJ0_init_db425_75 : decode cJ0_init_db425 75 = .ok (.putfield 15, 3) := by decide +kernel
theorem dJ0_init_db425_78 : decode cJ0_init_db425 78 = .ok (.return_, 1) := by decide +kernel
theorem dJ0_init_db425_79 : decode cJ0_init_db425 79 = .ok (.aload_n 0, 1) := by decide +kernel
theorem dJ0_init_db425_80 : decode cJ0_init_db425 80 = .ok (.iconst 1, 1) := by decide +kernel
theorem dJ0_init_db425_81 : decode cJ0_init_db425 81 = .ok (.putfield 15, 3) := by decide +kernel
theorem dJ0_init_db425_84 : decode cJ0_init_db425 84 = .ok (.aload_n 0, 1) := by decide +kernel
theorem dJ0_init_db425_85 : decode cJ0_init_db425 85 = .ok (.aload_n 3, 1) := by decide +kernel
theorem dJ0_init_db425_86 : decode cJ0_init_db425 86 = .ok (.iconst 0, 1) := by decide +kernel
theorem dJ0_init_db425_87 : decode cJ0_init_db425 87 = .ok (.iload 4, 2) := by decide +kernel
theorem dJ0_init_db425_89 : decode cJ0_init_db425 89 = .ok (.iconst 1, 1) := by decide +kernel
theorem dJ0_init_db425_90 : decode cJ0_init_db425 90 = .ok (.ishl, 1) := by decide +kernel
theorem dJ0_init_db425_91 : decode cJ0_init_db425 91 = .ok (.invokestatic 54, 3) := by decide +kernel
theorem dJ0_init_db425_94 : decode cJ0_init_db425 94 = .ok (.putfield 9, 3) := by decide +kernel
theorem dJ0_init_db425_97 : decode cJ0_init_db425 97 = .ok (.return_, 1) := by decide +kernel
theorem rJ0_init_db425_0 {G : kz_G} {d : Nat} {mc ms : Nat} {Qr : Option Value → kz_M → Prop} {Qx : String → kz_M → Prop} {a0 : Nat} {p1 : Nat}  {M : kz_M} (hG : kz_stat G) (h : (∃ fs32, (M).1 p1 = some (.inl (15, fs32))) ∧ kz_C G (d + 2) 0 0 mJ5_getValue_6d5f1 [.ref p1] M (fun v M1 => ∃ r2 : Nat, v = some (.ref r2) ∧ ((∃ fs31, (M1).1 p1 = some (.inl (15, fs31))) ∧ kz_C G (d + 2) 0 0 mJ4_length_8abf5 [.ref p1] M1 (fun v M4 => ∃ r5 : Int32, v = some (.int r5) ∧ ((∃ fs30, (M4).1 p1 = some (.inl (15, fs30))) ∧ kz_C G (d + 2) 0 0 mJ5_isLatin1_aae02 [.ref p1] M4 (fun v M7 => ∃ r8 : Int32, v = some (.int r8) ∧ ((r8 = 0 → ((1 : Int32) = 0 → ∃ fs10, (M7).1 a0 = some (.inl (14, fs10)) ∧ 1 < fs10.length ∧ narrow .byte (.int 1) = .int 1 ∧ fits .byte (.int 1) = true ∧ (∃ mc13 ms13, 0 + mc13 ≤ mc ∧ 0 + ms13 ≤ ms ∧ kz_C G (d + 2) mc13 ms13 mJ7_copyOfRange_39247 [.ref r2, .int 0, .int (r5 <<< (1 &&& 31))] (kz_up M7 a0 (.inl (14, fs10.set 1 (.int 1)))) (fun v M11 => ∃ r12 : Nat, v = some (.ref r12) ∧ (∃ fs14, (M11).1 a0 = some (.inl (14, fs14)) ∧ 0 < fs14.length ∧ (Qr none (kz_up M11 a0 (.inl (14, fs14.set 0 (.ref r12))))))) Qx)) ∧ (¬ (1 : Int32) = 0 → ∃ fs16 v17, (M7).1 p1 = some (.inl (15, fs16)) ∧ fs16[2]? = some (.int v17) ∧ ((v17 = 0 → ∃ fs18, (M7).1 a0 = some (.inl (14, fs18)) ∧ 1 < fs18.length ∧ narrow .byte (.int 1) = .int 1 ∧ fits .byte (.int 1) = true ∧ (∃ mc21 ms21, 0 + mc21 ≤ mc ∧ 0 + ms21 ≤ ms ∧ kz_C G (d + 2) mc21 ms21 mJ7_copyOfRange_39247 [.ref r2, .int 0, .int (r5 <<< (1 &&& 31))] (kz_up M7 a0 (.inl (14, fs18.set 1 (.int 1)))) (fun v M19 => ∃ r20 : Nat, v = some (.ref r20) ∧ (∃ fs22, (M19).1 a0 = some (.inl (14, fs22)) ∧ 0 < fs22.length ∧ (Qr none (kz_up M19 a0 (.inl (14, fs22.set 0 (.ref r20))))))) Qx)) ∧ (¬ v17 = 0 → False)))) ∧ (¬ r8 = 0 → ∃ fs24, (M7).1 a0 = some (.inl (14, fs24)) ∧ 1 < fs24.length ∧ narrow .byte (.int 0) = .int 0 ∧ fits .byte (.int 0) = true ∧ (∃ mc27 ms27, 0 + mc27 ≤ mc ∧ 0 + ms27 ≤ ms ∧ kz_C G (d + 2) mc27 ms27 mJ7_copyOfRange_39247 [.ref r2, .int 0, .int r5] (kz_up M7 a0 (.inl (14, fs24.set 1 (.int 0)))) (fun v M25 => ∃ r26 : Nat, v = some (.ref r26) ∧ (∃ fs28, (M25).1 a0 = some (.inl (14, fs28)) ∧ 0 < fs28.length ∧ (Qr none (kz_up M25 a0 (.inl (14, fs28.set 0 (.ref r26))))))) Qx)))) Qx)) (fun _ _ => False))) Qx) : kz_C G (d + 3) mc ms mJ0_init_db425 [.ref a0, .ref p1, .null] M Qr Qx := by
  refine kz_enter (n := 2) kmJ0_init_db425.1 (Nat.le_of_ble_eq_true rfl) (ls := [(0, .ref a0), (1, .ref p1), (2, .null)]) rfl ?_
  refine kz_aload_n (pc := 0) 0 (v := .ref a0) (i := 0) rfl rfl rfl dJ0_init_db425_0 ?_
  refine kz_objInit (pc := 1) kw_1026 kw_43 kw_44 (by omega) (Nat.le_of_ble_eq_true rfl) dJ0_init_db425_1 ?_
  refine kz_aload_n (pc := 4) 1 (v := .ref p1) (i := 1) rfl rfl rfl dJ0_init_db425_4 ?_
  obtain ⟨⟨fs32, he⟩, h⟩ := h
  refine kz_callVC (pc := 5) (μ' := mJ5_getValue_6d5f1) (ci := 15) (q := (RJ4, TJ4, 4)) (b := p1) (d' := d + 2) (mc' := 0) (ms' := 0) (As := []) (st := []) (c := 0) (sl := 0) kmJ5_getValue_6d5f1 rfl kw_1028 (fun s args hK => hK.1 _ kw_1030 rfl args) kw_1027 (by omega) rfl (Nat.le_of_ble_eq_true rfl) he rfl (Nat.zero_le _) (Nat.zero_le _) dJ0_init_db425_5 (fun E M9 hx => kz_Tout rfl (Nat.zero_le _) (Nat.zero_le _) hx) (kz_Cmono (fun v M1 h => ?_) (fun _ _ h => h) h)
  obtain ⟨r2, rfl, h⟩ := h
  show kz_Z G (d + 3) mc ms mJ0_init_db425 Qr Qx 8 [(0, .ref a0), (1, .ref p1), (2, .null)] [.ref r2] M1 0 0
  refine kz_astore_n (pc := 8) (i := 3) (v := .ref r2) (ls' := [(0, .ref a0), (1, .ref p1), (2, .null)]) rfl rfl (by decide) rfl dJ0_init_db425_8 ?_
  refine kz_aload_n (pc := 9) 2 (v := .ref p1) (i := 1) rfl rfl rfl dJ0_init_db425_9 ?_
  obtain ⟨⟨fs31, he⟩, h⟩ := h
  refine kz_callU (pc := 10) (μ' := mJ4_length_8abf5) (x := yJ5_length_8abf5) (ci := 15) (q := (RJ4, TJ4, 4)) (b := p1) (d' := d + 2) (mc' := 0) (ms' := 0) (As := []) (st := []) (c := 0) (sl := 0) kmJ4_length_8abf5.1 rfl kw_1036 kw_1033 kw_1039 kw_1034 ⟨by decide +kernel, by decide +kernel⟩ (by decide +kernel) kw_1035 kw_1032 (by omega) rfl (Nat.le_of_ble_eq_true rfl) he rfl (Nat.zero_le _) (Nat.zero_le _) dJ0_init_db425_10 (kz_Cmono (fun v M4 h => ?_) (fun _ _ h => h) h)
  obtain ⟨r5, rfl, h⟩ := h
  show kz_Z G (d + 3) mc ms mJ0_init_db425 Qr Qx 13 [(3, .ref r2), (0, .ref a0), (1, .ref p1), (2, .null)] [.int r5] M4 0 0
  refine kz_istore (pc := 13) (i := 4) (ls' := [(3, .ref r2), (0, .ref a0), (1, .ref p1), (2, .null)]) (by decide) rfl dJ0_init_db425_13 ?_
  refine kz_aload_n (pc := 15) 3 (v := .ref p1) (i := 1) rfl rfl rfl dJ0_init_db425_15 ?_
  obtain ⟨⟨fs30, he⟩, h⟩ := h
  refine kz_callVC (pc := 16) (μ' := mJ5_isLatin1_aae02) (ci := 15) (q := (RJ4, TJ4, 4)) (b := p1) (d' := d + 2) (mc' := 0) (ms' := 0) (As := []) (st := []) (c := 0) (sl := 0) kmJ5_isLatin1_aae02 rfl kw_561 (fun s args hK => hK.1 _ kw_563 rfl args) kw_1040 (by omega) rfl (Nat.le_of_ble_eq_true rfl) he rfl (Nat.zero_le _) (Nat.zero_le _) dJ0_init_db425_16 (fun E M9 hx => kz_Tout rfl (Nat.zero_le _) (Nat.zero_le _) hx) (kz_Cmono (fun v M7 h => ?_) (fun _ _ h => h) h)
  obtain ⟨r8, rfl, h⟩ := h
  show kz_Z G (d + 3) mc ms mJ0_init_db425 Qr Qx 19 [(4, .int r5), (3, .ref r2), (0, .ref a0), (1, .ref p1), (2, .null)] [.int r8] M7 0 0
  refine kz_if_eq (pc := 19) (tgt := 41) (by decide) dJ0_init_db425_19 (fun hb => ?_) (fun hb => ?_)
  · replace h := h.1 hb
    refine kz_gets (pc := 41) (v := .int 1) hG.2.2.2.2.2.2.2.1.1 kw_235 dJ0_init_db425_41 ?_
    refine kz_if_eq (pc := 44) (tgt := 79) (by decide) dJ0_init_db425_44 (fun hb => ?_) (fun hb => ?_)
    · replace h := h.1 hb
      refine kz_aload_n (pc := 79) 2 (v := .ref a0) (i := 0) rfl rfl rfl dJ0_init_db425_79 ?_
      refine kz_iconst (pc := 80) (v := 1) (by decide) dJ0_init_db425_80 ?_
      obtain ⟨fs10, hM, hlen, hn, hf, h⟩ := h
      refine kz_putF (pc := 81) (k := 1) kcJ0 hM (by decide) hlen rfl rfl kw_1061 rfl hn hf dJ0_init_db425_81 ?_
      refine kz_aload_n (pc := 84) 2 (v := .ref a0) (i := 0) rfl rfl rfl dJ0_init_db425_84 ?_
      refine kz_aload_n (pc := 85) 1 (v := .ref r2) (i := 3) rfl rfl rfl dJ0_init_db425_85 ?_
      refine kz_iconst (pc := 86) (v := 0) (by decide) dJ0_init_db425_86 ?_
      refine kz_iload (pc := 87) 0 (i := 4) rfl dJ0_init_db425_87 ?_
      refine kz_iconst (pc := 89) (v := 1) (by decide) dJ0_init_db425_89 ?_
      refine kz_ishl (pc := 90) dJ0_init_db425_90 ?_
      obtain ⟨mc13, ms13, hc13, hs13, h⟩ := h
      refine kz_callS (pc := 91) (μ' := mJ7_copyOfRange_39247) (d' := d + 2) (mc' := mc13) (ms' := ms13) (As := [.ref r2, .int 0, .int (r5 <<< (1 &&& 31))]) (st := [.ref a0]) (c := 0) (sl := 0) kmJ7_copyOfRange_39247 kw_1041 (by omega) rfl (Nat.le_of_ble_eq_true rfl) hc13 hs13 dJ0_init_db425_91 (fun E M9 hx => kz_Tout rfl hc13 hs13 hx) (kz_Cmono (fun v M11 h => ?_) (fun _ _ h => h) h)
      obtain ⟨r12, rfl, h⟩ := h
      show kz_Z G (d + 3) mc ms mJ0_init_db425 Qr Qx 94 [(4, .int r5), (3, .ref r2), (0, .ref a0), (1, .ref p1), (2, .null)] [.ref r12, .ref a0] M11 (0 + mc13) (0 + ms13)
      obtain ⟨fs14, hM, hlen, h⟩ := h
      refine kz_putF (pc := 94) (k := 0) kcJ0 hM (by decide) hlen rfl rfl kw_1060 rfl rfl rfl dJ0_init_db425_94 ?_
      exact kz_vret (pc := 97) rfl hc13 hs13 dJ0_init_db425_97 h
    · replace h := h.2 hb
      refine kz_aload_n (pc := 47) 3 (v := .ref p1) (i := 1) rfl rfl rfl dJ0_init_db425_47 ?_
      obtain ⟨fs16, v17, hM, hv, h⟩ := h
      refine kz_getf (pc := 48) (k := 2) kcJ4 hM hv (by decide) kw_501 dJ0_init_db425_48 ?_
      refine kz_if_eq (pc := 51) (tgt := 79) (by decide) dJ0_init_db425_51 (fun hb => ?_) (fun hb => ?_)
      · replace h := h.1 hb
        refine kz_aload_n (pc := 79) 2 (v := .ref a0) (i := 0) rfl rfl rfl dJ0_init_db425_79 ?_
        refine kz_iconst (pc := 80) (v := 1) (by decide) dJ0_init_db425_80 ?_
        obtain ⟨fs18, hM, hlen, hn, hf, h⟩ := h
        refine kz_putF (pc := 81) (k := 1) kcJ0 hM (by decide) hlen rfl rfl kw_1061 rfl hn hf dJ0_init_db425_81 ?_
        refine kz_aload_n (pc := 84) 2 (v := .ref a0) (i := 0) rfl rfl rfl dJ0_init_db425_84 ?_
        refine kz_aload_n (pc := 85) 1 (v := .ref r2) (i := 3) rfl rfl rfl dJ0_init_db425_85 ?_
        refine kz_iconst (pc := 86) (v := 0) (by decide) dJ0_init_db425_86 ?_
        refine kz_iload (pc := 87) 0 (i := 4) rfl dJ0_init_db425_87 ?_
        refine kz_iconst (pc := 89) (v := 1) (by decide) dJ0_init_db425_89 ?_
        refine kz_ishl (pc := 90) dJ0_init_db425_90 ?_
        obtain ⟨mc21, ms21, hc21, hs21, h⟩ := h
        refine kz_callS (pc := 91) (μ' := mJ7_copyOfRange_39247) (d' := d + 2) (mc' := mc21) (ms' := ms21) (As := [.ref r2, .int 0, .int (r5 <<< (1 &&& 31))]) (st := [.ref a0]) (c := 0) (sl := 0) kmJ7_copyOfRange_39247 kw_1041 (by omega) rfl (Nat.le_of_ble_eq_true rfl) hc21 hs21 dJ0_init_db425_91 (fun E M9 hx => kz_Tout rfl hc21 hs21 hx) (kz_Cmono (fun v M19 h => ?_) (fun _ _ h => h) h)
        obtain ⟨r20, rfl, h⟩ := h
        show kz_Z G (d + 3) mc ms mJ0_init_db425 Qr Qx 94 [(4, .int r5), (3, .ref r2), (0, .ref a0), (1, .ref p1), (2, .null)] [.ref r20, .ref a0] M19 (0 + mc21) (0 + ms21)
        obtain ⟨fs22, hM, hlen, h⟩ := h
        refine kz_putF (pc := 94) (k := 0) kcJ0 hM (by decide) hlen rfl rfl kw_1060 rfl rfl rfl dJ0_init_db425_94 ?_
        exact kz_vret (pc := 97) rfl hc21 hs21 dJ0_init_db425_97 h
      · replace h := h.2 hb
        exact h.elim
  · replace h := h.2 hb
    refine kz_aload_n (pc := 22) 2 (v := .ref a0) (i := 0) rfl rfl rfl dJ0_init_db425_22 ?_
    refine kz_iconst (pc := 23) (v := 0) (by decide) dJ0_init_db425_23 ?_
    obtain ⟨fs24, hM, hlen, hn, hf, h⟩ := h
    refine kz_putF (pc := 24) (k := 1) kcJ0 hM (by decide) hlen rfl rfl kw_1061 rfl hn hf dJ0_init_db425_24 ?_
    refine kz_aload_n (pc := 27) 2 (v := .ref a0) (i := 0) rfl rfl rfl dJ0_init_db425_27 ?_
    refine kz_aload_n (pc := 28) 1 (v := .ref r2) (i := 3) rfl rfl rfl dJ0_init_db425_28 ?_
    refine kz_iconst (pc := 29) (v := 0) (by decide) dJ0_init_db425_29 ?_
    refine kz_iload (pc := 30) 0 (i := 4) rfl dJ0_init_db425_30 ?_
    obtain ⟨mc27, ms27, hc27, hs27, h⟩ := h
    refine kz_callS (pc := 32) (μ' := mJ7_copyOfRange_39247) (d' := d + 2) (mc' := mc27) (ms' := ms27) (As := [.ref r2, .int 0, .int r5]) (st := [.ref a0]) (c := 0) (sl := 0) kmJ7_copyOfRange_39247 kw_1041 (by omega) rfl (Nat.le_of_ble_eq_true rfl) hc27 hs27 dJ0_init_db425_32 (fun E M9 hx => kz_Tout rfl hc27 hs27 hx) (kz_Cmono (fun v M25 h => ?_) (fun _ _ h => h) h)
    obtain ⟨r26, rfl, h⟩ := h
    show kz_Z G (d + 3) mc ms mJ0_init_db425 Qr Qx 35 [(4, .int r5), (3, .ref r2), (0, .ref a0), (1, .ref p1), (2, .null)] [.ref r26, .ref a0] M25 (0 + mc27) (0 + ms27)
    obtain ⟨fs28, hM, hlen, h⟩ := h
    refine kz_putF (pc := 35) (k := 0) kcJ0 hM (by decide) hlen rfl rfl kw_1060 rfl rfl rfl dJ0_init_db425_35 ?_
    refine kz_goto (pc := 38) (tgt := 97) (by decide) dJ0_init_db425_38 ?_
    exact kz_vret (pc := 97) rfl hc27 hs27 dJ0_init_db425_97 h
theorem dJ0_init_81219_0 : decode cJ0_init_81219 0 = .ok (.aload_n 0, 1) := by decide +kernel
theorem dJ0_init_81219_1 : decode cJ0_init_81219 1 = .ok (.aload_n 1, 1) := by decide +kernel
theorem dJ0_init_81219_2 : decode cJ0_init_81219 2 = .ok (.aconst_null, 1) := by decide +kernel
theorem dJ0_init_81219_3 : decode cJ0_init_81219 3 = .ok (.invokespecial 489, 3) := by decide +kernel
theorem dJ0_init_81219_6 : decode cJ0_init_81219 6 = .ok (.return_, 1) := by decide +kernel
theorem rJ0_init_81219_0 {G : kz_G} {d : Nat} {mc ms : Nat} {Qr : Option Value → kz_M → Prop} {Qx : String → kz_M → Prop} {a0 : Nat} {p1 : Nat}  {M : kz_M} (h : ∃ mc3 ms3, 0 + mc3 ≤ mc ∧ 0 + ms3 ≤ ms ∧ kz_C G (d + 3) mc3 ms3 mJ0_init_db425 [.ref a0, .ref p1, .null] M (fun v M1 => v = none ∧ (Qr none M1)) Qx) : kz_C G (d + 4) mc ms mJ0_init_81219 [.ref a0, .ref p1] M Qr Qx := by
  refine kz_enter (n := 1) kmJ0_init_81219.1 (Nat.le_of_ble_eq_true rfl) (ls := [(0, .ref a0), (1, .ref p1)]) rfl ?_
  refine kz_aload_n (pc := 0) 0 (v := .ref a0) (i := 0) rfl rfl rfl dJ0_init_81219_0 ?_
  refine kz_aload_n (pc := 1) 1 (v := .ref p1) (i := 1) rfl rfl rfl dJ0_init_81219_1 ?_
  refine kz_null (pc := 2) dJ0_init_81219_2 ?_
  obtain ⟨mc3, ms3, hc3, hs3, h⟩ := h
  refine kz_callI (pc := 3) (μ' := mJ0_init_db425) (b := a0) (d' := d + 3) (mc' := mc3) (ms' := ms3) (As := [.ref p1, .null]) (st := []) (c := 0) (sl := 0) kmJ0_init_db425 kw_1023 (by omega) rfl (Nat.le_of_ble_eq_true rfl) hc3 hs3 dJ0_init_81219_3 (fun E M9 hx => kz_Tout rfl hc3 hs3 hx) (kz_Cmono (fun v M1 h => ?_) (fun _ _ h => h) h)
  obtain ⟨rfl, h⟩ := h
  show kz_Z G (d + 4) mc ms mJ0_init_81219 Qr Qx 6 [(0, .ref a0), (1, .ref p1)] [] M1 (0 + mc3) (0 + ms3)
  exact kz_vret (pc := 6) rfl hc3 hs3 dJ0_init_81219_6 h
theorem dJ4_toString_0e30d_0 : decode cJ4_toString_0e30d 0 = .ok (.new 18, 3) := by decide +kernel
theorem dJ4_toString_0e30d_3 : decode cJ4_toString_0e30d 3 = .ok (.dup, 1) := by decide +kernel
theorem dJ4_toString_0e30d_4 : decode cJ4_toString_0e30d 4 = .ok (.aload_n 0, 1) := by decide +kernel
theorem dJ4_toString_0e30d_5 : decode cJ4_toString_0e30d 5 = .ok (.invokespecial 137, 3) := by decide +kernel
theorem dJ4_toString_0e30d_8 : decode cJ4_toString_0e30d 8 = .ok (.areturn, 1) := by decide +kernel
theorem rJ4_toString_0e30d_0 {G : kz_G} {d : Nat} {mc ms : Nat} {Qr : Option Value → kz_M → Prop} {Qx : String → kz_M → Prop} {a0 : Nat}  {M : kz_M} (h : 0 + 1 ≤ mc ∧ 0 + 4 ≤ ms ∧ (∃ mc4 ms4, 0 + 1 + mc4 ≤ mc ∧ 0 + 4 + ms4 ≤ ms ∧ kz_C G (d + 4) mc4 ms4 mJ0_init_81219 [.ref ((M).2), .ref a0] (kz_nw M (.inl (14, [.null, .int 0, .int 0, .int 0]))) (fun v M2 => v = none ∧ (Qr (some (.ref ((M).2))) M2)) Qx)) : kz_C G (d + 5) mc ms mJ4_toString_0e30d [.ref a0] M Qr Qx := by
  refine kz_enter (n := 0) kmJ4_toString_0e30d.1 (Nat.le_of_ble_eq_true rfl) (ls := [(0, .ref a0)]) rfl ?_
  obtain ⟨hc1, hs1, h⟩ := h
  refine kz_newc (pc := 0) kcJ0 rfl kw_1018 kw_1019 kw_6 hc1 hs1 dJ4_toString_0e30d_0 ?_
  refine kz_dup (pc := 3) rfl dJ4_toString_0e30d_3 ?_
  refine kz_aload_n (pc := 4) 0 (v := .ref a0) (i := 0) rfl rfl rfl dJ4_toString_0e30d_4 ?_
  obtain ⟨mc4, ms4, hc4, hs4, h⟩ := h
  refine kz_callI (pc := 5) (μ' := mJ0_init_81219) (b := (M).2) (d' := d + 4) (mc' := mc4) (ms' := ms4) (As := [.ref a0]) (st := [.ref ((M).2)]) (c := 0 + 1) (sl := 0 + 4) kmJ0_init_81219 kw_1020 (by omega) rfl (Nat.le_of_ble_eq_true rfl) hc4 hs4 dJ4_toString_0e30d_5 (fun E M9 hx => kz_Tout rfl hc4 hs4 hx) (kz_Cmono (fun v M2 h => ?_) (fun _ _ h => h) h)
  obtain ⟨rfl, h⟩ := h
  show kz_Z G (d + 5) mc ms mJ4_toString_0e30d Qr Qx 8 [(0, .ref a0)] [.ref ((M).2)] M2 (0 + 1 + mc4) (0 + 4 + ms4)
  exact kz_aret (pc := 8) (v := .ref ((M).2)) rfl rfl (Or.inl ⟨_, rfl⟩) hc4 hs4 dJ4_toString_0e30d_8 h
theorem rJ0_coder_7d493D_0 {G : kz_G} {d : Nat} {Qr : Option Value → kz_M → Prop} {Qx : String → kz_M → Prop} {a0 : Nat}  {M : kz_M} (hG : kz_stat G) (h : ((1 : Int32) = 0 → narrow .byte (.int 1) = .int 1 ∧ Qr (some (.int 1)) M) ∧ (¬ (1 : Int32) = 0 → ∃ fs1 v2, (M).1 a0 = some (.inl (14, fs1)) ∧ fs1[1]? = some (.int v2) ∧ (narrow .byte (.int v2) = .int v2 ∧ Qr (some (.int v2)) M))) : kz_C G d 0 0 mJ0_coder_7d493 [.ref a0] M Qr Qx := by
  refine kz_enter (n := 0) kmJ0_coder_7d493.1 (Nat.le_of_ble_eq_true rfl) (ls := [(0, .ref a0)]) rfl ?_
  refine kz_gets (pc := 0) (v := .int 1) hG.2.2.2.2.2.2.2.1.1 kw_235 dJ0_coder_7d493_0 ?_
  refine kz_if_eq (pc := 3) (tgt := 13) (by decide) dJ0_coder_7d493_3 (fun hb => ?_) (fun hb => ?_)
  · replace h := h.1 hb
    refine kz_iconst (pc := 13) (v := 1) (by decide) dJ0_coder_7d493_13 ?_
    exact kz_zret (pc := 14) (ty := .byte) rfl h.1 (Nat.le_refl _) (Nat.le_refl _) dJ0_coder_7d493_14 h.2
  · replace h := h.2 hb
    refine kz_aload_n (pc := 6) 0 (v := .ref a0) (i := 0) rfl rfl rfl dJ0_coder_7d493_6 ?_
    obtain ⟨fs1, v2, hM, hv, h⟩ := h
    refine kz_getf (pc := 7) (k := 1) kcJ0 hM hv (by decide) kw_1061 dJ0_coder_7d493_7 ?_
    refine kz_goto (pc := 10) (tgt := 14) (by decide) dJ0_coder_7d493_10 ?_
    exact kz_zret (pc := 14) (ty := .byte) rfl h.1 (Nat.le_refl _) (Nat.le_refl _) dJ0_coder_7d493_14 h.2
theorem rJ0_isLatin1_aae02D_0 {G : kz_G} {d : Nat} {Qr : Option Value → kz_M → Prop} {Qx : String → kz_M → Prop} {a0 : Nat}  {M : kz_M} (hG : kz_stat G) (h : ((1 : Int32) = 0 → Qr (some (.int 0)) M) ∧ (¬ (1 : Int32) = 0 → ∃ fs1 v2, (M).1 a0 = some (.inl (14, fs1)) ∧ fs1[1]? = some (.int v2) ∧ ((¬ v2 = 0 → Qr (some (.int 0)) M) ∧ (v2 = 0 → Qr (some (.int 1)) M)))) : kz_C G d 0 0 mJ0_isLatin1_aae02 [.ref a0] M Qr Qx := by
  refine kz_enter (n := 0) kmJ0_isLatin1_aae02.1 (Nat.le_of_ble_eq_true rfl) (ls := [(0, .ref a0)]) rfl ?_
  refine kz_gets (pc := 0) (v := .int 1) hG.2.2.2.2.2.2.2.1.1 kw_235 dJ0_isLatin1_aae02_0 ?_
  refine kz_if_eq (pc := 3) (tgt := 17) (by decide) dJ0_isLatin1_aae02_3 (fun hb => ?_) (fun hb => ?_)
  · replace h := h.1 hb
    refine kz_iconst (pc := 17) (v := 0) (by decide) dJ0_isLatin1_aae02_17 ?_
    exact kz_zret (pc := 18) (ty := .boolean) rfl (by decide) (Nat.le_refl _) (Nat.le_refl _) dJ0_isLatin1_aae02_18 h
  · replace h := h.2 hb
    refine kz_aload_n (pc := 6) 0 (v := .ref a0) (i := 0) rfl rfl rfl dJ0_isLatin1_aae02_6 ?_
    obtain ⟨fs1, v2, hM, hv, h⟩ := h
    refine kz_getf (pc := 7) (k := 1) kcJ0 hM hv (by decide) kw_1061 dJ0_isLatin1_aae02_7 ?_
    refine kz_if_ne (pc := 10) (tgt := 17) (by decide) dJ0_isLatin1_aae02_10 (fun hb => ?_) (fun hb => ?_)
    · replace h := h.1 hb
      refine kz_iconst (pc := 17) (v := 0) (by decide) dJ0_isLatin1_aae02_17 ?_
      exact kz_zret (pc := 18) (ty := .boolean) rfl (by decide) (Nat.le_refl _) (Nat.le_refl _) dJ0_isLatin1_aae02_18 h
    · replace h := h.2 hb
      refine kz_iconst (pc := 13) (v := 1) (by decide) dJ0_isLatin1_aae02_13 ?_
      refine kz_goto (pc := 14) (tgt := 18) (by decide) dJ0_isLatin1_aae02_14 ?_
      exact kz_zret (pc := 18) (ty := .boolean) rfl (by decide) (Nat.le_refl _) (Nat.le_refl _) dJ0_isLatin1_aae02_18 h
theorem rJ0_length_8abf5D_0 {G : kz_G} {d : Nat} {Qr : Option Value → kz_M → Prop} {Qx : String → kz_M → Prop} {a0 : Nat}  {M : kz_M} (h : ∃ fs1 v2, (M).1 a0 = some (.inl (14, fs1)) ∧ fs1[0]? = some (.ref v2) ∧ (∃ ty3 A4, (M).1 v2 = some (.inr (ty3, A4)) ∧ ((∃ fs8, (M).1 a0 = some (.inl (14, fs8))) ∧ kz_C G (d + 0) 0 0 mJ0_coder_7d493 [.ref a0] M (fun v M5 => ∃ r6 : Int32, v = some (.int r6) ∧ (Qr (some (.int ((Int32.ofNat A4.1) >>> (r6 &&& 31)))) M5)) Qx))) : kz_C G (d + 1) 0 0 mJ0_length_8abf5 [.ref a0] M Qr Qx := by
  refine kz_enter (n := 0) kmJ0_length_8abf5.1 (Nat.le_of_ble_eq_true rfl) (ls := [(0, .ref a0)]) rfl ?_
  refine kz_aload_n (pc := 0) 0 (v := .ref a0) (i := 0) rfl rfl rfl dJ0_length_8abf5_0 ?_
  obtain ⟨fs1, v2, hM, hv, h⟩ := h
  refine kz_getf (pc := 1) (k := 0) kcJ0 hM hv (by decide) kw_1060 dJ0_length_8abf5_1 ?_
  obtain ⟨ty3, A4, hM, h⟩ := h
  refine kz_alen (pc := 4) hM rfl dJ0_length_8abf5_4 ?_
  refine kz_aload_n (pc := 5) 0 (v := .ref a0) (i := 0) rfl rfl rfl dJ0_length_8abf5_5 ?_
  obtain ⟨⟨fs8, he⟩, h⟩ := h
  refine kz_callV (pc := 6) (μ' := mJ0_coder_7d493) (ci := 14) (q := (RJ0, TJ0, 4)) (b := a0) (d' := d + 0) (mc' := 0) (ms' := 0) (As := []) (st := [.int (Int32.ofNat A4.1)]) (c := 0) (sl := 0) kmJ0_coder_7d493 kw_231 (by omega) rfl (Nat.le_of_ble_eq_true rfl) he rfl rfl (Nat.le_refl _) (Nat.le_refl _) dJ0_length_8abf5_6 (fun E M9 hx => kz_Tout rfl (Nat.le_refl _) (Nat.le_refl _) hx) (kz_Cmono (fun v M5 h => ?_) (fun _ _ h => h) h)
  obtain ⟨r6, rfl, h⟩ := h
  show kz_Z G (d + 1) 0 0 mJ0_length_8abf5 Qr Qx 9 [(0, .ref a0)] [.int r6, .int (Int32.ofNat A4.1)] M5 0 0
  refine kz_ishr (pc := 9) dJ0_length_8abf5_9 ?_
  exact kz_iret (pc := 10) rfl (Nat.le_refl _) (Nat.le_refl _) dJ0_length_8abf5_10 h
theorem rJ1_charAt_3b067D_0 {G : kz_G} {d : Nat} {Qr : Option Value → kz_M → Prop} {Qx : String → kz_M → Prop} {p0 : Nat} {p1 : Int32}  {M : kz_M} (h : ∃ ty1 A2, (M).1 p0 = some (.inr (ty1, A2)) ∧ (kz_C G (d + 1) 0 0 mJ0_checkIndex_df160 [.int p1, .int (Int32.ofNat A2.1)] M (fun v M3 => v = none ∧ (∃ n6 f7, (M3).1 p0 = some (.inr (.byte, n6, .inl f7)) ∧ vp_in p1 n6 ∧ (narrow .char (.int (((Int32.toUInt32 (((f7 p1.toNatClampNeg) &&& 255))) % 65536).toInt32)) = .int (((Int32.toUInt32 (((f7 p1.toNatClampNeg) &&& 255))) % 65536).toInt32) ∧ Qr (some (.int (((Int32.toUInt32 (((f7 p1.toNatClampNeg) &&& 255))) % 65536).toInt32))) M3))) Qx)) : kz_C G (d + 2) 0 0 mJ1_charAt_3b067 [.ref p0, .int p1] M Qr Qx := by
  refine kz_enter (n := 2) kmJ1_charAt_3b067.1 (Nat.le_of_ble_eq_true rfl) (ls := [(0, .ref p0), (1, .int p1)]) rfl ?_
  refine kz_iload_n (pc := 0) 1 (i := 1) rfl rfl dJ1_charAt_3b067_0 ?_
  refine kz_aload_n (pc := 1) 0 (v := .ref p0) (i := 0) rfl rfl rfl dJ1_charAt_3b067_1 ?_
  obtain ⟨ty1, A2, hM, h⟩ := h
  refine kz_alen (pc := 2) hM rfl dJ1_charAt_3b067_2 ?_
  refine kz_callS (pc := 3) (μ' := mJ0_checkIndex_df160) (d' := d + 1) (mc' := 0) (ms' := 0) (As := [.int p1, .int (Int32.ofNat A2.1)]) (st := []) (c := 0) (sl := 0) kmJ0_checkIndex_df160 kw_248 (by omega) rfl (Nat.le_of_ble_eq_true rfl) (Nat.le_refl _) (Nat.le_refl _) dJ1_charAt_3b067_3 (fun E M9 hx => kz_Tout rfl (Nat.le_refl _) (Nat.le_refl _) hx) (kz_Cmono (fun v M3 h => ?_) (fun _ _ h => h) h)
  obtain ⟨rfl, h⟩ := h
  show kz_Z G (d + 2) 0 0 mJ1_charAt_3b067 Qr Qx 6 [(0, .ref p0), (1, .int p1)] [] M3 0 0
  refine kz_aload_n (pc := 6) 0 (v := .ref p0) (i := 0) rfl rfl rfl dJ1_charAt_3b067_6 ?_
  refine kz_iload_n (pc := 7) 1 (i := 1) rfl rfl dJ1_charAt_3b067_7 ?_
  obtain ⟨n6, f7, hM, hi, h⟩ := h
  refine kz_bald (pc := 8) hM hi dJ1_charAt_3b067_8 ?_
  refine kz_sipush (pc := 9) (v := 255) (by decide) dJ1_charAt_3b067_9 ?_
  refine kz_iand (pc := 12) dJ1_charAt_3b067_12 ?_
  refine kz_i2c (pc := 13) dJ1_charAt_3b067_13 ?_
  exact kz_zret (pc := 14) (ty := .char) rfl h.1 (Nat.le_refl _) (Nat.le_refl _) dJ1_charAt_3b067_14 h.2
theorem rJ0_charAt_5068eD_0 {G : kz_G} {d : Nat} {Qr : Option Value → kz_M → Prop} {Qx : String → kz_M → Prop} {a0 : Nat} {p1 : Int32}  {M : kz_M} (h : (∃ fs12, (M).1 a0 = some (.inl (14, fs12))) ∧ kz_C G (d + 2) 0 0 mJ0_isLatin1_aae02 [.ref a0] M (fun v M1 => ∃ r2 : Int32, v = some (.int r2) ∧ ((r2 = 0 → False) ∧ (¬ r2 = 0 → ∃ fs6 v7, (M1).1 a0 = some (.inl (14, fs6)) ∧ fs6[0]? = some (.ref v7) ∧ (kz_C G (d + 2) 0 0 mJ1_charAt_3b067 [.ref v7, .int p1] M1 (fun v M8 => ∃ r9 : Int32, v = some (.int r9) ∧ (narrow .char (.int r9) = .int r9 ∧ Qr (some (.int r9)) M8)) Qx)))) Qx) : kz_C G (d + 3) 0 0 mJ0_charAt_5068e [.ref a0, .int p1] M Qr Qx := by
  refine kz_enter (n := 1) kmJ0_charAt_5068e.1 (Nat.le_of_ble_eq_true rfl) (ls := [(0, .ref a0), (1, .int p1)]) rfl ?_
  refine kz_aload_n (pc := 0) 0 (v := .ref a0) (i := 0) rfl rfl rfl dJ0_charAt_5068e_0 ?_
  obtain ⟨⟨fs12, he⟩, h⟩ := h
  refine kz_callV (pc := 1) (μ' := mJ0_isLatin1_aae02) (ci := 14) (q := (RJ0, TJ0, 4)) (b := a0) (d' := d + 2) (mc' := 0) (ms' := 0) (As := []) (st := []) (c := 0) (sl := 0) kmJ0_isLatin1_aae02 kw_241 (by omega) rfl (Nat.le_of_ble_eq_true rfl) he rfl rfl (Nat.le_refl _) (Nat.le_refl _) dJ0_charAt_5068e_1 (fun E M9 hx => kz_Tout rfl (Nat.le_refl _) (Nat.le_refl _) hx) (kz_Cmono (fun v M1 h => ?_) (fun _ _ h => h) h)
  obtain ⟨r2, rfl, h⟩ := h
  show kz_Z G (d + 3) 0 0 mJ0_charAt_5068e Qr Qx 4 [(0, .ref a0), (1, .int p1)] [.int r2] M1 0 0
  refine kz_if_eq (pc := 4) (tgt := 16) (by decide) dJ0_charAt_5068e_4 (fun hb => ?_) (fun hb => ?_)
  · replace h := h.1 hb
    exact h.elim
  · replace h := h.2 hb
    refine kz_aload_n (pc := 7) 0 (v := .ref a0) (i := 0) rfl rfl rfl dJ0_charAt_5068e_7 ?_
    obtain ⟨fs6, v7, hM, hv, h⟩ := h
    refine kz_getf (pc := 8) (k := 0) kcJ0 hM hv (by decide) kw_1060 dJ0_charAt_5068e_8 ?_
    refine kz_iload_n (pc := 11) 1 (i := 1) rfl rfl dJ0_charAt_5068e_11 ?_
    refine kz_callS (pc := 12) (μ' := mJ1_charAt_3b067) (d' := d + 2) (mc' := 0) (ms' := 0) (As := [.ref v7, .int p1]) (st := []) (c := 0) (sl := 0) kmJ1_charAt_3b067 kw_245 (by omega) rfl (Nat.le_of_ble_eq_true rfl) (Nat.le_refl _) (Nat.le_refl _) dJ0_charAt_5068e_12 (fun E M9 hx => kz_Tout rfl (Nat.le_refl _) (Nat.le_refl _) hx) (kz_Cmono (fun v M8 h => ?_) (fun _ _ h => h) h)
    obtain ⟨r9, rfl, h⟩ := h
    show kz_Z G (d + 3) 0 0 mJ0_charAt_5068e Qr Qx 15 [(0, .ref a0), (1, .int p1)] [.int r9] M8 0 0
    exact kz_zret (pc := 15) (ty := .char) rfl h.1 (Nat.le_refl _) (Nat.le_refl _) dJ0_charAt_5068e_15 h.2
