/-! The rules of 41.rnames: printed by program (wip/whole/rules.py) -/
theorem dX11_coded_0 : decode cX11_coded 0 = .ok (.lconst 0, 1) := by decide +kernel
theorem dX11_coded_1 : decode cX11_coded 1 = .ok (.lstore_n 1, 1) := by decide +kernel
theorem dX11_coded_2 : decode cX11_coded 2 = .ok (.iconst 0, 1) := by decide +kernel
theorem dX11_coded_3 : decode cX11_coded 3 = .ok (.istore_n 3, 1) := by decide +kernel
theorem dX11_coded_4 : decode cX11_coded 4 = .ok (.iload_n 3, 1) := by decide +kernel
theorem dX11_coded_5 : decode cX11_coded 5 = .ok (.aload_n 0, 1) := by decide +kernel
theorem dX11_coded_6 : decode cX11_coded 6 = .ok (.invokevirtual 506, 3) := by decide +kernel
theorem dX11_coded_9 : decode cX11_coded 9 = .ok (.if_icmp .ge 19, 3) := by decide +kernel
theorem dX11_coded_12 : decode cX11_coded 12 = .ok (.lload_n 1, 1) := by decide +kernel
theorem dX11_coded_13 : decode cX11_coded 13 = .ok (.aload_n 0, 1) := by decide +kernel
theorem dX11_coded_14 : decode cX11_coded 14 = .ok (.iload_n 3, 1) := by decide +kernel
theorem dX11_coded_15 : decode cX11_coded 15 = .ok (.invokevirtual 510, 3) := by decide +kernel
theorem dX11_coded_18 : decode cX11_coded 18 = .ok (.invokestatic 513, 3) := by decide +kernel
theorem dX11_coded_21 : decode cX11_coded 21 = .ok (.lstore_n 1, 1) := by decide +kernel
theorem dX11_coded_22 : decode cX11_coded 22 = .ok (.iinc 3 1, 3) := by decide +kernel
theorem dX11_coded_25 : decode cX11_coded 25 = .ok (.goto (-21), 3) := by decide +kernel
theorem dX11_coded_28 : decode cX11_coded 28 = .ok (.lload_n 1, 1) := by decide +kernel
theorem dX11_coded_29 : decode cX11_coded 29 = .ok (.lreturn, 1) := by decide +kernel
def zX11_coded_4 (G : kz_G) (d : Nat) (Qr : Option Value → kz_M → Prop) (Qx : String → kz_M → Prop) (x0 : Nat) (x1 : Int64) (x3 : Int32)  (M : kz_M) : Prop := kz_Z G (d + 4) 0 0 mX11_coded Qr Qx 4 [(0, .retAddr x0), (1, .long x1), (3, .int x3)] [] M 0 0
theorem rX11_coded_0 {G : kz_G} {d : Nat} {Qr : Option Value → kz_M → Prop} {Qx : String → kz_M → Prop} {p0 : Nat}  {M : kz_M} (h : zX11_coded_4 G d Qr Qx p0 0 0 M) : kz_C G (d + 4) 0 0 mX11_coded [.retAddr p0] M Qr Qx := by
  refine kz_enter (n := 1) kmX11_coded.1 (Nat.le_of_ble_eq_true rfl) (ls := [(0, .retAddr p0)]) rfl ?_
  refine kz_lconst (pc := 0) (v := 0) (by decide) dX11_coded_0 ?_
  refine kz_lstore_n (pc := 1) (i := 1) (ls' := [(0, .retAddr p0)]) rfl (by decide) rfl dX11_coded_1 ?_
  refine kz_iconst (pc := 2) (v := 0) (by decide) dX11_coded_2 ?_
  refine kz_istore_n (pc := 3) (i := 3) (ls' := [(1, .long 0), (0, .retAddr p0)]) rfl (by decide) rfl dX11_coded_3 ?_
  refine kz_sub [2, 1, 0] rfl ?_
  exact h
theorem rX11_coded_4 {G : kz_G} {d : Nat} {Qr : Option Value → kz_M → Prop} {Qx : String → kz_M → Prop} {x0 : Nat} {x1 : Int64} {x3 : Int32}  {M : kz_M} (hG : kz_stat G) (h : x0 ∈ kz_read ∧ (((Int32.ofNat (kz_txt x0).length) ≤ x3 → Qr (some (.long x1)) M) ∧ (¬ (Int32.ofNat (kz_txt x0).length) ≤ x3 → x0 ∈ kz_read ∧ vp_in x3 (kz_txt x0).length ∧ (kz_C G (d + 3) 0 0 mX11_withLetter [.long x1, .int ((kz_txt x0).getD x3.toNatClampNeg 0)] M (fun v M3 => ∃ r4 : Int64, v = some (.long r4) ∧ (zX11_coded_4 G d Qr Qx x0 r4 (x3 + 1) M3)) Qx)))) : zX11_coded_4 G d Qr Qx x0 x1 x3  M := by
  show kz_Z G (d + 4) 0 0 mX11_coded Qr Qx 4 [(0, .retAddr x0), (1, .long x1), (3, .int x3)] [] M 0 0
  refine kz_iload_n (pc := 4) 2 (i := 3) rfl rfl dX11_coded_4 ?_
  refine kz_aload_n (pc := 5) 0 (v := .retAddr x0) (i := 0) rfl rfl rfl dX11_coded_5 ?_
  obtain ⟨hj, h⟩ := h
  refine kz_strlen (pc := 6) hG hj kw_227 (by omega) (Nat.le_of_ble_eq_true rfl) (Nat.le_refl _) (Nat.le_refl _) dX11_coded_6 ?_
  refine kz_icmp_ge (pc := 9) (tgt := 28) (by decide) dX11_coded_9 (fun hb => ?_) (fun hb => ?_)
  · replace h := h.1 hb
    refine kz_lload_n (pc := 28) 1 (i := 1) rfl rfl dX11_coded_28 ?_
    exact kz_lret (pc := 29) rfl (Nat.le_refl _) (Nat.le_refl _) dX11_coded_29 h
  · replace h := h.2 hb
    refine kz_lload_n (pc := 12) 1 (i := 1) rfl rfl dX11_coded_12 ?_
    refine kz_aload_n (pc := 13) 0 (v := .retAddr x0) (i := 0) rfl rfl rfl dX11_coded_13 ?_
    refine kz_iload_n (pc := 14) 2 (i := 3) rfl rfl dX11_coded_14 ?_
    obtain ⟨hj, hi, h⟩ := h
    refine kz_charAt (pc := 15) hG hj hi kw_237 (by omega) (Nat.le_of_ble_eq_true rfl) (Nat.le_refl _) (Nat.le_refl _) dX11_coded_15 ?_
    refine kz_callS (pc := 18) (μ' := mX11_withLetter) (d' := d + 3) (mc' := 0) (ms' := 0) (As := [.long x1, .int ((kz_txt x0).getD x3.toNatClampNeg 0)]) (st := []) (c := 0) (sl := 0) kmX11_withLetter kw_275 (by omega) rfl (Nat.le_of_ble_eq_true rfl) (Nat.le_refl _) (Nat.le_refl _) dX11_coded_18 (fun E M9 hx => kz_Tout rfl (Nat.le_refl _) (Nat.le_refl _) hx) (kz_Cmono (fun v M3 h => ?_) (fun _ _ h => h) h)
    obtain ⟨r4, rfl, h⟩ := h
    show kz_Z G (d + 4) 0 0 mX11_coded Qr Qx 21 [(0, .retAddr x0), (1, .long x1), (3, .int x3)] [.long r4] M3 0 0
    refine kz_lstore_n (pc := 21) (i := 1) (ls' := [(0, .retAddr x0), (3, .int x3)]) rfl (by decide) rfl dX11_coded_21 ?_
    refine kz_iinc (pc := 22) 2 (i := 3) (v := x3 + 1) (ls' := [(1, .long r4), (0, .retAddr x0)]) rfl (congrArg (fun z => x3 + z) (by decide)) (by decide) rfl dX11_coded_22 ?_
    refine kz_goto (pc := 25) (tgt := 4) (by decide) dX11_coded_25 ?_
    refine kz_sub [2, 1, 0] rfl ?_
    exact h
theorem dX11_settingNamed_0 : decode cX11_settingNamed 0 = .ok (.iconst 0, 1) := by decide +kernel
theorem dX11_settingNamed_1 : decode cX11_settingNamed 1 = .ok (.istore_n 2, 1) := by decide +kernel
theorem dX11_settingNamed_2 : decode cX11_settingNamed 2 = .ok (.iload_n 2, 1) := by decide +kernel
theorem dX11_settingNamed_3 : decode cX11_settingNamed 3 = .ok (.getstatic 448, 3) := by decide +kernel
theorem dX11_settingNamed_6 : decode cX11_settingNamed 6 = .ok (.arraylength, 1) := by decide +kernel
theorem dX11_settingNamed_7 : decode cX11_settingNamed 7 = .ok (.if_icmp .ge 27, 3) := by decide +kernel
theorem dX11_settingNamed_10 : decode cX11_settingNamed 10 = .ok (.getstatic 448, 3) := by decide +kernel
theorem dX11_settingNamed_13 : decode cX11_settingNamed 13 = .ok (.iload_n 2, 1) := by decide +kernel
theorem dX11_settingNamed_14 : decode cX11_settingNamed 14 = .ok (.aaload, 1) := by decide +kernel
theorem dX11_settingNamed_15 : decode cX11_settingNamed 15 = .ok (.getfield 496, 3) := by decide +kernel
theorem dX11_settingNamed_18 : decode cX11_settingNamed 18 = .ok (.invokestatic 67, 3) := by decide +kernel
theorem dX11_settingNamed_21 : decode cX11_settingNamed 21 = .ok (.lload_n 0, 1) := by decide +kernel
theorem dX11_settingNamed_22 : decode cX11_settingNamed 22 = .ok (.lcmp, 1) := by decide +kernel
theorem dX11_settingNamed_23 : decode cX11_settingNamed 23 = .ok (.ifCond .ne 5, 3) := by decide +kernel
theorem dX11_settingNamed_26 : decode cX11_settingNamed 26 = .ok (.iload_n 2, 1) := by decide +kernel
theorem dX11_settingNamed_27 : decode cX11_settingNamed 27 = .ok (.ireturn, 1) := by decide +kernel
theorem dX11_settingNamed_28 : decode cX11_settingNamed 28 = .ok (.iinc 2 1, 3) := by decide +kernel
theorem dX11_settingNamed_31 : decode cX11_settingNamed 31 = .ok (.goto (-29), 3) := by decide +kernel
theorem dX11_settingNamed_34 : decode cX11_settingNamed 34 = .ok (.iconst (-1), 1) := by decide +kernel
theorem dX11_settingNamed_35 : decode cX11_settingNamed 35 = .ok (.ireturn, 1) := by decide +kernel
def zX11_settingNamed_2 (G : kz_G) (d : Nat) (Qr : Option Value → kz_M → Prop) (Qx : String → kz_M → Prop) (x0 : Int64) (x2 : Int32)  (M : kz_M) : Prop := kz_Z G (d + 5) 0 0 mX11_settingNamed Qr Qx 2 [(0, .long x0), (2, .int x2)] [] M 0 0
theorem rX11_settingNamed_0 {G : kz_G} {d : Nat} {Qr : Option Value → kz_M → Prop} {Qx : String → kz_M → Prop} {p0 : Int64}  {M : kz_M} (h : zX11_settingNamed_2 G d Qr Qx p0 0 M) : kz_C G (d + 5) 0 0 mX11_settingNamed [.long p0] M Qr Qx := by
  refine kz_enter (n := 1) kmX11_settingNamed.1 (Nat.le_of_ble_eq_true rfl) (ls := [(0, .long p0)]) rfl ?_
  refine kz_iconst (pc := 0) (v := 0) (by decide) dX11_settingNamed_0 ?_
  refine kz_istore_n (pc := 1) (i := 2) (ls' := [(0, .long p0)]) rfl (by decide) rfl dX11_settingNamed_1 ?_
  refine kz_sub [1, 0] rfl ?_
  exact h
theorem rX11_settingNamed_2 {G : kz_G} {d : Nat} {Qr : Option Value → kz_M → Prop} {Qx : String → kz_M → Prop} {x0 : Int64} {x2 : Int32}  {M : kz_M} (hG : kz_stat G) (h : ((10 : Int32) ≤ x2 → Qr (some (.int ((-1)))) M) ∧ (¬ (10 : Int32) ≤ x2 → vp_in x2 10 ∧ (x2.toNatClampNeg < 10 ∧ (kz_C G (d + 4) 0 0 mX11_coded [.retAddr (kz_wd x2.toNatClampNeg)] M (fun v M1 => ∃ r2 : Int64, v = some (.long r2) ∧ ((¬ r2 = x0 → zX11_settingNamed_2 G d Qr Qx x0 (x2 + 1) M1) ∧ (r2 = x0 → Qr (some (.int x2)) M1))) Qx)))) : zX11_settingNamed_2 G d Qr Qx x0 x2  M := by
  show kz_Z G (d + 5) 0 0 mX11_settingNamed Qr Qx 2 [(0, .long x0), (2, .int x2)] [] M 0 0
  refine kz_iload_n (pc := 2) 1 (i := 2) rfl rfl dX11_settingNamed_2 ?_
  refine kz_gets (pc := 3) (v := .retAddr 0) hG.2.2.2.1 kw_387 dX11_settingNamed_3 ?_
  refine kz_salen (pc := 6) (v := 10) hG.2.2.2.2.1 (by decide) dX11_settingNamed_6 ?_
  refine kz_icmp_ge (pc := 7) (tgt := 34) (by decide) dX11_settingNamed_7 (fun hb => ?_) (fun hb => ?_)
  · replace h := h.1 hb
    refine kz_iconst (pc := 34) (v := (-1)) (by decide) dX11_settingNamed_34 ?_
    exact kz_iret (pc := 35) rfl (Nat.le_refl _) (Nat.le_refl _) dX11_settingNamed_35 h
  · replace h := h.2 hb
    refine kz_gets (pc := 10) (v := .retAddr 0) hG.2.2.2.1 kw_387 dX11_settingNamed_10 ?_
    refine kz_iload_n (pc := 13) 1 (i := 2) rfl rfl dX11_settingNamed_13 ?_
    obtain ⟨hi, h⟩ := h
    refine kz_saald (pc := 14) (v := .retAddr (x2.toNatClampNeg + 1)) hG.2.2.2.2.1 hi rfl dX11_settingNamed_14 ?_
    obtain ⟨hk, h⟩ := h
    refine kz_sgetf (pc := 15) (v := .retAddr (kz_wd x2.toNatClampNeg)) (hG.2.2.2.2.2.1 x2.toNatClampNeg hk).2.2.2 kw_1589 dX11_settingNamed_15 ?_
    refine kz_callS (pc := 18) (μ' := mX11_coded) (d' := d + 4) (mc' := 0) (ms' := 0) (As := [.retAddr (kz_wd x2.toNatClampNeg)]) (st := []) (c := 0) (sl := 0) kmX11_coded kw_224 (by omega) rfl (Nat.le_of_ble_eq_true rfl) (Nat.le_refl _) (Nat.le_refl _) dX11_settingNamed_18 (fun E M9 hx => kz_Tout rfl (Nat.le_refl _) (Nat.le_refl _) hx) (kz_Cmono (fun v M1 h => ?_) (fun _ _ h => h) h)
    obtain ⟨r2, rfl, h⟩ := h
    show kz_Z G (d + 5) 0 0 mX11_settingNamed Qr Qx 21 [(0, .long x0), (2, .int x2)] [.long r2] M1 0 0
    refine kz_lload_n (pc := 21) 0 (i := 0) rfl rfl dX11_settingNamed_21 ?_
    refine kz_lcmp_ne (pc := 22) (tgt := 28) (by decide) dX11_settingNamed_22 dX11_settingNamed_23 (fun hb => ?_) (fun hb => ?_)
    · replace h := h.1 hb
      refine kz_iinc (pc := 28) 1 (i := 2) (v := x2 + 1) (ls' := [(0, .long x0)]) rfl (congrArg (fun z => x2 + z) (by decide)) (by decide) rfl dX11_settingNamed_28 ?_
      refine kz_goto (pc := 31) (tgt := 2) (by decide) dX11_settingNamed_31 ?_
      refine kz_sub [1, 0] rfl ?_
      exact h
    · replace h := h.2 hb
      refine kz_iload_n (pc := 26) 1 (i := 2) rfl rfl dX11_settingNamed_26 ?_
      exact kz_iret (pc := 27) rfl (Nat.le_refl _) (Nat.le_refl _) dX11_settingNamed_27 h
theorem dX11_isName_0 : decode cX11_isName 0 = .ok (.lload_n 0, 1) := by decide +kernel
theorem dX11_isName_1 : decode cX11_isName 1 = .ok (.lconst 0, 1) := by decide +kernel
theorem dX11_isName_2 : decode cX11_isName 2 = .ok (.lcmp, 1) := by decide +kernel
theorem dX11_isName_3 : decode cX11_isName 3 = .ok (.ifCond .eq 46, 3) := by decide +kernel
theorem dX11_isName_6 : decode cX11_isName 6 = .ok (.lload_n 0, 1) := by decide +kernel
theorem dX11_isName_7 : decode cX11_isName 7 = .ok (.invokestatic 241, 3) := by decide +kernel
theorem dX11_isName_10 : decode cX11_isName 10 = .ok (.bipush 6, 2) := by decide +kernel
theorem dX11_isName_12 : decode cX11_isName 12 = .ok (.if_icmp .gt 37, 3) := by decide +kernel
theorem dX11_isName_15 : decode cX11_isName 15 = .ok (.lload_n 0, 1) := by decide +kernel
theorem dX11_isName_16 : decode cX11_isName 16 = .ok (.ldc_w 500, 3) := by decide +kernel
theorem dX11_isName_19 : decode cX11_isName 19 = .ok (.invokestatic 67, 3) := by decide +kernel
theorem dX11_isName_22 : decode cX11_isName 22 = .ok (.lcmp, 1) := by decide +kernel
theorem dX11_isName_23 : decode cX11_isName 23 = .ok (.ifCond .eq 26, 3) := by decide +kernel
theorem dX11_isName_26 : decode cX11_isName 26 = .ok (.lload_n 0, 1) := by decide +kernel
theorem dX11_isName_27 : decode cX11_isName 27 = .ok (.ldc_w 502, 3) := by decide +kernel
theorem dX11_isName_30 : decode cX11_isName 30 = .ok (.invokestatic 67, 3) := by decide +kernel
theorem dX11_isName_33 : decode cX11_isName 33 = .ok (.lcmp, 1) := by decide +kernel
theorem dX11_isName_34 : decode cX11_isName 34 = .ok (.ifCond .eq 15, 3) := by decide +kernel
theorem dX11_isName_37 : decode cX11_isName 37 = .ok (.lload_n 0, 1) := by decide +kernel
theorem dX11_isName_38 : decode cX11_isName 38 = .ok (.invokestatic 503, 3) := by decide +kernel
theorem dX11_isName_41 : decode cX11_isName 41 = .ok (.iconst (-1), 1) := by decide +kernel
theorem dX11_isName_42 : decode cX11_isName 42 = .ok (.if_icmp .ne 7, 3) := by decide +kernel
theorem dX11_isName_45 : decode cX11_isName 45 = .ok (.iconst 1, 1) := by decide +kernel
theorem dX11_isName_46 : decode cX11_isName 46 = .ok (.goto 4, 3) := by decide +kernel
theorem dX11_isName_49 : decode cX11_isName 49 = .ok (.iconst 0, 1) := by decide +kernel
theorem dX11_isName_50 : decode cX11_isName 50 = .ok (.ireturn, 1) := by decide +kernel
theorem rX11_isName_0 {G : kz_G} {d : Nat} {Qr : Option Value → kz_M → Prop} {Qx : String → kz_M → Prop} {p0 : Int64}  {M : kz_M} (h : (p0 = 0 → Qr (some (.int 0)) M) ∧ (¬ p0 = 0 → kz_C G (d + 5) 0 0 mX11_lengthOf [.long p0] M (fun v M1 => ∃ r2 : Int32, v = some (.int r2) ∧ (((6 : Int32) < r2 → Qr (some (.int 0)) M1) ∧ (¬ (6 : Int32) < r2 → kz_C G (d + 5) 0 0 mX11_coded [.retAddr 1022] M1 (fun v M4 => ∃ r5 : Int64, v = some (.long r5) ∧ ((p0 = r5 → Qr (some (.int 0)) M4) ∧ (¬ p0 = r5 → kz_C G (d + 5) 0 0 mX11_coded [.retAddr 1023] M4 (fun v M7 => ∃ r8 : Int64, v = some (.long r8) ∧ ((p0 = r8 → Qr (some (.int 0)) M7) ∧ (¬ p0 = r8 → kz_C G (d + 5) 0 0 mX11_settingNamed [.long p0] M7 (fun v M10 => ∃ r11 : Int32, v = some (.int r11) ∧ ((¬ r11 = ((-1) : Int32) → Qr (some (.int 0)) M10) ∧ (r11 = ((-1) : Int32) → Qr (some (.int 1)) M10))) Qx))) Qx))) Qx))) Qx)) : kz_C G (d + 6) 0 0 mX11_isName [.long p0] M Qr Qx := by
  refine kz_enter (n := 1) kmX11_isName.1 (Nat.le_of_ble_eq_true rfl) (ls := [(0, .long p0)]) rfl ?_
  refine kz_lload_n (pc := 0) 0 (i := 0) rfl rfl dX11_isName_0 ?_
  refine kz_lconst (pc := 1) (v := 0) (by decide) dX11_isName_1 ?_
  refine kz_lcmp_eq (pc := 2) (tgt := 49) (by decide) dX11_isName_2 dX11_isName_3 (fun hb => ?_) (fun hb => ?_)
  · replace h := h.1 hb
    refine kz_iconst (pc := 49) (v := 0) (by decide) dX11_isName_49 ?_
    exact kz_zret (pc := 50) (ty := .boolean) rfl (by decide) (Nat.le_refl _) (Nat.le_refl _) dX11_isName_50 h
  · replace h := h.2 hb
    refine kz_lload_n (pc := 6) 0 (i := 0) rfl rfl dX11_isName_6 ?_
    refine kz_callS (pc := 7) (μ' := mX11_lengthOf) (d' := d + 5) (mc' := 0) (ms' := 0) (As := [.long p0]) (st := []) (c := 0) (sl := 0) kmX11_lengthOf kw_379 (by omega) rfl (Nat.le_of_ble_eq_true rfl) (Nat.le_refl _) (Nat.le_refl _) dX11_isName_7 (fun E M9 hx => kz_Tout rfl (Nat.le_refl _) (Nat.le_refl _) hx) (kz_Cmono (fun v M1 h => ?_) (fun _ _ h => h) h)
    obtain ⟨r2, rfl, h⟩ := h
    show kz_Z G (d + 6) 0 0 mX11_isName Qr Qx 10 [(0, .long p0)] [.int r2] M1 0 0
    refine kz_bipush (pc := 10) (v := 6) (by decide) dX11_isName_10 ?_
    refine kz_icmp_gt (pc := 12) (tgt := 49) (by decide) dX11_isName_12 (fun hb => ?_) (fun hb => ?_)
    · replace h := h.1 hb
      refine kz_iconst (pc := 49) (v := 0) (by decide) dX11_isName_49 ?_
      exact kz_zret (pc := 50) (ty := .boolean) rfl (by decide) (Nat.le_refl _) (Nat.le_refl _) dX11_isName_50 h
    · replace h := h.2 hb
      refine kz_lload_n (pc := 15) 0 (i := 0) rfl rfl dX11_isName_15 ?_
      refine kz_ldcwS (pc := 16) (j := 1022) (tx := "office") (List.mem_of_getElem? (i := 22) rfl) dX11_isName_16 ?_
      refine kz_callS (pc := 19) (μ' := mX11_coded) (d' := d + 5) (mc' := 0) (ms' := 0) (As := [.retAddr 1022]) (st := [.long p0]) (c := 0) (sl := 0) kmX11_coded kw_224 (by omega) rfl (Nat.le_of_ble_eq_true rfl) (Nat.le_refl _) (Nat.le_refl _) dX11_isName_19 (fun E M9 hx => kz_Tout rfl (Nat.le_refl _) (Nat.le_refl _) hx) (kz_Cmono (fun v M4 h => ?_) (fun _ _ h => h) h)
      obtain ⟨r5, rfl, h⟩ := h
      show kz_Z G (d + 6) 0 0 mX11_isName Qr Qx 22 [(0, .long p0)] [.long r5, .long p0] M4 0 0
      refine kz_lcmp_eq (pc := 22) (tgt := 49) (by decide) dX11_isName_22 dX11_isName_23 (fun hb => ?_) (fun hb => ?_)
      · replace h := h.1 hb
        refine kz_iconst (pc := 49) (v := 0) (by decide) dX11_isName_49 ?_
        exact kz_zret (pc := 50) (ty := .boolean) rfl (by decide) (Nat.le_refl _) (Nat.le_refl _) dX11_isName_50 h
      · replace h := h.2 hb
        refine kz_lload_n (pc := 26) 0 (i := 0) rfl rfl dX11_isName_26 ?_
        refine kz_ldcwS (pc := 27) (j := 1023) (tx := "writer") (List.mem_of_getElem? (i := 23) rfl) dX11_isName_27 ?_
        refine kz_callS (pc := 30) (μ' := mX11_coded) (d' := d + 5) (mc' := 0) (ms' := 0) (As := [.retAddr 1023]) (st := [.long p0]) (c := 0) (sl := 0) kmX11_coded kw_224 (by omega) rfl (Nat.le_of_ble_eq_true rfl) (Nat.le_refl _) (Nat.le_refl _) dX11_isName_30 (fun E M9 hx => kz_Tout rfl (Nat.le_refl _) (Nat.le_refl _) hx) (kz_Cmono (fun v M7 h => ?_) (fun _ _ h => h) h)
        obtain ⟨r8, rfl, h⟩ := h
        show kz_Z G (d + 6) 0 0 mX11_isName Qr Qx 33 [(0, .long p0)] [.long r8, .long p0] M7 0 0
        refine kz_lcmp_eq (pc := 33) (tgt := 49) (by decide) dX11_isName_33 dX11_isName_34 (fun hb => ?_) (fun hb => ?_)
        · replace h := h.1 hb
          refine kz_iconst (pc := 49) (v := 0) (by decide) dX11_isName_49 ?_
          exact kz_zret (pc := 50) (ty := .boolean) rfl (by decide) (Nat.le_refl _) (Nat.le_refl _) dX11_isName_50 h
        · replace h := h.2 hb
          refine kz_lload_n (pc := 37) 0 (i := 0) rfl rfl dX11_isName_37 ?_
          refine kz_callS (pc := 38) (μ' := mX11_settingNamed) (d' := d + 5) (mc' := 0) (ms' := 0) (As := [.long p0]) (st := []) (c := 0) (sl := 0) kmX11_settingNamed kw_384 (by omega) rfl (Nat.le_of_ble_eq_true rfl) (Nat.le_refl _) (Nat.le_refl _) dX11_isName_38 (fun E M9 hx => kz_Tout rfl (Nat.le_refl _) (Nat.le_refl _) hx) (kz_Cmono (fun v M10 h => ?_) (fun _ _ h => h) h)
          obtain ⟨r11, rfl, h⟩ := h
          show kz_Z G (d + 6) 0 0 mX11_isName Qr Qx 41 [(0, .long p0)] [.int r11] M10 0 0
          refine kz_iconst (pc := 41) (v := (-1)) (by decide) dX11_isName_41 ?_
          refine kz_icmp_ne (pc := 42) (tgt := 49) (by decide) dX11_isName_42 (fun hb => ?_) (fun hb => ?_)
          · replace h := h.1 hb
            refine kz_iconst (pc := 49) (v := 0) (by decide) dX11_isName_49 ?_
            exact kz_zret (pc := 50) (ty := .boolean) rfl (by decide) (Nat.le_refl _) (Nat.le_refl _) dX11_isName_50 h
          · replace h := h.2 hb
            refine kz_iconst (pc := 45) (v := 1) (by decide) dX11_isName_45 ?_
            refine kz_goto (pc := 46) (tgt := 50) (by decide) dX11_isName_46 ?_
            exact kz_zret (pc := 50) (ty := .boolean) rfl (by decide) (Nat.le_refl _) (Nat.le_refl _) dX11_isName_50 h
