/-! The rules of 62.rmodel3: printed by program (wip/whole/rules.py) -/
theorem dX12_noWriter_0 : decode cX12_noWriter 0 = .ok (.aload_n 0, 1) := by decide +kernel
theorem dX12_noWriter_1 : decode cX12_noWriter 1 = .ok (.iload_n 1, 1) := by decide +kernel
theorem dX12_noWriter_2 : decode cX12_noWriter 2 = .ok (.iconst 0, 1) := by decide +kernel
theorem dX12_noWriter_3 : decode cX12_noWriter 3 = .ok (.aload_n 0, 1) := by decide +kernel
theorem dX12_noWriter_4 : decode cX12_noWriter 4 = .ok (.getfield 7, 3) := by decide +kernel
theorem dX12_noWriter_7 : decode cX12_noWriter 7 = .ok (.iconst 0, 1) := by decide +kernel
theorem dX12_noWriter_8 : decode cX12_noWriter 8 = .ok (.iaload, 1) := by decide +kernel
theorem dX12_noWriter_9 : decode cX12_noWriter 9 = .ok (.iconst 1, 1) := by decide +kernel
theorem dX12_noWriter_10 : decode cX12_noWriter 10 = .ok (.isub, 1) := by decide +kernel
theorem dX12_noWriter_11 : decode cX12_noWriter 11 = .ok (.invokestatic 67, 3) := by decide +kernel
theorem dX12_noWriter_14 : decode cX12_noWriter 14 = .ok (.ifCond .ne 7, 3) := by decide +kernel
theorem dX12_noWriter_17 : decode cX12_noWriter 17 = .ok (.iconst 1, 1) := by decide +kernel
theorem dX12_noWriter_18 : decode cX12_noWriter 18 = .ok (.goto 4, 3) := by decide +kernel
theorem dX12_noWriter_21 : decode cX12_noWriter 21 = .ok (.iconst 0, 1) := by decide +kernel
theorem dX12_noWriter_22 : decode cX12_noWriter 22 = .ok (.iconst 1, 1) := by decide +kernel
theorem dX12_noWriter_23 : decode cX12_noWriter 23 = .ok (.invokevirtual 310, 3) := by decide +kernel
theorem dX12_noWriter_26 : decode cX12_noWriter 26 = .ok (.ireturn, 1) := by decide +kernel
theorem rX12_noWriter_0 {G : kz_G} {d : Nat} {Qr : Option Value → kz_M → Prop} {Qx : String → kz_M → Prop} {a0 : Nat} {p1 : Int32}  {M : kz_M} (h : ∃ fs1 v2, (M).1 a0 = some (.inl (11, fs1)) ∧ fs1[0]? = some (.ref v2) ∧ (∃ n3 f4, (M).1 v2 = some (.inr (.int, n3, .inl f4)) ∧ vp_in (0 : Int32) n3 ∧ (kz_C G (d + 0) 0 0 mX12_inRange [.int p1, .int 0, .int ((f4 (0 : Int32).toNatClampNeg) - 1)] M (fun v M5 => ∃ r6 : Int32, v = some (.int r6) ∧ ((¬ r6 = 0 → (∃ fs11, (M5).1 a0 = some (.inl (11, fs11))) ∧ kz_C G (d + 0) 0 0 mX12_fails [.ref a0, .int 0, .int 1] M5 (fun v M8 => ∃ r9 : Int32, v = some (.int r9) ∧ (narrow .boolean (.int r9) = .int r9 ∧ Qr (some (.int r9)) M8)) Qx) ∧ (r6 = 0 → (∃ fs15, (M5).1 a0 = some (.inl (11, fs15))) ∧ kz_C G (d + 0) 0 0 mX12_fails [.ref a0, .int 1, .int 1] M5 (fun v M12 => ∃ r13 : Int32, v = some (.int r13) ∧ (narrow .boolean (.int r13) = .int r13 ∧ Qr (some (.int r13)) M12)) Qx))) Qx))) : kz_C G (d + 1) 0 0 mX12_noWriter [.ref a0, .int p1] M Qr Qx := by
  refine kz_enter (n := 1) kmX12_noWriter.1 (Nat.le_of_ble_eq_true rfl) (ls := [(0, .ref a0), (1, .int p1)]) rfl ?_
  refine kz_aload_n (pc := 0) 0 (v := .ref a0) (i := 0) rfl rfl rfl dX12_noWriter_0 ?_
  refine kz_iload_n (pc := 1) 1 (i := 1) rfl rfl dX12_noWriter_1 ?_
  refine kz_iconst (pc := 2) (v := 0) (by decide) dX12_noWriter_2 ?_
  refine kz_aload_n (pc := 3) 0 (v := .ref a0) (i := 0) rfl rfl rfl dX12_noWriter_3 ?_
  obtain ⟨fs1, v2, hM, hv, h⟩ := h
  refine kz_getf (pc := 4) (k := 0) kcX12 hM hv (by decide) kw_1378 dX12_noWriter_4 ?_
  refine kz_iconst (pc := 7) (v := 0) (by decide) dX12_noWriter_7 ?_
  obtain ⟨n3, f4, hM, hi, h⟩ := h
  refine kz_iald (pc := 8) hM hi dX12_noWriter_8 ?_
  refine kz_iconst (pc := 9) (v := 1) (by decide) dX12_noWriter_9 ?_
  refine kz_isub (pc := 10) dX12_noWriter_10 ?_
  refine kz_callS (pc := 11) (μ' := mX12_inRange) (d' := d + 0) (mc' := 0) (ms' := 0) (As := [.int p1, .int 0, .int ((f4 (0 : Int32).toNatClampNeg) - 1)]) (st := [.ref a0]) (c := 0) (sl := 0) kmX12_inRange kw_1491 (by omega) rfl (Nat.le_of_ble_eq_true rfl) (Nat.le_refl _) (Nat.le_refl _) dX12_noWriter_11 (fun E M9 hx => kz_Tout rfl (Nat.le_refl _) (Nat.le_refl _) hx) (kz_Cmono (fun v M5 h => ?_) (fun _ _ h => h) h)
  obtain ⟨r6, rfl, h⟩ := h
  show kz_Z G (d + 1) 0 0 mX12_noWriter Qr Qx 14 [(0, .ref a0), (1, .int p1)] [.int r6, .ref a0] M5 0 0
  refine kz_if_ne (pc := 14) (tgt := 21) (by decide) dX12_noWriter_14 (fun hb => ?_) (fun hb => ?_)
  · replace h := h.1 hb
    refine kz_iconst (pc := 21) (v := 0) (by decide) dX12_noWriter_21 ?_
    refine kz_iconst (pc := 22) (v := 1) (by decide) dX12_noWriter_22 ?_
    obtain ⟨⟨fs11, he⟩, h⟩ := h
    refine kz_callV (pc := 23) (μ' := mX12_fails) (ci := 11) (q := (RX12, TX12, 32)) (b := a0) (d' := d + 0) (mc' := 0) (ms' := 0) (As := [.int 0, .int 1]) (st := []) (c := 0) (sl := 0) kmX12_fails kw_1653 (by omega) rfl (Nat.le_of_ble_eq_true rfl) he rfl rfl (Nat.le_refl _) (Nat.le_refl _) dX12_noWriter_23 (fun E M9 hx => kz_Tout rfl (Nat.le_refl _) (Nat.le_refl _) hx) (kz_Cmono (fun v M8 h => ?_) (fun _ _ h => h) h)
    obtain ⟨r9, rfl, h⟩ := h
    show kz_Z G (d + 1) 0 0 mX12_noWriter Qr Qx 26 [(0, .ref a0), (1, .int p1)] [.int r9] M8 0 0
    exact kz_zret (pc := 26) (ty := .boolean) rfl h.1 (Nat.le_refl _) (Nat.le_refl _) dX12_noWriter_26 h.2
  · replace h := h.2 hb
    refine kz_iconst (pc := 17) (v := 1) (by decide) dX12_noWriter_17 ?_
    refine kz_goto (pc := 18) (tgt := 22) (by decide) dX12_noWriter_18 ?_
    refine kz_iconst (pc := 22) (v := 1) (by decide) dX12_noWriter_22 ?_
    obtain ⟨⟨fs15, he⟩, h⟩ := h
    refine kz_callV (pc := 23) (μ' := mX12_fails) (ci := 11) (q := (RX12, TX12, 32)) (b := a0) (d' := d + 0) (mc' := 0) (ms' := 0) (As := [.int 1, .int 1]) (st := []) (c := 0) (sl := 0) kmX12_fails kw_1653 (by omega) rfl (Nat.le_of_ble_eq_true rfl) he rfl rfl (Nat.le_refl _) (Nat.le_refl _) dX12_noWriter_23 (fun E M9 hx => kz_Tout rfl (Nat.le_refl _) (Nat.le_refl _) hx) (kz_Cmono (fun v M12 h => ?_) (fun _ _ h => h) h)
    obtain ⟨r13, rfl, h⟩ := h
    show kz_Z G (d + 1) 0 0 mX12_noWriter Qr Qx 26 [(0, .ref a0), (1, .int p1)] [.int r13] M12 0 0
    exact kz_zret (pc := 26) (ty := .boolean) rfl h.1 (Nat.le_refl _) (Nat.le_refl _) dX12_noWriter_26 h.2
theorem dX12_noWork_0 : decode cX12_noWork 0 = .ok (.aload_n 0, 1) := by decide +kernel
theorem dX12_noWork_1 : decode cX12_noWork 1 = .ok (.iload_n 1, 1) := by decide +kernel
theorem dX12_noWork_2 : decode cX12_noWork 2 = .ok (.iconst 0, 1) := by decide +kernel
theorem dX12_noWork_3 : decode cX12_noWork 3 = .ok (.aload_n 0, 1) := by decide +kernel
theorem dX12_noWork_4 : decode cX12_noWork 4 = .ok (.getfield 7, 3) := by decide +kernel
theorem dX12_noWork_7 : decode cX12_noWork 7 = .ok (.iconst 1, 1) := by decide +kernel
theorem dX12_noWork_8 : decode cX12_noWork 8 = .ok (.iaload, 1) := by decide +kernel
theorem dX12_noWork_9 : decode cX12_noWork 9 = .ok (.iconst 1, 1) := by decide +kernel
theorem dX12_noWork_10 : decode cX12_noWork 10 = .ok (.isub, 1) := by decide +kernel
theorem dX12_noWork_11 : decode cX12_noWork 11 = .ok (.invokestatic 67, 3) := by decide +kernel
theorem dX12_noWork_14 : decode cX12_noWork 14 = .ok (.ifCond .ne 7, 3) := by decide +kernel
theorem dX12_noWork_17 : decode cX12_noWork 17 = .ok (.iconst 1, 1) := by decide +kernel
theorem dX12_noWork_18 : decode cX12_noWork 18 = .ok (.goto 4, 3) := by decide +kernel
theorem dX12_noWork_21 : decode cX12_noWork 21 = .ok (.iconst 0, 1) := by decide +kernel
theorem dX12_noWork_22 : decode cX12_noWork 22 = .ok (.iconst 1, 1) := by decide +kernel
theorem dX12_noWork_23 : decode cX12_noWork 23 = .ok (.invokevirtual 310, 3) := by decide +kernel
theorem dX12_noWork_26 : decode cX12_noWork 26 = .ok (.ireturn, 1) := by decide +kernel
theorem rX12_noWork_0 {G : kz_G} {d : Nat} {Qr : Option Value → kz_M → Prop} {Qx : String → kz_M → Prop} {a0 : Nat} {p1 : Int32}  {M : kz_M} (h : ∃ fs1 v2, (M).1 a0 = some (.inl (11, fs1)) ∧ fs1[0]? = some (.ref v2) ∧ (∃ n3 f4, (M).1 v2 = some (.inr (.int, n3, .inl f4)) ∧ vp_in (1 : Int32) n3 ∧ (kz_C G (d + 0) 0 0 mX12_inRange [.int p1, .int 0, .int ((f4 (1 : Int32).toNatClampNeg) - 1)] M (fun v M5 => ∃ r6 : Int32, v = some (.int r6) ∧ ((¬ r6 = 0 → (∃ fs11, (M5).1 a0 = some (.inl (11, fs11))) ∧ kz_C G (d + 0) 0 0 mX12_fails [.ref a0, .int 0, .int 1] M5 (fun v M8 => ∃ r9 : Int32, v = some (.int r9) ∧ (narrow .boolean (.int r9) = .int r9 ∧ Qr (some (.int r9)) M8)) Qx) ∧ (r6 = 0 → (∃ fs15, (M5).1 a0 = some (.inl (11, fs15))) ∧ kz_C G (d + 0) 0 0 mX12_fails [.ref a0, .int 1, .int 1] M5 (fun v M12 => ∃ r13 : Int32, v = some (.int r13) ∧ (narrow .boolean (.int r13) = .int r13 ∧ Qr (some (.int r13)) M12)) Qx))) Qx))) : kz_C G (d + 1) 0 0 mX12_noWork [.ref a0, .int p1] M Qr Qx := by
  refine kz_enter (n := 1) kmX12_noWork.1 (Nat.le_of_ble_eq_true rfl) (ls := [(0, .ref a0), (1, .int p1)]) rfl ?_
  refine kz_aload_n (pc := 0) 0 (v := .ref a0) (i := 0) rfl rfl rfl dX12_noWork_0 ?_
  refine kz_iload_n (pc := 1) 1 (i := 1) rfl rfl dX12_noWork_1 ?_
  refine kz_iconst (pc := 2) (v := 0) (by decide) dX12_noWork_2 ?_
  refine kz_aload_n (pc := 3) 0 (v := .ref a0) (i := 0) rfl rfl rfl dX12_noWork_3 ?_
  obtain ⟨fs1, v2, hM, hv, h⟩ := h
  refine kz_getf (pc := 4) (k := 0) kcX12 hM hv (by decide) kw_1378 dX12_noWork_4 ?_
  refine kz_iconst (pc := 7) (v := 1) (by decide) dX12_noWork_7 ?_
  obtain ⟨n3, f4, hM, hi, h⟩ := h
  refine kz_iald (pc := 8) hM hi dX12_noWork_8 ?_
  refine kz_iconst (pc := 9) (v := 1) (by decide) dX12_noWork_9 ?_
  refine kz_isub (pc := 10) dX12_noWork_10 ?_
  refine kz_callS (pc := 11) (μ' := mX12_inRange) (d' := d + 0) (mc' := 0) (ms' := 0) (As := [.int p1, .int 0, .int ((f4 (1 : Int32).toNatClampNeg) - 1)]) (st := [.ref a0]) (c := 0) (sl := 0) kmX12_inRange kw_1491 (by omega) rfl (Nat.le_of_ble_eq_true rfl) (Nat.le_refl _) (Nat.le_refl _) dX12_noWork_11 (fun E M9 hx => kz_Tout rfl (Nat.le_refl _) (Nat.le_refl _) hx) (kz_Cmono (fun v M5 h => ?_) (fun _ _ h => h) h)
  obtain ⟨r6, rfl, h⟩ := h
  show kz_Z G (d + 1) 0 0 mX12_noWork Qr Qx 14 [(0, .ref a0), (1, .int p1)] [.int r6, .ref a0] M5 0 0
  refine kz_if_ne (pc := 14) (tgt := 21) (by decide) dX12_noWork_14 (fun hb => ?_) (fun hb => ?_)
  · replace h := h.1 hb
    refine kz_iconst (pc := 21) (v := 0) (by decide) dX12_noWork_21 ?_
    refine kz_iconst (pc := 22) (v := 1) (by decide) dX12_noWork_22 ?_
    obtain ⟨⟨fs11, he⟩, h⟩ := h
    refine kz_callV (pc := 23) (μ' := mX12_fails) (ci := 11) (q := (RX12, TX12, 32)) (b := a0) (d' := d + 0) (mc' := 0) (ms' := 0) (As := [.int 0, .int 1]) (st := []) (c := 0) (sl := 0) kmX12_fails kw_1653 (by omega) rfl (Nat.le_of_ble_eq_true rfl) he rfl rfl (Nat.le_refl _) (Nat.le_refl _) dX12_noWork_23 (fun E M9 hx => kz_Tout rfl (Nat.le_refl _) (Nat.le_refl _) hx) (kz_Cmono (fun v M8 h => ?_) (fun _ _ h => h) h)
    obtain ⟨r9, rfl, h⟩ := h
    show kz_Z G (d + 1) 0 0 mX12_noWork Qr Qx 26 [(0, .ref a0), (1, .int p1)] [.int r9] M8 0 0
    exact kz_zret (pc := 26) (ty := .boolean) rfl h.1 (Nat.le_refl _) (Nat.le_refl _) dX12_noWork_26 h.2
  · replace h := h.2 hb
    refine kz_iconst (pc := 17) (v := 1) (by decide) dX12_noWork_17 ?_
    refine kz_goto (pc := 18) (tgt := 22) (by decide) dX12_noWork_18 ?_
    refine kz_iconst (pc := 22) (v := 1) (by decide) dX12_noWork_22 ?_
    obtain ⟨⟨fs15, he⟩, h⟩ := h
    refine kz_callV (pc := 23) (μ' := mX12_fails) (ci := 11) (q := (RX12, TX12, 32)) (b := a0) (d' := d + 0) (mc' := 0) (ms' := 0) (As := [.int 1, .int 1]) (st := []) (c := 0) (sl := 0) kmX12_fails kw_1653 (by omega) rfl (Nat.le_of_ble_eq_true rfl) he rfl rfl (Nat.le_refl _) (Nat.le_refl _) dX12_noWork_23 (fun E M9 hx => kz_Tout rfl (Nat.le_refl _) (Nat.le_refl _) hx) (kz_Cmono (fun v M12 h => ?_) (fun _ _ h => h) h)
    obtain ⟨r13, rfl, h⟩ := h
    show kz_Z G (d + 1) 0 0 mX12_noWork Qr Qx 26 [(0, .ref a0), (1, .int p1)] [.int r13] M12 0 0
    exact kz_zret (pc := 26) (ty := .boolean) rfl h.1 (Nat.le_refl _) (Nat.le_refl _) dX12_noWork_26 h.2
theorem dX12_noLine_0 : decode cX12_noLine 0 = .ok (.aload_n 0, 1) := by decide +kernel
theorem dX12_noLine_1 : decode cX12_noLine 1 = .ok (.iload_n 1, 1) := by decide +kernel
theorem dX12_noLine_2 : decode cX12_noLine 2 = .ok (.invokevirtual 314, 3) := by decide +kernel
theorem dX12_noLine_5 : decode cX12_noLine 5 = .ok (.ifCond .ne 32, 3) := by decide +kernel
theorem dX12_noLine_8 : decode cX12_noLine 8 = .ok (.aload_n 0, 1) := by decide +kernel
theorem dX12_noLine_9 : decode cX12_noLine 9 = .ok (.iload_n 2, 1) := by decide +kernel
theorem dX12_noLine_10 : decode cX12_noLine 10 = .ok (.iconst 0, 1) := by decide +kernel
theorem dX12_noLine_11 : decode cX12_noLine 11 = .ok (.aload_n 0, 1) := by decide +kernel
theorem dX12_noLine_12 : decode cX12_noLine 12 = .ok (.iload_n 1, 1) := by decide +kernel
theorem dX12_noLine_13 : decode cX12_noLine 13 = .ok (.iconst 4, 1) := by decide +kernel
theorem dX12_noLine_14 : decode cX12_noLine 14 = .ok (.invokevirtual 101, 3) := by decide +kernel
theorem dX12_noLine_17 : decode cX12_noLine 17 = .ok (.iconst 1, 1) := by decide +kernel
theorem dX12_noLine_18 : decode cX12_noLine 18 = .ok (.isub, 1) := by decide +kernel
theorem dX12_noLine_19 : decode cX12_noLine 19 = .ok (.invokestatic 67, 3) := by decide +kernel
theorem dX12_noLine_22 : decode cX12_noLine 22 = .ok (.ifCond .ne 7, 3) := by decide +kernel
theorem dX12_noLine_25 : decode cX12_noLine 25 = .ok (.iconst 1, 1) := by decide +kernel
theorem dX12_noLine_26 : decode cX12_noLine 26 = .ok (.goto 4, 3) := by decide +kernel
theorem dX12_noLine_29 : decode cX12_noLine 29 = .ok (.iconst 0, 1) := by decide +kernel
theorem dX12_noLine_30 : decode cX12_noLine 30 = .ok (.iconst 1, 1) := by decide +kernel
theorem dX12_noLine_31 : decode cX12_noLine 31 = .ok (.invokevirtual 310, 3) := by decide +kernel
theorem dX12_noLine_34 : decode cX12_noLine 34 = .ok (.ifCond .eq 7, 3) := by decide +kernel
theorem dX12_noLine_37 : decode cX12_noLine 37 = .ok (.iconst 1, 1) := by decide +kernel
theorem dX12_noLine_38 : decode cX12_noLine 38 = .ok (.goto 4, 3) := by decide +kernel
theorem dX12_noLine_41 : decode cX12_noLine 41 = .ok (.iconst 0, 1) := by decide +kernel
theorem dX12_noLine_42 : decode cX12_noLine 42 = .ok (.ireturn, 1) := by decide +kernel
theorem rX12_noLine_0 {G : kz_G} {d : Nat} {Qr : Option Value → kz_M → Prop} {Qx : String → kz_M → Prop} {a0 : Nat} {p1 : Int32} {p2 : Int32}  {M : kz_M} (h : (∃ fs20, (M).1 a0 = some (.inl (11, fs20))) ∧ kz_C G (d + 1) 0 0 mX12_noWork [.ref a0, .int p1] M (fun v M1 => ∃ r2 : Int32, v = some (.int r2) ∧ ((¬ r2 = 0 → Qr (some (.int 1)) M1) ∧ (r2 = 0 → (∃ fs19, (M1).1 a0 = some (.inl (11, fs19))) ∧ kz_C G (d + 1) 0 0 mX12_of [.ref a0, .int p1, .int 4] M1 (fun v M4 => ∃ r5 : Int32, v = some (.int r5) ∧ (kz_C G (d + 1) 0 0 mX12_inRange [.int p2, .int 0, .int (r5 - 1)] M4 (fun v M7 => ∃ r8 : Int32, v = some (.int r8) ∧ ((¬ r8 = 0 → (∃ fs13, (M7).1 a0 = some (.inl (11, fs13))) ∧ kz_C G (d + 1) 0 0 mX12_fails [.ref a0, .int 0, .int 1] M7 (fun v M10 => ∃ r11 : Int32, v = some (.int r11) ∧ ((r11 = 0 → Qr (some (.int 0)) M10) ∧ (¬ r11 = 0 → Qr (some (.int 1)) M10))) Qx) ∧ (r8 = 0 → (∃ fs17, (M7).1 a0 = some (.inl (11, fs17))) ∧ kz_C G (d + 1) 0 0 mX12_fails [.ref a0, .int 1, .int 1] M7 (fun v M14 => ∃ r15 : Int32, v = some (.int r15) ∧ ((r15 = 0 → Qr (some (.int 0)) M14) ∧ (¬ r15 = 0 → Qr (some (.int 1)) M14))) Qx))) Qx)) Qx))) Qx) : kz_C G (d + 2) 0 0 mX12_noLine [.ref a0, .int p1, .int p2] M Qr Qx := by
  refine kz_enter (n := 2) kmX12_noLine.1 (Nat.le_of_ble_eq_true rfl) (ls := [(0, .ref a0), (1, .int p1), (2, .int p2)]) rfl ?_
  refine kz_aload_n (pc := 0) 0 (v := .ref a0) (i := 0) rfl rfl rfl dX12_noLine_0 ?_
  refine kz_iload_n (pc := 1) 1 (i := 1) rfl rfl dX12_noLine_1 ?_
  obtain ⟨⟨fs20, he⟩, h⟩ := h
  refine kz_callV (pc := 2) (μ' := mX12_noWork) (ci := 11) (q := (RX12, TX12, 32)) (b := a0) (d' := d + 1) (mc' := 0) (ms' := 0) (As := [.int p1]) (st := []) (c := 0) (sl := 0) kmX12_noWork kw_1713 (by omega) rfl (Nat.le_of_ble_eq_true rfl) he rfl rfl (Nat.le_refl _) (Nat.le_refl _) dX12_noLine_2 (fun E M9 hx => kz_Tout rfl (Nat.le_refl _) (Nat.le_refl _) hx) (kz_Cmono (fun v M1 h => ?_) (fun _ _ h => h) h)
  obtain ⟨r2, rfl, h⟩ := h
  show kz_Z G (d + 2) 0 0 mX12_noLine Qr Qx 5 [(0, .ref a0), (1, .int p1), (2, .int p2)] [.int r2] M1 0 0
  refine kz_if_ne (pc := 5) (tgt := 37) (by decide) dX12_noLine_5 (fun hb => ?_) (fun hb => ?_)
  · replace h := h.1 hb
    refine kz_iconst (pc := 37) (v := 1) (by decide) dX12_noLine_37 ?_
    refine kz_goto (pc := 38) (tgt := 42) (by decide) dX12_noLine_38 ?_
    exact kz_zret (pc := 42) (ty := .boolean) rfl (by decide) (Nat.le_refl _) (Nat.le_refl _) dX12_noLine_42 h
  · replace h := h.2 hb
    refine kz_aload_n (pc := 8) 0 (v := .ref a0) (i := 0) rfl rfl rfl dX12_noLine_8 ?_
    refine kz_iload_n (pc := 9) 2 (i := 2) rfl rfl dX12_noLine_9 ?_
    refine kz_iconst (pc := 10) (v := 0) (by decide) dX12_noLine_10 ?_
    refine kz_aload_n (pc := 11) 0 (v := .ref a0) (i := 0) rfl rfl rfl dX12_noLine_11 ?_
    refine kz_iload_n (pc := 12) 1 (i := 1) rfl rfl dX12_noLine_12 ?_
    refine kz_iconst (pc := 13) (v := 4) (by decide) dX12_noLine_13 ?_
    obtain ⟨⟨fs19, he⟩, h⟩ := h
    refine kz_callV (pc := 14) (μ' := mX12_of) (ci := 11) (q := (RX12, TX12, 32)) (b := a0) (d' := d + 1) (mc' := 0) (ms' := 0) (As := [.int p1, .int 4]) (st := [.int 0, .int p2, .ref a0]) (c := 0) (sl := 0) kmX12_of kw_1620 (by omega) rfl (Nat.le_of_ble_eq_true rfl) he rfl rfl (Nat.le_refl _) (Nat.le_refl _) dX12_noLine_14 (fun E M9 hx => kz_Tout rfl (Nat.le_refl _) (Nat.le_refl _) hx) (kz_Cmono (fun v M4 h => ?_) (fun _ _ h => h) h)
    obtain ⟨r5, rfl, h⟩ := h
    show kz_Z G (d + 2) 0 0 mX12_noLine Qr Qx 17 [(0, .ref a0), (1, .int p1), (2, .int p2)] [.int r5, .int 0, .int p2, .ref a0] M4 0 0
    refine kz_iconst (pc := 17) (v := 1) (by decide) dX12_noLine_17 ?_
    refine kz_isub (pc := 18) dX12_noLine_18 ?_
    refine kz_callS (pc := 19) (μ' := mX12_inRange) (d' := d + 1) (mc' := 0) (ms' := 0) (As := [.int p2, .int 0, .int (r5 - 1)]) (st := [.ref a0]) (c := 0) (sl := 0) kmX12_inRange kw_1491 (by omega) rfl (Nat.le_of_ble_eq_true rfl) (Nat.le_refl _) (Nat.le_refl _) dX12_noLine_19 (fun E M9 hx => kz_Tout rfl (Nat.le_refl _) (Nat.le_refl _) hx) (kz_Cmono (fun v M7 h => ?_) (fun _ _ h => h) h)
    obtain ⟨r8, rfl, h⟩ := h
    show kz_Z G (d + 2) 0 0 mX12_noLine Qr Qx 22 [(0, .ref a0), (1, .int p1), (2, .int p2)] [.int r8, .ref a0] M7 0 0
    refine kz_if_ne (pc := 22) (tgt := 29) (by decide) dX12_noLine_22 (fun hb => ?_) (fun hb => ?_)
    · replace h := h.1 hb
      refine kz_iconst (pc := 29) (v := 0) (by decide) dX12_noLine_29 ?_
      refine kz_iconst (pc := 30) (v := 1) (by decide) dX12_noLine_30 ?_
      obtain ⟨⟨fs13, he⟩, h⟩ := h
      refine kz_callV (pc := 31) (μ' := mX12_fails) (ci := 11) (q := (RX12, TX12, 32)) (b := a0) (d' := d + 1) (mc' := 0) (ms' := 0) (As := [.int 0, .int 1]) (st := []) (c := 0) (sl := 0) kmX12_fails kw_1653 (by omega) rfl (Nat.le_of_ble_eq_true rfl) he rfl rfl (Nat.le_refl _) (Nat.le_refl _) dX12_noLine_31 (fun E M9 hx => kz_Tout rfl (Nat.le_refl _) (Nat.le_refl _) hx) (kz_Cmono (fun v M10 h => ?_) (fun _ _ h => h) h)
      obtain ⟨r11, rfl, h⟩ := h
      show kz_Z G (d + 2) 0 0 mX12_noLine Qr Qx 34 [(0, .ref a0), (1, .int p1), (2, .int p2)] [.int r11] M10 0 0
      refine kz_if_eq (pc := 34) (tgt := 41) (by decide) dX12_noLine_34 (fun hb => ?_) (fun hb => ?_)
      · replace h := h.1 hb
        refine kz_iconst (pc := 41) (v := 0) (by decide) dX12_noLine_41 ?_
        exact kz_zret (pc := 42) (ty := .boolean) rfl (by decide) (Nat.le_refl _) (Nat.le_refl _) dX12_noLine_42 h
      · replace h := h.2 hb
        refine kz_iconst (pc := 37) (v := 1) (by decide) dX12_noLine_37 ?_
        refine kz_goto (pc := 38) (tgt := 42) (by decide) dX12_noLine_38 ?_
        exact kz_zret (pc := 42) (ty := .boolean) rfl (by decide) (Nat.le_refl _) (Nat.le_refl _) dX12_noLine_42 h
    · replace h := h.2 hb
      refine kz_iconst (pc := 25) (v := 1) (by decide) dX12_noLine_25 ?_
      refine kz_goto (pc := 26) (tgt := 30) (by decide) dX12_noLine_26 ?_
      refine kz_iconst (pc := 30) (v := 1) (by decide) dX12_noLine_30 ?_
      obtain ⟨⟨fs17, he⟩, h⟩ := h
      refine kz_callV (pc := 31) (μ' := mX12_fails) (ci := 11) (q := (RX12, TX12, 32)) (b := a0) (d' := d + 1) (mc' := 0) (ms' := 0) (As := [.int 1, .int 1]) (st := []) (c := 0) (sl := 0) kmX12_fails kw_1653 (by omega) rfl (Nat.le_of_ble_eq_true rfl) he rfl rfl (Nat.le_refl _) (Nat.le_refl _) dX12_noLine_31 (fun E M9 hx => kz_Tout rfl (Nat.le_refl _) (Nat.le_refl _) hx) (kz_Cmono (fun v M14 h => ?_) (fun _ _ h => h) h)
      obtain ⟨r15, rfl, h⟩ := h
      show kz_Z G (d + 2) 0 0 mX12_noLine Qr Qx 34 [(0, .ref a0), (1, .int p1), (2, .int p2)] [.int r15] M14 0 0
      refine kz_if_eq (pc := 34) (tgt := 41) (by decide) dX12_noLine_34 (fun hb => ?_) (fun hb => ?_)
      · replace h := h.1 hb
        refine kz_iconst (pc := 41) (v := 0) (by decide) dX12_noLine_41 ?_
        exact kz_zret (pc := 42) (ty := .boolean) rfl (by decide) (Nat.le_refl _) (Nat.le_refl _) dX12_noLine_42 h
      · replace h := h.2 hb
        refine kz_iconst (pc := 37) (v := 1) (by decide) dX12_noLine_37 ?_
        refine kz_goto (pc := 38) (tgt := 42) (by decide) dX12_noLine_38 ?_
        exact kz_zret (pc := 42) (ty := .boolean) rfl (by decide) (Nat.le_refl _) (Nat.le_refl _) dX12_noLine_42 h
theorem dX12_linesInAll_0 : decode cX12_linesInAll 0 = .ok (.iconst 0, 1) := by decide +kernel
theorem dX12_linesInAll_1 : decode cX12_linesInAll 1 = .ok (.istore_n 2, 1) := by decide +kernel
theorem dX12_linesInAll_2 : decode cX12_linesInAll 2 = .ok (.iconst 0, 1) := by decide +kernel
theorem dX12_linesInAll_3 : decode cX12_linesInAll 3 = .ok (.istore_n 3, 1) := by decide +kernel
theorem dX12_linesInAll_4 : decode cX12_linesInAll 4 = .ok (.iload_n 3, 1) := by decide +kernel
theorem dX12_linesInAll_5 : decode cX12_linesInAll 5 = .ok (.aload_n 0, 1) := by decide +kernel
theorem dX12_linesInAll_6 : decode cX12_linesInAll 6 = .ok (.getfield 7, 3) := by decide +kernel
theorem dX12_linesInAll_9 : decode cX12_linesInAll 9 = .ok (.iconst 1, 1) := by decide +kernel
theorem dX12_linesInAll_10 : decode cX12_linesInAll 10 = .ok (.iaload, 1) := by decide +kernel
theorem dX12_linesInAll_11 : decode cX12_linesInAll 11 = .ok (.if_icmp .ge 36, 3) := by decide +kernel
theorem dX12_linesInAll_14 : decode cX12_linesInAll 14 = .ok (.iload_n 2, 1) := by decide +kernel
theorem dX12_linesInAll_15 : decode cX12_linesInAll 15 = .ok (.iload_n 1, 1) := by decide +kernel
theorem dX12_linesInAll_16 : decode cX12_linesInAll 16 = .ok (.iconst (-1), 1) := by decide +kernel
theorem dX12_linesInAll_17 : decode cX12_linesInAll 17 = .ok (.if_icmp .eq 12, 3) := by decide +kernel
theorem dX12_linesInAll_20 : decode cX12_linesInAll 20 = .ok (.aload_n 0, 1) := by decide +kernel
theorem dX12_linesInAll_21 : decode cX12_linesInAll 21 = .ok (.iload_n 3, 1) := by decide +kernel
theorem dX12_linesInAll_22 : decode cX12_linesInAll 22 = .ok (.iload_n 1, 1) := by decide +kernel
theorem dX12_linesInAll_23 : decode cX12_linesInAll 23 = .ok (.invokevirtual 116, 3) := by decide +kernel
theorem dX12_linesInAll_26 : decode cX12_linesInAll 26 = .ok (.ifCond .eq 12, 3) := by decide +kernel
theorem dX12_linesInAll_29 : decode cX12_linesInAll 29 = .ok (.aload_n 0, 1) := by decide +kernel
theorem dX12_linesInAll_30 : decode cX12_linesInAll 30 = .ok (.iload_n 3, 1) := by decide +kernel
theorem dX12_linesInAll_31 : decode cX12_linesInAll 31 = .ok (.iconst 4, 1) := by decide +kernel
theorem dX12_linesInAll_32 : decode cX12_linesInAll 32 = .ok (.invokevirtual 101, 3) := by decide +kernel
theorem dX12_linesInAll_35 : decode cX12_linesInAll 35 = .ok (.goto 4, 3) := by decide +kernel
theorem dX12_linesInAll_38 : decode cX12_linesInAll 38 = .ok (.iconst 0, 1) := by decide +kernel
theorem dX12_linesInAll_39 : decode cX12_linesInAll 39 = .ok (.iadd, 1) := by decide +kernel
theorem dX12_linesInAll_40 : decode cX12_linesInAll 40 = .ok (.istore_n 2, 1) := by decide +kernel
theorem dX12_linesInAll_41 : decode cX12_linesInAll 41 = .ok (.iinc 3 1, 3) := by decide +kernel
theorem dX12_linesInAll_44 : decode cX12_linesInAll 44 = .ok (.goto (-40), 3) := by decide +kernel
theorem dX12_linesInAll_47 : decode cX12_linesInAll 47 = .ok (.iload_n 2, 1) := by decide +kernel
theorem dX12_linesInAll_48 : decode cX12_linesInAll 48 = .ok (.ireturn, 1) := by decide +kernel
def zX12_linesInAll_4 (G : kz_G) (d : Nat) (Qr : Option Value → kz_M → Prop) (Qx : String → kz_M → Prop) (x0 : Nat) (x1 : Int32) (x2 : Int32) (x3 : Int32)  (M : kz_M) : Prop := kz_Z G (d + 2) 0 0 mX12_linesInAll Qr Qx 4 [(0, .ref x0), (1, .int x1), (2, .int x2), (3, .int x3)] [] M 0 0
theorem rX12_linesInAll_0 {G : kz_G} {d : Nat} {Qr : Option Value → kz_M → Prop} {Qx : String → kz_M → Prop} {a0 : Nat} {p1 : Int32}  {M : kz_M} (h : zX12_linesInAll_4 G d Qr Qx a0 p1 0 0 M) : kz_C G (d + 2) 0 0 mX12_linesInAll [.ref a0, .int p1] M Qr Qx := by
  refine kz_enter (n := 1) kmX12_linesInAll.1 (Nat.le_of_ble_eq_true rfl) (ls := [(0, .ref a0), (1, .int p1)]) rfl ?_
  refine kz_iconst (pc := 0) (v := 0) (by decide) dX12_linesInAll_0 ?_
  refine kz_istore_n (pc := 1) (i := 2) (ls' := [(0, .ref a0), (1, .int p1)]) rfl (by decide) rfl dX12_linesInAll_1 ?_
  refine kz_iconst (pc := 2) (v := 0) (by decide) dX12_linesInAll_2 ?_
  refine kz_istore_n (pc := 3) (i := 3) (ls' := [(2, .int 0), (0, .ref a0), (1, .int p1)]) rfl (by decide) rfl dX12_linesInAll_3 ?_
  refine kz_sub [2, 3, 1, 0] rfl ?_
  exact h
theorem rX12_linesInAll_4 {G : kz_G} {d : Nat} {Qr : Option Value → kz_M → Prop} {Qx : String → kz_M → Prop} {x0 : Nat} {x1 : Int32} {x2 : Int32} {x3 : Int32}  {M : kz_M} (h : ∃ fs1 v2, (M).1 x0 = some (.inl (11, fs1)) ∧ fs1[0]? = some (.ref v2) ∧ (∃ n3 f4, (M).1 v2 = some (.inr (.int, n3, .inl f4)) ∧ vp_in (1 : Int32) n3 ∧ (((f4 (1 : Int32).toNatClampNeg) ≤ x3 → Qr (some (.int x2)) M) ∧ (¬ (f4 (1 : Int32).toNatClampNeg) ≤ x3 → (x1 = ((-1) : Int32) → (∃ fs8, (M).1 x0 = some (.inl (11, fs8))) ∧ kz_C G (d + 1) 0 0 mX12_of [.ref x0, .int x3, .int 4] M (fun v M5 => ∃ r6 : Int32, v = some (.int r6) ∧ (zX12_linesInAll_4 G d Qr Qx x0 x1 (x2 + r6) (x3 + 1) M5)) Qx) ∧ (¬ x1 = ((-1) : Int32) → (∃ fs16, (M).1 x0 = some (.inl (11, fs16))) ∧ kz_C G (d + 1) 0 0 mX12_isBy [.ref x0, .int x3, .int x1] M (fun v M9 => ∃ r10 : Int32, v = some (.int r10) ∧ ((r10 = 0 → zX12_linesInAll_4 G d Qr Qx x0 x1 (x2 + 0) (x3 + 1) M9) ∧ (¬ r10 = 0 → (∃ fs15, (M9).1 x0 = some (.inl (11, fs15))) ∧ kz_C G (d + 1) 0 0 mX12_of [.ref x0, .int x3, .int 4] M9 (fun v M12 => ∃ r13 : Int32, v = some (.int r13) ∧ (zX12_linesInAll_4 G d Qr Qx x0 x1 (x2 + r13) (x3 + 1) M12)) Qx))) Qx))))) : zX12_linesInAll_4 G d Qr Qx x0 x1 x2 x3  M := by
  show kz_Z G (d + 2) 0 0 mX12_linesInAll Qr Qx 4 [(0, .ref x0), (1, .int x1), (2, .int x2), (3, .int x3)] [] M 0 0
  refine kz_iload_n (pc := 4) 3 (i := 3) rfl rfl dX12_linesInAll_4 ?_
  refine kz_aload_n (pc := 5) 0 (v := .ref x0) (i := 0) rfl rfl rfl dX12_linesInAll_5 ?_
  obtain ⟨fs1, v2, hM, hv, h⟩ := h
  refine kz_getf (pc := 6) (k := 0) kcX12 hM hv (by decide) kw_1378 dX12_linesInAll_6 ?_
  refine kz_iconst (pc := 9) (v := 1) (by decide) dX12_linesInAll_9 ?_
  obtain ⟨n3, f4, hM, hi, h⟩ := h
  refine kz_iald (pc := 10) hM hi dX12_linesInAll_10 ?_
  refine kz_icmp_ge (pc := 11) (tgt := 47) (by decide) dX12_linesInAll_11 (fun hb => ?_) (fun hb => ?_)
  · replace h := h.1 hb
    refine kz_iload_n (pc := 47) 2 (i := 2) rfl rfl dX12_linesInAll_47 ?_
    exact kz_iret (pc := 48) rfl (Nat.le_refl _) (Nat.le_refl _) dX12_linesInAll_48 h
  · replace h := h.2 hb
    refine kz_iload_n (pc := 14) 2 (i := 2) rfl rfl dX12_linesInAll_14 ?_
    refine kz_iload_n (pc := 15) 1 (i := 1) rfl rfl dX12_linesInAll_15 ?_
    refine kz_iconst (pc := 16) (v := (-1)) (by decide) dX12_linesInAll_16 ?_
    refine kz_icmp_eq (pc := 17) (tgt := 29) (by decide) dX12_linesInAll_17 (fun hb => ?_) (fun hb => ?_)
    · replace h := h.1 hb
      refine kz_aload_n (pc := 29) 0 (v := .ref x0) (i := 0) rfl rfl rfl dX12_linesInAll_29 ?_
      refine kz_iload_n (pc := 30) 3 (i := 3) rfl rfl dX12_linesInAll_30 ?_
      refine kz_iconst (pc := 31) (v := 4) (by decide) dX12_linesInAll_31 ?_
      obtain ⟨⟨fs8, he⟩, h⟩ := h
      refine kz_callV (pc := 32) (μ' := mX12_of) (ci := 11) (q := (RX12, TX12, 32)) (b := x0) (d' := d + 1) (mc' := 0) (ms' := 0) (As := [.int x3, .int 4]) (st := [.int x2]) (c := 0) (sl := 0) kmX12_of kw_1620 (by omega) rfl (Nat.le_of_ble_eq_true rfl) he rfl rfl (Nat.le_refl _) (Nat.le_refl _) dX12_linesInAll_32 (fun E M9 hx => kz_Tout rfl (Nat.le_refl _) (Nat.le_refl _) hx) (kz_Cmono (fun v M5 h => ?_) (fun _ _ h => h) h)
      obtain ⟨r6, rfl, h⟩ := h
      show kz_Z G (d + 2) 0 0 mX12_linesInAll Qr Qx 35 [(0, .ref x0), (1, .int x1), (2, .int x2), (3, .int x3)] [.int r6, .int x2] M5 0 0
      refine kz_goto (pc := 35) (tgt := 39) (by decide) dX12_linesInAll_35 ?_
      refine kz_iadd (pc := 39) dX12_linesInAll_39 ?_
      refine kz_istore_n (pc := 40) (i := 2) (ls' := [(0, .ref x0), (1, .int x1), (3, .int x3)]) rfl (by decide) rfl dX12_linesInAll_40 ?_
      refine kz_iinc (pc := 41) 3 (i := 3) (v := x3 + 1) (ls' := [(2, .int (x2 + r6)), (0, .ref x0), (1, .int x1)]) rfl (congrArg (fun z => x3 + z) (by decide)) (by decide) rfl dX12_linesInAll_41 ?_
      refine kz_goto (pc := 44) (tgt := 4) (by decide) dX12_linesInAll_44 ?_
      refine kz_sub [2, 3, 1, 0] rfl ?_
      exact h
    · replace h := h.2 hb
      refine kz_aload_n (pc := 20) 0 (v := .ref x0) (i := 0) rfl rfl rfl dX12_linesInAll_20 ?_
      refine kz_iload_n (pc := 21) 3 (i := 3) rfl rfl dX12_linesInAll_21 ?_
      refine kz_iload_n (pc := 22) 1 (i := 1) rfl rfl dX12_linesInAll_22 ?_
      obtain ⟨⟨fs16, he⟩, h⟩ := h
      refine kz_callV (pc := 23) (μ' := mX12_isBy) (ci := 11) (q := (RX12, TX12, 32)) (b := x0) (d' := d + 1) (mc' := 0) (ms' := 0) (As := [.int x3, .int x1]) (st := [.int x2]) (c := 0) (sl := 0) kmX12_isBy kw_1616 (by omega) rfl (Nat.le_of_ble_eq_true rfl) he rfl rfl (Nat.le_refl _) (Nat.le_refl _) dX12_linesInAll_23 (fun E M9 hx => kz_Tout rfl (Nat.le_refl _) (Nat.le_refl _) hx) (kz_Cmono (fun v M9 h => ?_) (fun _ _ h => h) h)
      obtain ⟨r10, rfl, h⟩ := h
      show kz_Z G (d + 2) 0 0 mX12_linesInAll Qr Qx 26 [(0, .ref x0), (1, .int x1), (2, .int x2), (3, .int x3)] [.int r10, .int x2] M9 0 0
      refine kz_if_eq (pc := 26) (tgt := 38) (by decide) dX12_linesInAll_26 (fun hb => ?_) (fun hb => ?_)
      · replace h := h.1 hb
        refine kz_iconst (pc := 38) (v := 0) (by decide) dX12_linesInAll_38 ?_
        refine kz_iadd (pc := 39) dX12_linesInAll_39 ?_
        refine kz_istore_n (pc := 40) (i := 2) (ls' := [(0, .ref x0), (1, .int x1), (3, .int x3)]) rfl (by decide) rfl dX12_linesInAll_40 ?_
        refine kz_iinc (pc := 41) 3 (i := 3) (v := x3 + 1) (ls' := [(2, .int (x2 + 0)), (0, .ref x0), (1, .int x1)]) rfl (congrArg (fun z => x3 + z) (by decide)) (by decide) rfl dX12_linesInAll_41 ?_
        refine kz_goto (pc := 44) (tgt := 4) (by decide) dX12_linesInAll_44 ?_
        refine kz_sub [2, 3, 1, 0] rfl ?_
        exact h
      · replace h := h.2 hb
        refine kz_aload_n (pc := 29) 0 (v := .ref x0) (i := 0) rfl rfl rfl dX12_linesInAll_29 ?_
        refine kz_iload_n (pc := 30) 3 (i := 3) rfl rfl dX12_linesInAll_30 ?_
        refine kz_iconst (pc := 31) (v := 4) (by decide) dX12_linesInAll_31 ?_
        obtain ⟨⟨fs15, he⟩, h⟩ := h
        refine kz_callV (pc := 32) (μ' := mX12_of) (ci := 11) (q := (RX12, TX12, 32)) (b := x0) (d' := d + 1) (mc' := 0) (ms' := 0) (As := [.int x3, .int 4]) (st := [.int x2]) (c := 0) (sl := 0) kmX12_of kw_1620 (by omega) rfl (Nat.le_of_ble_eq_true rfl) he rfl rfl (Nat.le_refl _) (Nat.le_refl _) dX12_linesInAll_32 (fun E M9 hx => kz_Tout rfl (Nat.le_refl _) (Nat.le_refl _) hx) (kz_Cmono (fun v M12 h => ?_) (fun _ _ h => h) h)
        obtain ⟨r13, rfl, h⟩ := h
        show kz_Z G (d + 2) 0 0 mX12_linesInAll Qr Qx 35 [(0, .ref x0), (1, .int x1), (2, .int x2), (3, .int x3)] [.int r13, .int x2] M12 0 0
        refine kz_goto (pc := 35) (tgt := 39) (by decide) dX12_linesInAll_35 ?_
        refine kz_iadd (pc := 39) dX12_linesInAll_39 ?_
        refine kz_istore_n (pc := 40) (i := 2) (ls' := [(0, .ref x0), (1, .int x1), (3, .int x3)]) rfl (by decide) rfl dX12_linesInAll_40 ?_
        refine kz_iinc (pc := 41) 3 (i := 3) (v := x3 + 1) (ls' := [(2, .int (x2 + r13)), (0, .ref x0), (1, .int x1)]) rfl (congrArg (fun z => x3 + z) (by decide)) (by decide) rfl dX12_linesInAll_41 ?_
        refine kz_goto (pc := 44) (tgt := 4) (by decide) dX12_linesInAll_44 ?_
        refine kz_sub [2, 3, 1, 0] rfl ?_
        exact h
theorem dX12_countingIn_0 : decode cX12_countingIn 0 = .ok (.iconst 0, 1) := by decide +kernel
theorem dX12_countingIn_1 : decode cX12_countingIn 1 = .ok (.istore_n 2, 1) := by decide +kernel
theorem dX12_countingIn_2 : decode cX12_countingIn 2 = .ok (.iconst 0, 1) := by decide +kernel
theorem dX12_countingIn_3 : decode cX12_countingIn 3 = .ok (.istore_n 3, 1) := by decide +kernel
theorem dX12_countingIn_4 : decode cX12_countingIn 4 = .ok (.iload_n 3, 1) := by decide +kernel
theorem dX12_countingIn_5 : decode cX12_countingIn 5 = .ok (.aload_n 0, 1) := by decide +kernel
theorem dX12_countingIn_6 : decode cX12_countingIn 6 = .ok (.iload_n 1, 1) := by decide +kernel
theorem dX12_countingIn_7 : decode cX12_countingIn 7 = .ok (.iconst 4, 1) := by decide +kernel
theorem dX12_countingIn_8 : decode cX12_countingIn 8 = .ok (.invokevirtual 101, 3) := by decide +kernel
theorem dX12_countingIn_11 : decode cX12_countingIn 11 = .ok (.if_icmp .ge 26, 3) := by decide +kernel
theorem dX12_countingIn_14 : decode cX12_countingIn 14 = .ok (.iload_n 2, 1) := by decide +kernel
theorem dX12_countingIn_15 : decode cX12_countingIn 15 = .ok (.aload_n 0, 1) := by decide +kernel
theorem dX12_countingIn_16 : decode cX12_countingIn 16 = .ok (.iload_n 1, 1) := by decide +kernel
theorem dX12_countingIn_17 : decode cX12_countingIn 17 = .ok (.iload_n 3, 1) := by decide +kernel
theorem dX12_countingIn_18 : decode cX12_countingIn 18 = .ok (.invokevirtual 120, 3) := by decide +kernel
theorem dX12_countingIn_21 : decode cX12_countingIn 21 = .ok (.ifCond .eq 7, 3) := by decide +kernel
theorem dX12_countingIn_24 : decode cX12_countingIn 24 = .ok (.iconst 1, 1) := by decide +kernel
theorem dX12_countingIn_25 : decode cX12_countingIn 25 = .ok (.goto 4, 3) := by decide +kernel
theorem dX12_countingIn_28 : decode cX12_countingIn 28 = .ok (.iconst 0, 1) := by decide +kernel
theorem dX12_countingIn_29 : decode cX12_countingIn 29 = .ok (.iadd, 1) := by decide +kernel
theorem dX12_countingIn_30 : decode cX12_countingIn 30 = .ok (.istore_n 2, 1) := by decide +kernel
theorem dX12_countingIn_31 : decode cX12_countingIn 31 = .ok (.iinc 3 1, 3) := by decide +kernel
theorem dX12_countingIn_34 : decode cX12_countingIn 34 = .ok (.goto (-30), 3) := by decide +kernel
theorem dX12_countingIn_37 : decode cX12_countingIn 37 = .ok (.iload_n 2, 1) := by decide +kernel
theorem dX12_countingIn_38 : decode cX12_countingIn 38 = .ok (.ireturn, 1) := by decide +kernel
def zX12_countingIn_4 (G : kz_G) (d : Nat) (Qr : Option Value → kz_M → Prop) (Qx : String → kz_M → Prop) (x0 : Nat) (x1 : Int32) (x2 : Int32) (x3 : Int32)  (M : kz_M) : Prop := kz_Z G (d + 3) 0 0 mX12_countingIn Qr Qx 4 [(0, .ref x0), (1, .int x1), (2, .int x2), (3, .int x3)] [] M 0 0
theorem rX12_countingIn_0 {G : kz_G} {d : Nat} {Qr : Option Value → kz_M → Prop} {Qx : String → kz_M → Prop} {a0 : Nat} {p1 : Int32}  {M : kz_M} (h : zX12_countingIn_4 G d Qr Qx a0 p1 0 0 M) : kz_C G (d + 3) 0 0 mX12_countingIn [.ref a0, .int p1] M Qr Qx := by
  refine kz_enter (n := 1) kmX12_countingIn.1 (Nat.le_of_ble_eq_true rfl) (ls := [(0, .ref a0), (1, .int p1)]) rfl ?_
  refine kz_iconst (pc := 0) (v := 0) (by decide) dX12_countingIn_0 ?_
  refine kz_istore_n (pc := 1) (i := 2) (ls' := [(0, .ref a0), (1, .int p1)]) rfl (by decide) rfl dX12_countingIn_1 ?_
  refine kz_iconst (pc := 2) (v := 0) (by decide) dX12_countingIn_2 ?_
  refine kz_istore_n (pc := 3) (i := 3) (ls' := [(2, .int 0), (0, .ref a0), (1, .int p1)]) rfl (by decide) rfl dX12_countingIn_3 ?_
  refine kz_sub [2, 3, 1, 0] rfl ?_
  exact h
theorem rX12_countingIn_4 {G : kz_G} {d : Nat} {Qr : Option Value → kz_M → Prop} {Qx : String → kz_M → Prop} {x0 : Nat} {x1 : Int32} {x2 : Int32} {x3 : Int32}  {M : kz_M} (h : (∃ fs8, (M).1 x0 = some (.inl (11, fs8))) ∧ kz_C G (d + 2) 0 0 mX12_of [.ref x0, .int x1, .int 4] M (fun v M1 => ∃ r2 : Int32, v = some (.int r2) ∧ ((r2 ≤ x3 → Qr (some (.int x2)) M1) ∧ (¬ r2 ≤ x3 → (∃ fs7, (M1).1 x0 = some (.inl (11, fs7))) ∧ kz_C G (d + 2) 0 0 mX12_countsNow [.ref x0, .int x1, .int x3] M1 (fun v M4 => ∃ r5 : Int32, v = some (.int r5) ∧ ((r5 = 0 → zX12_countingIn_4 G d Qr Qx x0 x1 (x2 + 0) (x3 + 1) M4) ∧ (¬ r5 = 0 → zX12_countingIn_4 G d Qr Qx x0 x1 (x2 + 1) (x3 + 1) M4))) Qx))) Qx) : zX12_countingIn_4 G d Qr Qx x0 x1 x2 x3  M := by
  show kz_Z G (d + 3) 0 0 mX12_countingIn Qr Qx 4 [(0, .ref x0), (1, .int x1), (2, .int x2), (3, .int x3)] [] M 0 0
  refine kz_iload_n (pc := 4) 3 (i := 3) rfl rfl dX12_countingIn_4 ?_
  refine kz_aload_n (pc := 5) 0 (v := .ref x0) (i := 0) rfl rfl rfl dX12_countingIn_5 ?_
  refine kz_iload_n (pc := 6) 1 (i := 1) rfl rfl dX12_countingIn_6 ?_
  refine kz_iconst (pc := 7) (v := 4) (by decide) dX12_countingIn_7 ?_
  obtain ⟨⟨fs8, he⟩, h⟩ := h
  refine kz_callV (pc := 8) (μ' := mX12_of) (ci := 11) (q := (RX12, TX12, 32)) (b := x0) (d' := d + 2) (mc' := 0) (ms' := 0) (As := [.int x1, .int 4]) (st := [.int x3]) (c := 0) (sl := 0) kmX12_of kw_1620 (by omega) rfl (Nat.le_of_ble_eq_true rfl) he rfl rfl (Nat.le_refl _) (Nat.le_refl _) dX12_countingIn_8 (fun E M9 hx => kz_Tout rfl (Nat.le_refl _) (Nat.le_refl _) hx) (kz_Cmono (fun v M1 h => ?_) (fun _ _ h => h) h)
  obtain ⟨r2, rfl, h⟩ := h
  show kz_Z G (d + 3) 0 0 mX12_countingIn Qr Qx 11 [(0, .ref x0), (1, .int x1), (2, .int x2), (3, .int x3)] [.int r2, .int x3] M1 0 0
  refine kz_icmp_ge (pc := 11) (tgt := 37) (by decide) dX12_countingIn_11 (fun hb => ?_) (fun hb => ?_)
  · replace h := h.1 hb
    refine kz_iload_n (pc := 37) 2 (i := 2) rfl rfl dX12_countingIn_37 ?_
    exact kz_iret (pc := 38) rfl (Nat.le_refl _) (Nat.le_refl _) dX12_countingIn_38 h
  · replace h := h.2 hb
    refine kz_iload_n (pc := 14) 2 (i := 2) rfl rfl dX12_countingIn_14 ?_
    refine kz_aload_n (pc := 15) 0 (v := .ref x0) (i := 0) rfl rfl rfl dX12_countingIn_15 ?_
    refine kz_iload_n (pc := 16) 1 (i := 1) rfl rfl dX12_countingIn_16 ?_
    refine kz_iload_n (pc := 17) 3 (i := 3) rfl rfl dX12_countingIn_17 ?_
    obtain ⟨⟨fs7, he⟩, h⟩ := h
    refine kz_callV (pc := 18) (μ' := mX12_countsNow) (ci := 11) (q := (RX12, TX12, 32)) (b := x0) (d' := d + 2) (mc' := 0) (ms' := 0) (As := [.int x1, .int x3]) (st := [.int x2]) (c := 0) (sl := 0) kmX12_countsNow kw_1632 (by omega) rfl (Nat.le_of_ble_eq_true rfl) he rfl rfl (Nat.le_refl _) (Nat.le_refl _) dX12_countingIn_18 (fun E M9 hx => kz_Tout rfl (Nat.le_refl _) (Nat.le_refl _) hx) (kz_Cmono (fun v M4 h => ?_) (fun _ _ h => h) h)
    obtain ⟨r5, rfl, h⟩ := h
    show kz_Z G (d + 3) 0 0 mX12_countingIn Qr Qx 21 [(0, .ref x0), (1, .int x1), (2, .int x2), (3, .int x3)] [.int r5, .int x2] M4 0 0
    refine kz_if_eq (pc := 21) (tgt := 28) (by decide) dX12_countingIn_21 (fun hb => ?_) (fun hb => ?_)
    · replace h := h.1 hb
      refine kz_iconst (pc := 28) (v := 0) (by decide) dX12_countingIn_28 ?_
      refine kz_iadd (pc := 29) dX12_countingIn_29 ?_
      refine kz_istore_n (pc := 30) (i := 2) (ls' := [(0, .ref x0), (1, .int x1), (3, .int x3)]) rfl (by decide) rfl dX12_countingIn_30 ?_
      refine kz_iinc (pc := 31) 3 (i := 3) (v := x3 + 1) (ls' := [(2, .int (x2 + 0)), (0, .ref x0), (1, .int x1)]) rfl (congrArg (fun z => x3 + z) (by decide)) (by decide) rfl dX12_countingIn_31 ?_
      refine kz_goto (pc := 34) (tgt := 4) (by decide) dX12_countingIn_34 ?_
      refine kz_sub [2, 3, 1, 0] rfl ?_
      exact h
    · replace h := h.2 hb
      refine kz_iconst (pc := 24) (v := 1) (by decide) dX12_countingIn_24 ?_
      refine kz_goto (pc := 25) (tgt := 29) (by decide) dX12_countingIn_25 ?_
      refine kz_iadd (pc := 29) dX12_countingIn_29 ?_
      refine kz_istore_n (pc := 30) (i := 2) (ls' := [(0, .ref x0), (1, .int x1), (3, .int x3)]) rfl (by decide) rfl dX12_countingIn_30 ?_
      refine kz_iinc (pc := 31) 3 (i := 3) (v := x3 + 1) (ls' := [(2, .int (x2 + 1)), (0, .ref x0), (1, .int x1)]) rfl (congrArg (fun z => x3 + z) (by decide)) (by decide) rfl dX12_countingIn_31 ?_
      refine kz_goto (pc := 34) (tgt := 4) (by decide) dX12_countingIn_34 ?_
      refine kz_sub [2, 3, 1, 0] rfl ?_
      exact h
theorem dX12_countingInAll_0 : decode cX12_countingInAll 0 = .ok (.iconst 0, 1) := by decide +kernel
theorem dX12_countingInAll_1 : decode cX12_countingInAll 1 = .ok (.istore_n 2, 1) := by decide +kernel
theorem dX12_countingInAll_2 : decode cX12_countingInAll 2 = .ok (.iconst 0, 1) := by decide +kernel
theorem dX12_countingInAll_3 : decode cX12_countingInAll 3 = .ok (.istore_n 3, 1) := by decide +kernel
theorem dX12_countingInAll_4 : decode cX12_countingInAll 4 = .ok (.iload_n 3, 1) := by decide +kernel
theorem dX12_countingInAll_5 : decode cX12_countingInAll 5 = .ok (.aload_n 0, 1) := by decide +kernel
theorem dX12_countingInAll_6 : decode cX12_countingInAll 6 = .ok (.getfield 7, 3) := by decide +kernel
theorem dX12_countingInAll_9 : decode cX12_countingInAll 9 = .ok (.iconst 1, 1) := by decide +kernel
theorem dX12_countingInAll_10 : decode cX12_countingInAll 10 = .ok (.iaload, 1) := by decide +kernel
theorem dX12_countingInAll_11 : decode cX12_countingInAll 11 = .ok (.if_icmp .ge 35, 3) := by decide +kernel
theorem dX12_countingInAll_14 : decode cX12_countingInAll 14 = .ok (.iload_n 2, 1) := by decide +kernel
theorem dX12_countingInAll_15 : decode cX12_countingInAll 15 = .ok (.iload_n 1, 1) := by decide +kernel
theorem dX12_countingInAll_16 : decode cX12_countingInAll 16 = .ok (.iconst (-1), 1) := by decide +kernel
theorem dX12_countingInAll_17 : decode cX12_countingInAll 17 = .ok (.if_icmp .eq 12, 3) := by decide +kernel
theorem dX12_countingInAll_20 : decode cX12_countingInAll 20 = .ok (.aload_n 0, 1) := by decide +kernel
theorem dX12_countingInAll_21 : decode cX12_countingInAll 21 = .ok (.iload_n 3, 1) := by decide +kernel
theorem dX12_countingInAll_22 : decode cX12_countingInAll 22 = .ok (.iload_n 1, 1) := by decide +kernel
theorem dX12_countingInAll_23 : decode cX12_countingInAll 23 = .ok (.invokevirtual 116, 3) := by decide +kernel
theorem dX12_countingInAll_26 : decode cX12_countingInAll 26 = .ok (.ifCond .eq 11, 3) := by decide +kernel
theorem dX12_countingInAll_29 : decode cX12_countingInAll 29 = .ok (.aload_n 0, 1) := by decide +kernel
theorem dX12_countingInAll_30 : decode cX12_countingInAll 30 = .ok (.iload_n 3, 1) := by decide +kernel
theorem dX12_countingInAll_31 : decode cX12_countingInAll 31 = .ok (.invokevirtual 317, 3) := by decide +kernel
theorem dX12_countingInAll_34 : decode cX12_countingInAll 34 = .ok (.goto 4, 3) := by decide +kernel
theorem dX12_countingInAll_37 : decode cX12_countingInAll 37 = .ok (.iconst 0, 1) := by decide +kernel
theorem dX12_countingInAll_38 : decode cX12_countingInAll 38 = .ok (.iadd, 1) := by decide +kernel
theorem dX12_countingInAll_39 : decode cX12_countingInAll 39 = .ok (.istore_n 2, 1) := by decide +kernel
theorem dX12_countingInAll_40 : decode cX12_countingInAll 40 = .ok (.iinc 3 1, 3) := by decide +kernel
theorem dX12_countingInAll_43 : decode cX12_countingInAll 43 = .ok (.goto (-39), 3) := by decide +kernel
theorem dX12_countingInAll_46 : decode cX12_countingInAll 46 = .ok (.iload_n 2, 1) := by decide +kernel
theorem dX12_countingInAll_47 : decode cX12_countingInAll 47 = .ok (.ireturn, 1) := by decide +kernel
def zX12_countingInAll_4 (G : kz_G) (d : Nat) (Qr : Option Value → kz_M → Prop) (Qx : String → kz_M → Prop) (x0 : Nat) (x1 : Int32) (x2 : Int32) (x3 : Int32)  (M : kz_M) : Prop := kz_Z G (d + 4) 0 0 mX12_countingInAll Qr Qx 4 [(0, .ref x0), (1, .int x1), (2, .int x2), (3, .int x3)] [] M 0 0
theorem rX12_countingInAll_0 {G : kz_G} {d : Nat} {Qr : Option Value → kz_M → Prop} {Qx : String → kz_M → Prop} {a0 : Nat} {p1 : Int32}  {M : kz_M} (h : zX12_countingInAll_4 G d Qr Qx a0 p1 0 0 M) : kz_C G (d + 4) 0 0 mX12_countingInAll [.ref a0, .int p1] M Qr Qx := by
  refine kz_enter (n := 1) kmX12_countingInAll.1 (Nat.le_of_ble_eq_true rfl) (ls := [(0, .ref a0), (1, .int p1)]) rfl ?_
  refine kz_iconst (pc := 0) (v := 0) (by decide) dX12_countingInAll_0 ?_
  refine kz_istore_n (pc := 1) (i := 2) (ls' := [(0, .ref a0), (1, .int p1)]) rfl (by decide) rfl dX12_countingInAll_1 ?_
  refine kz_iconst (pc := 2) (v := 0) (by decide) dX12_countingInAll_2 ?_
  refine kz_istore_n (pc := 3) (i := 3) (ls' := [(2, .int 0), (0, .ref a0), (1, .int p1)]) rfl (by decide) rfl dX12_countingInAll_3 ?_
  refine kz_sub [2, 3, 1, 0] rfl ?_
  exact h
theorem rX12_countingInAll_4 {G : kz_G} {d : Nat} {Qr : Option Value → kz_M → Prop} {Qx : String → kz_M → Prop} {x0 : Nat} {x1 : Int32} {x2 : Int32} {x3 : Int32}  {M : kz_M} (h : ∃ fs1 v2, (M).1 x0 = some (.inl (11, fs1)) ∧ fs1[0]? = some (.ref v2) ∧ (∃ n3 f4, (M).1 v2 = some (.inr (.int, n3, .inl f4)) ∧ vp_in (1 : Int32) n3 ∧ (((f4 (1 : Int32).toNatClampNeg) ≤ x3 → Qr (some (.int x2)) M) ∧ (¬ (f4 (1 : Int32).toNatClampNeg) ≤ x3 → (x1 = ((-1) : Int32) → (∃ fs8, (M).1 x0 = some (.inl (11, fs8))) ∧ kz_C G (d + 3) 0 0 mX12_countingIn [.ref x0, .int x3] M (fun v M5 => ∃ r6 : Int32, v = some (.int r6) ∧ (zX12_countingInAll_4 G d Qr Qx x0 x1 (x2 + r6) (x3 + 1) M5)) Qx) ∧ (¬ x1 = ((-1) : Int32) → (∃ fs16, (M).1 x0 = some (.inl (11, fs16))) ∧ kz_C G (d + 3) 0 0 mX12_isBy [.ref x0, .int x3, .int x1] M (fun v M9 => ∃ r10 : Int32, v = some (.int r10) ∧ ((r10 = 0 → zX12_countingInAll_4 G d Qr Qx x0 x1 (x2 + 0) (x3 + 1) M9) ∧ (¬ r10 = 0 → (∃ fs15, (M9).1 x0 = some (.inl (11, fs15))) ∧ kz_C G (d + 3) 0 0 mX12_countingIn [.ref x0, .int x3] M9 (fun v M12 => ∃ r13 : Int32, v = some (.int r13) ∧ (zX12_countingInAll_4 G d Qr Qx x0 x1 (x2 + r13) (x3 + 1) M12)) Qx))) Qx))))) : zX12_countingInAll_4 G d Qr Qx x0 x1 x2 x3  M := by
  show kz_Z G (d + 4) 0 0 mX12_countingInAll Qr Qx 4 [(0, .ref x0), (1, .int x1), (2, .int x2), (3, .int x3)] [] M 0 0
  refine kz_iload_n (pc := 4) 3 (i := 3) rfl rfl dX12_countingInAll_4 ?_
  refine kz_aload_n (pc := 5) 0 (v := .ref x0) (i := 0) rfl rfl rfl dX12_countingInAll_5 ?_
  obtain ⟨fs1, v2, hM, hv, h⟩ := h
  refine kz_getf (pc := 6) (k := 0) kcX12 hM hv (by decide) kw_1378 dX12_countingInAll_6 ?_
  refine kz_iconst (pc := 9) (v := 1) (by decide) dX12_countingInAll_9 ?_
  obtain ⟨n3, f4, hM, hi, h⟩ := h
  refine kz_iald (pc := 10) hM hi dX12_countingInAll_10 ?_
  refine kz_icmp_ge (pc := 11) (tgt := 46) (by decide) dX12_countingInAll_11 (fun hb => ?_) (fun hb => ?_)
  · replace h := h.1 hb
    refine kz_iload_n (pc := 46) 2 (i := 2) rfl rfl dX12_countingInAll_46 ?_
    exact kz_iret (pc := 47) rfl (Nat.le_refl _) (Nat.le_refl _) dX12_countingInAll_47 h
  · replace h := h.2 hb
    refine kz_iload_n (pc := 14) 2 (i := 2) rfl rfl dX12_countingInAll_14 ?_
    refine kz_iload_n (pc := 15) 1 (i := 1) rfl rfl dX12_countingInAll_15 ?_
    refine kz_iconst (pc := 16) (v := (-1)) (by decide) dX12_countingInAll_16 ?_
    refine kz_icmp_eq (pc := 17) (tgt := 29) (by decide) dX12_countingInAll_17 (fun hb => ?_) (fun hb => ?_)
    · replace h := h.1 hb
      refine kz_aload_n (pc := 29) 0 (v := .ref x0) (i := 0) rfl rfl rfl dX12_countingInAll_29 ?_
      refine kz_iload_n (pc := 30) 3 (i := 3) rfl rfl dX12_countingInAll_30 ?_
      obtain ⟨⟨fs8, he⟩, h⟩ := h
      refine kz_callV (pc := 31) (μ' := mX12_countingIn) (ci := 11) (q := (RX12, TX12, 32)) (b := x0) (d' := d + 3) (mc' := 0) (ms' := 0) (As := [.int x3]) (st := [.int x2]) (c := 0) (sl := 0) kmX12_countingIn kw_1628 (by omega) rfl (Nat.le_of_ble_eq_true rfl) he rfl rfl (Nat.le_refl _) (Nat.le_refl _) dX12_countingInAll_31 (fun E M9 hx => kz_Tout rfl (Nat.le_refl _) (Nat.le_refl _) hx) (kz_Cmono (fun v M5 h => ?_) (fun _ _ h => h) h)
      obtain ⟨r6, rfl, h⟩ := h
      show kz_Z G (d + 4) 0 0 mX12_countingInAll Qr Qx 34 [(0, .ref x0), (1, .int x1), (2, .int x2), (3, .int x3)] [.int r6, .int x2] M5 0 0
      refine kz_goto (pc := 34) (tgt := 38) (by decide) dX12_countingInAll_34 ?_
      refine kz_iadd (pc := 38) dX12_countingInAll_38 ?_
      refine kz_istore_n (pc := 39) (i := 2) (ls' := [(0, .ref x0), (1, .int x1), (3, .int x3)]) rfl (by decide) rfl dX12_countingInAll_39 ?_
      refine kz_iinc (pc := 40) 3 (i := 3) (v := x3 + 1) (ls' := [(2, .int (x2 + r6)), (0, .ref x0), (1, .int x1)]) rfl (congrArg (fun z => x3 + z) (by decide)) (by decide) rfl dX12_countingInAll_40 ?_
      refine kz_goto (pc := 43) (tgt := 4) (by decide) dX12_countingInAll_43 ?_
      refine kz_sub [2, 3, 1, 0] rfl ?_
      exact h
    · replace h := h.2 hb
      refine kz_aload_n (pc := 20) 0 (v := .ref x0) (i := 0) rfl rfl rfl dX12_countingInAll_20 ?_
      refine kz_iload_n (pc := 21) 3 (i := 3) rfl rfl dX12_countingInAll_21 ?_
      refine kz_iload_n (pc := 22) 1 (i := 1) rfl rfl dX12_countingInAll_22 ?_
      obtain ⟨⟨fs16, he⟩, h⟩ := h
      refine kz_callV (pc := 23) (μ' := mX12_isBy) (ci := 11) (q := (RX12, TX12, 32)) (b := x0) (d' := d + 3) (mc' := 0) (ms' := 0) (As := [.int x3, .int x1]) (st := [.int x2]) (c := 0) (sl := 0) kmX12_isBy kw_1616 (by omega) rfl (Nat.le_of_ble_eq_true rfl) he rfl rfl (Nat.le_refl _) (Nat.le_refl _) dX12_countingInAll_23 (fun E M9 hx => kz_Tout rfl (Nat.le_refl _) (Nat.le_refl _) hx) (kz_Cmono (fun v M9 h => ?_) (fun _ _ h => h) h)
      obtain ⟨r10, rfl, h⟩ := h
      show kz_Z G (d + 4) 0 0 mX12_countingInAll Qr Qx 26 [(0, .ref x0), (1, .int x1), (2, .int x2), (3, .int x3)] [.int r10, .int x2] M9 0 0
      refine kz_if_eq (pc := 26) (tgt := 37) (by decide) dX12_countingInAll_26 (fun hb => ?_) (fun hb => ?_)
      · replace h := h.1 hb
        refine kz_iconst (pc := 37) (v := 0) (by decide) dX12_countingInAll_37 ?_
        refine kz_iadd (pc := 38) dX12_countingInAll_38 ?_
        refine kz_istore_n (pc := 39) (i := 2) (ls' := [(0, .ref x0), (1, .int x1), (3, .int x3)]) rfl (by decide) rfl dX12_countingInAll_39 ?_
        refine kz_iinc (pc := 40) 3 (i := 3) (v := x3 + 1) (ls' := [(2, .int (x2 + 0)), (0, .ref x0), (1, .int x1)]) rfl (congrArg (fun z => x3 + z) (by decide)) (by decide) rfl dX12_countingInAll_40 ?_
        refine kz_goto (pc := 43) (tgt := 4) (by decide) dX12_countingInAll_43 ?_
        refine kz_sub [2, 3, 1, 0] rfl ?_
        exact h
      · replace h := h.2 hb
        refine kz_aload_n (pc := 29) 0 (v := .ref x0) (i := 0) rfl rfl rfl dX12_countingInAll_29 ?_
        refine kz_iload_n (pc := 30) 3 (i := 3) rfl rfl dX12_countingInAll_30 ?_
        obtain ⟨⟨fs15, he⟩, h⟩ := h
        refine kz_callV (pc := 31) (μ' := mX12_countingIn) (ci := 11) (q := (RX12, TX12, 32)) (b := x0) (d' := d + 3) (mc' := 0) (ms' := 0) (As := [.int x3]) (st := [.int x2]) (c := 0) (sl := 0) kmX12_countingIn kw_1628 (by omega) rfl (Nat.le_of_ble_eq_true rfl) he rfl rfl (Nat.le_refl _) (Nat.le_refl _) dX12_countingInAll_31 (fun E M9 hx => kz_Tout rfl (Nat.le_refl _) (Nat.le_refl _) hx) (kz_Cmono (fun v M12 h => ?_) (fun _ _ h => h) h)
        obtain ⟨r13, rfl, h⟩ := h
        show kz_Z G (d + 4) 0 0 mX12_countingInAll Qr Qx 34 [(0, .ref x0), (1, .int x1), (2, .int x2), (3, .int x3)] [.int r13, .int x2] M12 0 0
        refine kz_goto (pc := 34) (tgt := 38) (by decide) dX12_countingInAll_34 ?_
        refine kz_iadd (pc := 38) dX12_countingInAll_38 ?_
        refine kz_istore_n (pc := 39) (i := 2) (ls' := [(0, .ref x0), (1, .int x1), (3, .int x3)]) rfl (by decide) rfl dX12_countingInAll_39 ?_
        refine kz_iinc (pc := 40) 3 (i := 3) (v := x3 + 1) (ls' := [(2, .int (x2 + r13)), (0, .ref x0), (1, .int x1)]) rfl (congrArg (fun z => x3 + z) (by decide)) (by decide) rfl dX12_countingInAll_40 ?_
        refine kz_goto (pc := 43) (tgt := 4) (by decide) dX12_countingInAll_43 ?_
        refine kz_sub [2, 3, 1, 0] rfl ?_
        exact h
theorem dX12_balancesAbove_0 : decode cX12_balancesAbove 0 = .ok (.iconst 0, 1) := by decide +kernel
theorem dX12_balancesAbove_1 : decode cX12_balancesAbove 1 = .ok (.istore_n 1, 1) := by decide +kernel
theorem dX12_balancesAbove_2 : decode cX12_balancesAbove 2 = .ok (.iconst 0, 1) := by decide +kernel
theorem dX12_balancesAbove_3 : decode cX12_balancesAbove 3 = .ok (.istore_n 2, 1) := by decide +kernel
theorem dX12_balancesAbove_4 : decode cX12_balancesAbove 4 = .ok (.iload_n 2, 1) := by decide +kernel
theorem dX12_balancesAbove_5 : decode cX12_balancesAbove 5 = .ok (.aload_n 0, 1) := by decide +kernel
theorem dX12_balancesAbove_6 : decode cX12_balancesAbove 6 = .ok (.getfield 7, 3) := by decide +kernel
theorem dX12_balancesAbove_9 : decode cX12_balancesAbove 9 = .ok (.iconst 0, 1) := by decide +kernel
theorem dX12_balancesAbove_10 : decode cX12_balancesAbove 10 = .ok (.iaload, 1) := by decide +kernel
theorem dX12_balancesAbove_11 : decode cX12_balancesAbove 11 = .ok (.if_icmp .ge 25, 3) := by decide +kernel
theorem dX12_balancesAbove_14 : decode cX12_balancesAbove 14 = .ok (.iload_n 1, 1) := by decide +kernel
theorem dX12_balancesAbove_15 : decode cX12_balancesAbove 15 = .ok (.iconst 0, 1) := by decide +kernel
theorem dX12_balancesAbove_16 : decode cX12_balancesAbove 16 = .ok (.aload_n 0, 1) := by decide +kernel
theorem dX12_balancesAbove_17 : decode cX12_balancesAbove 17 = .ok (.getfield 7, 3) := by decide +kernel
theorem dX12_balancesAbove_20 : decode cX12_balancesAbove 20 = .ok (.bipush 21, 2) := by decide +kernel
theorem dX12_balancesAbove_22 : decode cX12_balancesAbove 22 = .ok (.iload_n 2, 1) := by decide +kernel
theorem dX12_balancesAbove_23 : decode cX12_balancesAbove 23 = .ok (.iadd, 1) := by decide +kernel
theorem dX12_balancesAbove_24 : decode cX12_balancesAbove 24 = .ok (.iaload, 1) := by decide +kernel
theorem dX12_balancesAbove_25 : decode cX12_balancesAbove 25 = .ok (.invokestatic 320, 3) := by decide +kernel
theorem dX12_balancesAbove_28 : decode cX12_balancesAbove 28 = .ok (.iadd, 1) := by decide +kernel
theorem dX12_balancesAbove_29 : decode cX12_balancesAbove 29 = .ok (.istore_n 1, 1) := by decide +kernel
theorem dX12_balancesAbove_30 : decode cX12_balancesAbove 30 = .ok (.iinc 2 1, 3) := by decide +kernel
theorem dX12_balancesAbove_33 : decode cX12_balancesAbove 33 = .ok (.goto (-29), 3) := by decide +kernel
theorem dX12_balancesAbove_36 : decode cX12_balancesAbove 36 = .ok (.iload_n 1, 1) := by decide +kernel
theorem dX12_balancesAbove_37 : decode cX12_balancesAbove 37 = .ok (.ireturn, 1) := by decide +kernel
def zX12_balancesAbove_4 (G : kz_G) (d : Nat) (Qr : Option Value → kz_M → Prop) (Qx : String → kz_M → Prop) (x0 : Nat) (x1 : Int32) (x2 : Int32)  (M : kz_M) : Prop := kz_Z G (d + 1) 0 0 mX12_balancesAbove Qr Qx 4 [(0, .ref x0), (1, .int x1), (2, .int x2)] [] M 0 0
theorem rX12_balancesAbove_0 {G : kz_G} {d : Nat} {Qr : Option Value → kz_M → Prop} {Qx : String → kz_M → Prop} {a0 : Nat}  {M : kz_M} (h : zX12_balancesAbove_4 G d Qr Qx a0 0 0 M) : kz_C G (d + 1) 0 0 mX12_balancesAbove [.ref a0] M Qr Qx := by
  refine kz_enter (n := 0) kmX12_balancesAbove.1 (Nat.le_of_ble_eq_true rfl) (ls := [(0, .ref a0)]) rfl ?_
  refine kz_iconst (pc := 0) (v := 0) (by decide) dX12_balancesAbove_0 ?_
  refine kz_istore_n (pc := 1) (i := 1) (ls' := [(0, .ref a0)]) rfl (by decide) rfl dX12_balancesAbove_1 ?_
  refine kz_iconst (pc := 2) (v := 0) (by decide) dX12_balancesAbove_2 ?_
  refine kz_istore_n (pc := 3) (i := 2) (ls' := [(1, .int 0), (0, .ref a0)]) rfl (by decide) rfl dX12_balancesAbove_3 ?_
  refine kz_sub [2, 1, 0] rfl ?_
  exact h
theorem rX12_balancesAbove_4 {G : kz_G} {d : Nat} {Qr : Option Value → kz_M → Prop} {Qx : String → kz_M → Prop} {x0 : Nat} {x1 : Int32} {x2 : Int32}  {M : kz_M} (h : ∃ fs1 v2, (M).1 x0 = some (.inl (11, fs1)) ∧ fs1[0]? = some (.ref v2) ∧ (∃ n3 f4, (M).1 v2 = some (.inr (.int, n3, .inl f4)) ∧ vp_in (0 : Int32) n3 ∧ (((f4 (0 : Int32).toNatClampNeg) ≤ x2 → Qr (some (.int x1)) M) ∧ (¬ (f4 (0 : Int32).toNatClampNeg) ≤ x2 → ∃ fs5 v6, (M).1 x0 = some (.inl (11, fs5)) ∧ fs5[0]? = some (.ref v6) ∧ (∃ n7 f8, (M).1 v6 = some (.inr (.int, n7, .inl f8)) ∧ vp_in (21 + x2) n7 ∧ (zX12_balancesAbove_4 G d Qr Qx x0 (x1 + (if 0 < (f8 (21 + x2).toNatClampNeg) then (f8 (21 + x2).toNatClampNeg) else 0)) (x2 + 1) M)))))) : zX12_balancesAbove_4 G d Qr Qx x0 x1 x2  M := by
  show kz_Z G (d + 1) 0 0 mX12_balancesAbove Qr Qx 4 [(0, .ref x0), (1, .int x1), (2, .int x2)] [] M 0 0
  refine kz_iload_n (pc := 4) 2 (i := 2) rfl rfl dX12_balancesAbove_4 ?_
  refine kz_aload_n (pc := 5) 0 (v := .ref x0) (i := 0) rfl rfl rfl dX12_balancesAbove_5 ?_
  obtain ⟨fs1, v2, hM, hv, h⟩ := h
  refine kz_getf (pc := 6) (k := 0) kcX12 hM hv (by decide) kw_1378 dX12_balancesAbove_6 ?_
  refine kz_iconst (pc := 9) (v := 0) (by decide) dX12_balancesAbove_9 ?_
  obtain ⟨n3, f4, hM, hi, h⟩ := h
  refine kz_iald (pc := 10) hM hi dX12_balancesAbove_10 ?_
  refine kz_icmp_ge (pc := 11) (tgt := 36) (by decide) dX12_balancesAbove_11 (fun hb => ?_) (fun hb => ?_)
  · replace h := h.1 hb
    refine kz_iload_n (pc := 36) 1 (i := 1) rfl rfl dX12_balancesAbove_36 ?_
    exact kz_iret (pc := 37) rfl (Nat.le_refl _) (Nat.le_refl _) dX12_balancesAbove_37 h
  · replace h := h.2 hb
    refine kz_iload_n (pc := 14) 1 (i := 1) rfl rfl dX12_balancesAbove_14 ?_
    refine kz_iconst (pc := 15) (v := 0) (by decide) dX12_balancesAbove_15 ?_
    refine kz_aload_n (pc := 16) 0 (v := .ref x0) (i := 0) rfl rfl rfl dX12_balancesAbove_16 ?_
    obtain ⟨fs5, v6, hM, hv, h⟩ := h
    refine kz_getf (pc := 17) (k := 0) kcX12 hM hv (by decide) kw_1378 dX12_balancesAbove_17 ?_
    refine kz_bipush (pc := 20) (v := 21) (by decide) dX12_balancesAbove_20 ?_
    refine kz_iload_n (pc := 22) 2 (i := 2) rfl rfl dX12_balancesAbove_22 ?_
    refine kz_iadd (pc := 23) dX12_balancesAbove_23 ?_
    obtain ⟨n7, f8, hM, hi, h⟩ := h
    refine kz_iald (pc := 24) hM hi dX12_balancesAbove_24 ?_
    refine kz_mmax (pc := 25) kw_1648 kw_547 kw_15 kw_548 (by omega) (Nat.le_of_ble_eq_true rfl) (Nat.le_refl _) (Nat.le_refl _) dX12_balancesAbove_25 ?_
    refine kz_iadd (pc := 28) dX12_balancesAbove_28 ?_
    refine kz_istore_n (pc := 29) (i := 1) (ls' := [(0, .ref x0), (2, .int x2)]) rfl (by decide) rfl dX12_balancesAbove_29 ?_
    refine kz_iinc (pc := 30) 2 (i := 2) (v := x2 + 1) (ls' := [(1, .int (x1 + (if 0 < (f8 (21 + x2).toNatClampNeg) then (f8 (21 + x2).toNatClampNeg) else 0))), (0, .ref x0)]) rfl (congrArg (fun z => x2 + z) (by decide)) (by decide) rfl dX12_balancesAbove_30 ?_
    refine kz_goto (pc := 33) (tgt := 4) (by decide) dX12_balancesAbove_33 ?_
    refine kz_sub [2, 1, 0] rfl ?_
    exact h
theorem dX12_count_0 : decode cX12_count 0 = .ok (.aload_n 0, 1) := by decide +kernel
theorem dX12_count_1 : decode cX12_count 1 = .ok (.iconst 0, 1) := by decide +kernel
theorem dX12_count_2 : decode cX12_count 2 = .ok (.putfield 60, 3) := by decide +kernel
theorem dX12_count_5 : decode cX12_count 5 = .ok (.iload_n 1, 1) := by decide +kernel
theorem dX12_count_6 : decode cX12_count 6 = .ok (.tableswitch 107 0 8 #[50, 57, 64, 70, 76, 83, 90, 97, 102], 50) := by decide +kernel
theorem dX12_count_56 : decode cX12_count 56 = .ok (.aload_n 0, 1) := by decide +kernel
theorem dX12_count_57 : decode cX12_count 57 = .ok (.getfield 7, 3) := by decide +kernel
theorem dX12_count_60 : decode cX12_count 60 = .ok (.iconst 0, 1) := by decide +kernel
theorem dX12_count_61 : decode cX12_count 61 = .ok (.iaload, 1) := by decide +kernel
theorem dX12_count_62 : decode cX12_count 62 = .ok (.ireturn, 1) := by decide +kernel
theorem dX12_count_63 : decode cX12_count 63 = .ok (.aload_n 0, 1) := by decide +kernel
theorem dX12_count_64 : decode cX12_count 64 = .ok (.getfield 7, 3) := by decide +kernel
theorem dX12_count_67 : decode cX12_count 67 = .ok (.iconst 1, 1) := by decide +kernel
theorem dX12_count_68 : decode cX12_count 68 = .ok (.iaload, 1) := by decide +kernel
theorem dX12_count_69 : decode cX12_count 69 = .ok (.ireturn, 1) := by decide +kernel
theorem dX12_count_70 : decode cX12_count 70 = .ok (.aload_n 0, 1) := by decide +kernel
theorem dX12_count_71 : decode cX12_count 71 = .ok (.iconst (-1), 1) := by decide +kernel
theorem dX12_count_72 : decode cX12_count 72 = .ok (.invokevirtual 325, 3) := by decide +kernel
theorem dX12_count_75 : decode cX12_count 75 = .ok (.ireturn, 1) := by decide +kernel
theorem dX12_count_76 : decode cX12_count 76 = .ok (.aload_n 0, 1) := by decide +kernel
theorem dX12_count_77 : decode cX12_count 77 = .ok (.iconst (-1), 1) := by decide +kernel
theorem dX12_count_78 : decode cX12_count 78 = .ok (.invokevirtual 328, 3) := by decide +kernel
theorem dX12_count_81 : decode cX12_count 81 = .ok (.ireturn, 1) := by decide +kernel
theorem dX12_count_82 : decode cX12_count 82 = .ok (.aload_n 0, 1) := by decide +kernel
theorem dX12_count_83 : decode cX12_count 83 = .ok (.getfield 7, 3) := by decide +kernel
theorem dX12_count_86 : decode cX12_count 86 = .ok (.iconst 2, 1) := by decide +kernel
theorem dX12_count_87 : decode cX12_count 87 = .ok (.iaload, 1) := by decide +kernel
theorem dX12_count_88 : decode cX12_count 88 = .ok (.ireturn, 1) := by decide +kernel
theorem dX12_count_89 : decode cX12_count 89 = .ok (.aload_n 0, 1) := by decide +kernel
theorem dX12_count_90 : decode cX12_count 90 = .ok (.getfield 7, 3) := by decide +kernel
theorem dX12_count_93 : decode cX12_count 93 = .ok (.iconst 3, 1) := by decide +kernel
theorem dX12_count_94 : decode cX12_count 94 = .ok (.iaload, 1) := by decide +kernel
theorem dX12_count_95 : decode cX12_count 95 = .ok (.ireturn, 1) := by decide +kernel
theorem dX12_count_96 : decode cX12_count 96 = .ok (.aload_n 0, 1) := by decide +kernel
theorem dX12_count_97 : decode cX12_count 97 = .ok (.getfield 7, 3) := by decide +kernel
theorem dX12_count_100 : decode cX12_count 100 = .ok (.iconst 4, 1) := by decide +kernel
theorem dX12_count_101 : decode cX12_count 101 = .ok (.iaload, 1) := by decide +kernel
theorem dX12_count_102 : decode cX12_count 102 = .ok (.ireturn, 1) := by decide +kernel
theorem dX12_count_103 : decode cX12_count 103 = .ok (.aload_n 0, 1) := by decide +kernel
theorem dX12_count_104 : decode cX12_count 104 = .ok (.invokevirtual 331, 3) := by decide +kernel
theorem dX12_count_107 : decode cX12_count 107 = .ok (.ireturn, 1) := by decide +kernel
theorem dX12_count_108 : decode cX12_count 108 = .ok (.aload_n 0, 1) := by decide +kernel
theorem dX12_count_109 : decode cX12_count 109 = .ok (.getfield 78, 3) := by decide +kernel
theorem dX12_count_112 : decode cX12_count 112 = .ok (.ireturn, 1) := by decide +kernel
theorem dX12_count_113 : decode cX12_count 113 = .ok (.aload_n 0, 1) := by decide +kernel
theorem dX12_count_114 : decode cX12_count 114 = .ok (.iconst 1, 1) := by decide +kernel
theorem dX12_count_115 : decode cX12_count 115 = .ok (.putfield 60, 3) := by decide +kernel
theorem dX12_count_118 : decode cX12_count 118 = .ok (.iconst 0, 1) := by decide +kernel
theorem dX12_count_119 : decode cX12_count 119 = .ok (.ireturn, 1) := by decide +kernel
theorem rX12_count_0 {G : kz_G} {d : Nat} {Qr : Option Value → kz_M → Prop} {Qx : String → kz_M → Prop} {a0 : Nat} {p1 : Int32}  {M : kz_M} (h : ∃ fs1, (M).1 a0 = some (.inl (11, fs1)) ∧ 9 < fs1.length ∧ ((p1 = 0 → ∃ fs2 v3, ((kz_up M a0 (.inl (11, fs1.set 9 (.int 0))))).1 a0 = some (.inl (11, fs2)) ∧ fs2[0]? = some (.ref v3) ∧ (∃ n4 f5, ((kz_up M a0 (.inl (11, fs1.set 9 (.int 0))))).1 v3 = some (.inr (.int, n4, .inl f5)) ∧ vp_in (0 : Int32) n4 ∧ (Qr (some (.int (f5 (0 : Int32).toNatClampNeg))) (kz_up M a0 (.inl (11, fs1.set 9 (.int 0))))))) ∧ (p1 = 1 → ∃ fs6 v7, ((kz_up M a0 (.inl (11, fs1.set 9 (.int 0))))).1 a0 = some (.inl (11, fs6)) ∧ fs6[0]? = some (.ref v7) ∧ (∃ n8 f9, ((kz_up M a0 (.inl (11, fs1.set 9 (.int 0))))).1 v7 = some (.inr (.int, n8, .inl f9)) ∧ vp_in (1 : Int32) n8 ∧ (Qr (some (.int (f9 (1 : Int32).toNatClampNeg))) (kz_up M a0 (.inl (11, fs1.set 9 (.int 0))))))) ∧ (p1 = 2 → (∃ fs13, ((kz_up M a0 (.inl (11, fs1.set 9 (.int 0))))).1 a0 = some (.inl (11, fs13))) ∧ kz_C G (d + 4) 0 0 mX12_linesInAll [.ref a0, .int ((-1))] (kz_up M a0 (.inl (11, fs1.set 9 (.int 0)))) (fun v M10 => ∃ r11 : Int32, v = some (.int r11) ∧ (Qr (some (.int r11)) M10)) Qx) ∧ (p1 = 3 → (∃ fs17, ((kz_up M a0 (.inl (11, fs1.set 9 (.int 0))))).1 a0 = some (.inl (11, fs17))) ∧ kz_C G (d + 4) 0 0 mX12_countingInAll [.ref a0, .int ((-1))] (kz_up M a0 (.inl (11, fs1.set 9 (.int 0)))) (fun v M14 => ∃ r15 : Int32, v = some (.int r15) ∧ (Qr (some (.int r15)) M14)) Qx) ∧ (p1 = 4 → ∃ fs18 v19, ((kz_up M a0 (.inl (11, fs1.set 9 (.int 0))))).1 a0 = some (.inl (11, fs18)) ∧ fs18[0]? = some (.ref v19) ∧ (∃ n20 f21, ((kz_up M a0 (.inl (11, fs1.set 9 (.int 0))))).1 v19 = some (.inr (.int, n20, .inl f21)) ∧ vp_in (2 : Int32) n20 ∧ (Qr (some (.int (f21 (2 : Int32).toNatClampNeg))) (kz_up M a0 (.inl (11, fs1.set 9 (.int 0))))))) ∧ (p1 = 5 → ∃ fs22 v23, ((kz_up M a0 (.inl (11, fs1.set 9 (.int 0))))).1 a0 = some (.inl (11, fs22)) ∧ fs22[0]? = some (.ref v23) ∧ (∃ n24 f25, ((kz_up M a0 (.inl (11, fs1.set 9 (.int 0))))).1 v23 = some (.inr (.int, n24, .inl f25)) ∧ vp_in (3 : Int32) n24 ∧ (Qr (some (.int (f25 (3 : Int32).toNatClampNeg))) (kz_up M a0 (.inl (11, fs1.set 9 (.int 0))))))) ∧ (p1 = 6 → ∃ fs26 v27, ((kz_up M a0 (.inl (11, fs1.set 9 (.int 0))))).1 a0 = some (.inl (11, fs26)) ∧ fs26[0]? = some (.ref v27) ∧ (∃ n28 f29, ((kz_up M a0 (.inl (11, fs1.set 9 (.int 0))))).1 v27 = some (.inr (.int, n28, .inl f29)) ∧ vp_in (4 : Int32) n28 ∧ (Qr (some (.int (f29 (4 : Int32).toNatClampNeg))) (kz_up M a0 (.inl (11, fs1.set 9 (.int 0))))))) ∧ (p1 = 7 → (∃ fs33, ((kz_up M a0 (.inl (11, fs1.set 9 (.int 0))))).1 a0 = some (.inl (11, fs33))) ∧ kz_C G (d + 4) 0 0 mX12_balancesAbove [.ref a0] (kz_up M a0 (.inl (11, fs1.set 9 (.int 0)))) (fun v M30 => ∃ r31 : Int32, v = some (.int r31) ∧ (Qr (some (.int r31)) M30)) Qx) ∧ (p1 = 8 → ∃ fs34 v35, ((kz_up M a0 (.inl (11, fs1.set 9 (.int 0))))).1 a0 = some (.inl (11, fs34)) ∧ fs34[7]? = some (.int v35) ∧ (Qr (some (.int v35)) (kz_up M a0 (.inl (11, fs1.set 9 (.int 0)))))) ∧ (¬ p1 = 0 → ¬ p1 = 1 → ¬ p1 = 2 → ¬ p1 = 3 → ¬ p1 = 4 → ¬ p1 = 5 → ¬ p1 = 6 → ¬ p1 = 7 → ¬ p1 = 8 → ∃ fs36, ((kz_up M a0 (.inl (11, fs1.set 9 (.int 0))))).1 a0 = some (.inl (11, fs36)) ∧ 9 < fs36.length ∧ (Qr (some (.int 0)) (kz_up (kz_up M a0 (.inl (11, fs1.set 9 (.int 0)))) a0 (.inl (11, fs36.set 9 (.int 1)))))))) : kz_C G (d + 5) 0 0 mX12_count [.ref a0, .int p1] M Qr Qx := by
  refine kz_enter (n := 1) kmX12_count.1 (Nat.le_of_ble_eq_true rfl) (ls := [(0, .ref a0), (1, .int p1)]) rfl ?_
  refine kz_aload_n (pc := 0) 0 (v := .ref a0) (i := 0) rfl rfl rfl dX12_count_0 ?_
  refine kz_iconst (pc := 1) (v := 0) (by decide) dX12_count_1 ?_
  obtain ⟨fs1, hM, hlen, h⟩ := h
  refine kz_putf (pc := 2) (k := 9) kcX12 hM (by decide) hlen kw_1387 rfl rfl rfl dX12_count_2 ?_
  refine kz_iload_n (pc := 5) 1 (i := 1) rfl rfl dX12_count_5 ?_
  by_cases hk0 : p1 = 0
  · replace h := h.1 hk0
    refine kz_tableIn (pc := 6) (off := 50) (tgt := 56) (by rw [hk0]; decide) (by rw [hk0]; decide) (by rw [hk0]; decide) (by decide) dX12_count_6 ?_
    refine kz_aload_n (pc := 56) 0 (v := .ref a0) (i := 0) rfl rfl rfl dX12_count_56 ?_
    obtain ⟨fs2, v3, hM, hv, h⟩ := h
    refine kz_getf (pc := 57) (k := 0) kcX12 hM hv (by decide) kw_1378 dX12_count_57 ?_
    refine kz_iconst (pc := 60) (v := 0) (by decide) dX12_count_60 ?_
    obtain ⟨n4, f5, hM, hi, h⟩ := h
    refine kz_iald (pc := 61) hM hi dX12_count_61 ?_
    exact kz_iret (pc := 62) rfl (Nat.le_refl _) (Nat.le_refl _) dX12_count_62 h
  by_cases hk1 : p1 = 1
  · replace h := h.2.1 hk1
    refine kz_tableIn (pc := 6) (off := 57) (tgt := 63) (by rw [hk1]; decide) (by rw [hk1]; decide) (by rw [hk1]; decide) (by decide) dX12_count_6 ?_
    refine kz_aload_n (pc := 63) 0 (v := .ref a0) (i := 0) rfl rfl rfl dX12_count_63 ?_
    obtain ⟨fs6, v7, hM, hv, h⟩ := h
    refine kz_getf (pc := 64) (k := 0) kcX12 hM hv (by decide) kw_1378 dX12_count_64 ?_
    refine kz_iconst (pc := 67) (v := 1) (by decide) dX12_count_67 ?_
    obtain ⟨n8, f9, hM, hi, h⟩ := h
    refine kz_iald (pc := 68) hM hi dX12_count_68 ?_
    exact kz_iret (pc := 69) rfl (Nat.le_refl _) (Nat.le_refl _) dX12_count_69 h
  by_cases hk2 : p1 = 2
  · replace h := h.2.2.1 hk2
    refine kz_tableIn (pc := 6) (off := 64) (tgt := 70) (by rw [hk2]; decide) (by rw [hk2]; decide) (by rw [hk2]; decide) (by decide) dX12_count_6 ?_
    refine kz_aload_n (pc := 70) 0 (v := .ref a0) (i := 0) rfl rfl rfl dX12_count_70 ?_
    refine kz_iconst (pc := 71) (v := (-1)) (by decide) dX12_count_71 ?_
    obtain ⟨⟨fs13, he⟩, h⟩ := h
    refine kz_callV (pc := 72) (μ' := mX12_linesInAll) (ci := 11) (q := (RX12, TX12, 32)) (b := a0) (d' := d + 4) (mc' := 0) (ms' := 0) (As := [.int ((-1))]) (st := []) (c := 0) (sl := 0) kmX12_linesInAll kw_1612 (by omega) rfl (Nat.le_of_ble_eq_true rfl) he rfl rfl (Nat.le_refl _) (Nat.le_refl _) dX12_count_72 (fun E M9 hx => kz_Tout rfl (Nat.le_refl _) (Nat.le_refl _) hx) (kz_Cmono (fun v M10 h => ?_) (fun _ _ h => h) h)
    obtain ⟨r11, rfl, h⟩ := h
    show kz_Z G (d + 5) 0 0 mX12_count Qr Qx 75 [(0, .ref a0), (1, .int p1)] [.int r11] M10 0 0
    exact kz_iret (pc := 75) rfl (Nat.le_refl _) (Nat.le_refl _) dX12_count_75 h
  by_cases hk3 : p1 = 3
  · replace h := h.2.2.2.1 hk3
    refine kz_tableIn (pc := 6) (off := 70) (tgt := 76) (by rw [hk3]; decide) (by rw [hk3]; decide) (by rw [hk3]; decide) (by decide) dX12_count_6 ?_
    refine kz_aload_n (pc := 76) 0 (v := .ref a0) (i := 0) rfl rfl rfl dX12_count_76 ?_
    refine kz_iconst (pc := 77) (v := (-1)) (by decide) dX12_count_77 ?_
    obtain ⟨⟨fs17, he⟩, h⟩ := h
    refine kz_callV (pc := 78) (μ' := mX12_countingInAll) (ci := 11) (q := (RX12, TX12, 32)) (b := a0) (d' := d + 4) (mc' := 0) (ms' := 0) (As := [.int ((-1))]) (st := []) (c := 0) (sl := 0) kmX12_countingInAll kw_1624 (by omega) rfl (Nat.le_of_ble_eq_true rfl) he rfl rfl (Nat.le_refl _) (Nat.le_refl _) dX12_count_78 (fun E M9 hx => kz_Tout rfl (Nat.le_refl _) (Nat.le_refl _) hx) (kz_Cmono (fun v M14 h => ?_) (fun _ _ h => h) h)
    obtain ⟨r15, rfl, h⟩ := h
    show kz_Z G (d + 5) 0 0 mX12_count Qr Qx 81 [(0, .ref a0), (1, .int p1)] [.int r15] M14 0 0
    exact kz_iret (pc := 81) rfl (Nat.le_refl _) (Nat.le_refl _) dX12_count_81 h
  by_cases hk4 : p1 = 4
  · replace h := h.2.2.2.2.1 hk4
    refine kz_tableIn (pc := 6) (off := 76) (tgt := 82) (by rw [hk4]; decide) (by rw [hk4]; decide) (by rw [hk4]; decide) (by decide) dX12_count_6 ?_
    refine kz_aload_n (pc := 82) 0 (v := .ref a0) (i := 0) rfl rfl rfl dX12_count_82 ?_
    obtain ⟨fs18, v19, hM, hv, h⟩ := h
    refine kz_getf (pc := 83) (k := 0) kcX12 hM hv (by decide) kw_1378 dX12_count_83 ?_
    refine kz_iconst (pc := 86) (v := 2) (by decide) dX12_count_86 ?_
    obtain ⟨n20, f21, hM, hi, h⟩ := h
    refine kz_iald (pc := 87) hM hi dX12_count_87 ?_
    exact kz_iret (pc := 88) rfl (Nat.le_refl _) (Nat.le_refl _) dX12_count_88 h
  by_cases hk5 : p1 = 5
  · replace h := h.2.2.2.2.2.1 hk5
    refine kz_tableIn (pc := 6) (off := 83) (tgt := 89) (by rw [hk5]; decide) (by rw [hk5]; decide) (by rw [hk5]; decide) (by decide) dX12_count_6 ?_
    refine kz_aload_n (pc := 89) 0 (v := .ref a0) (i := 0) rfl rfl rfl dX12_count_89 ?_
    obtain ⟨fs22, v23, hM, hv, h⟩ := h
    refine kz_getf (pc := 90) (k := 0) kcX12 hM hv (by decide) kw_1378 dX12_count_90 ?_
    refine kz_iconst (pc := 93) (v := 3) (by decide) dX12_count_93 ?_
    obtain ⟨n24, f25, hM, hi, h⟩ := h
    refine kz_iald (pc := 94) hM hi dX12_count_94 ?_
    exact kz_iret (pc := 95) rfl (Nat.le_refl _) (Nat.le_refl _) dX12_count_95 h
  by_cases hk6 : p1 = 6
  · replace h := h.2.2.2.2.2.2.1 hk6
    refine kz_tableIn (pc := 6) (off := 90) (tgt := 96) (by rw [hk6]; decide) (by rw [hk6]; decide) (by rw [hk6]; decide) (by decide) dX12_count_6 ?_
    refine kz_aload_n (pc := 96) 0 (v := .ref a0) (i := 0) rfl rfl rfl dX12_count_96 ?_
    obtain ⟨fs26, v27, hM, hv, h⟩ := h
    refine kz_getf (pc := 97) (k := 0) kcX12 hM hv (by decide) kw_1378 dX12_count_97 ?_
    refine kz_iconst (pc := 100) (v := 4) (by decide) dX12_count_100 ?_
    obtain ⟨n28, f29, hM, hi, h⟩ := h
    refine kz_iald (pc := 101) hM hi dX12_count_101 ?_
    exact kz_iret (pc := 102) rfl (Nat.le_refl _) (Nat.le_refl _) dX12_count_102 h
  by_cases hk7 : p1 = 7
  · replace h := h.2.2.2.2.2.2.2.1 hk7
    refine kz_tableIn (pc := 6) (off := 97) (tgt := 103) (by rw [hk7]; decide) (by rw [hk7]; decide) (by rw [hk7]; decide) (by decide) dX12_count_6 ?_
    refine kz_aload_n (pc := 103) 0 (v := .ref a0) (i := 0) rfl rfl rfl dX12_count_103 ?_
    obtain ⟨⟨fs33, he⟩, h⟩ := h
    refine kz_callV (pc := 104) (μ' := mX12_balancesAbove) (ci := 11) (q := (RX12, TX12, 32)) (b := a0) (d' := d + 4) (mc' := 0) (ms' := 0) (As := []) (st := []) (c := 0) (sl := 0) kmX12_balancesAbove kw_1644 (by omega) rfl (Nat.le_of_ble_eq_true rfl) he rfl rfl (Nat.le_refl _) (Nat.le_refl _) dX12_count_104 (fun E M9 hx => kz_Tout rfl (Nat.le_refl _) (Nat.le_refl _) hx) (kz_Cmono (fun v M30 h => ?_) (fun _ _ h => h) h)
    obtain ⟨r31, rfl, h⟩ := h
    show kz_Z G (d + 5) 0 0 mX12_count Qr Qx 107 [(0, .ref a0), (1, .int p1)] [.int r31] M30 0 0
    exact kz_iret (pc := 107) rfl (Nat.le_refl _) (Nat.le_refl _) dX12_count_107 h
  by_cases hk8 : p1 = 8
  · replace h := h.2.2.2.2.2.2.2.2.1 hk8
    refine kz_tableIn (pc := 6) (off := 102) (tgt := 108) (by rw [hk8]; decide) (by rw [hk8]; decide) (by rw [hk8]; decide) (by decide) dX12_count_6 ?_
    refine kz_aload_n (pc := 108) 0 (v := .ref a0) (i := 0) rfl rfl rfl dX12_count_108 ?_
    obtain ⟨fs34, v35, hM, hv, h⟩ := h
    refine kz_getf (pc := 109) (k := 7) kcX12 hM hv (by decide) kw_1385 dX12_count_109 ?_
    exact kz_iret (pc := 112) rfl (Nat.le_refl _) (Nat.le_refl _) dX12_count_112 h
  replace h := h.2.2.2.2.2.2.2.2.2 hk0 hk1 hk2 hk3 hk4 hk5 hk6 hk7 hk8
  refine kz_tableOut (pc := 6) (tgt := 113) (kz_swout (lo := 0) (n := 9) (by decide) (by decide) (kz_all9 (kz_swne (by decide) hk0) (kz_swne (by decide) hk1) (kz_swne (by decide) hk2) (kz_swne (by decide) hk3) (kz_swne (by decide) hk4) (kz_swne (by decide) hk5) (kz_swne (by decide) hk6) (kz_swne (by decide) hk7) (kz_swne (by decide) hk8))) (by decide) dX12_count_6 ?_
  refine kz_aload_n (pc := 113) 0 (v := .ref a0) (i := 0) rfl rfl rfl dX12_count_113 ?_
  refine kz_iconst (pc := 114) (v := 1) (by decide) dX12_count_114 ?_
  obtain ⟨fs36, hM, hlen, h⟩ := h
  refine kz_putf (pc := 115) (k := 9) kcX12 hM (by decide) hlen kw_1387 rfl rfl rfl dX12_count_115 ?_
  refine kz_iconst (pc := 118) (v := 0) (by decide) dX12_count_118 ?_
  exact kz_iret (pc := 119) rfl (Nat.le_refl _) (Nat.le_refl _) dX12_count_119 h
theorem dX12_setting_0 : decode cX12_setting 0 = .ok (.aload_n 0, 1) := by decide +kernel
theorem dX12_setting_1 : decode cX12_setting 1 = .ok (.iconst 0, 1) := by decide +kernel
theorem dX12_setting_2 : decode cX12_setting 2 = .ok (.putfield 60, 3) := by decide +kernel
theorem dX12_setting_5 : decode cX12_setting 5 = .ok (.aload_n 0, 1) := by decide +kernel
theorem dX12_setting_6 : decode cX12_setting 6 = .ok (.iload_n 1, 1) := by decide +kernel
theorem dX12_setting_7 : decode cX12_setting 7 = .ok (.iconst 0, 1) := by decide +kernel
theorem dX12_setting_8 : decode cX12_setting 8 = .ok (.bipush 9, 2) := by decide +kernel
theorem dX12_setting_10 : decode cX12_setting 10 = .ok (.invokestatic 67, 3) := by decide +kernel
theorem dX12_setting_13 : decode cX12_setting 13 = .ok (.ifCond .ne 7, 3) := by decide +kernel
theorem dX12_setting_16 : decode cX12_setting 16 = .ok (.iconst 1, 1) := by decide +kernel
theorem dX12_setting_17 : decode cX12_setting 17 = .ok (.goto 4, 3) := by decide +kernel
theorem dX12_setting_20 : decode cX12_setting 20 = .ok (.iconst 0, 1) := by decide +kernel
theorem dX12_setting_21 : decode cX12_setting 21 = .ok (.iconst 1, 1) := by decide +kernel
theorem dX12_setting_22 : decode cX12_setting 22 = .ok (.invokevirtual 310, 3) := by decide +kernel
theorem dX12_setting_25 : decode cX12_setting 25 = .ok (.ifCond .eq 7, 3) := by decide +kernel
theorem dX12_setting_28 : decode cX12_setting 28 = .ok (.iconst 0, 1) := by decide +kernel
theorem dX12_setting_29 : decode cX12_setting 29 = .ok (.goto 8, 3) := by decide +kernel
theorem dX12_setting_32 : decode cX12_setting 32 = .ok (.aload_n 0, 1) := by decide +kernel
theorem dX12_setting_33 : decode cX12_setting 33 = .ok (.iload_n 1, 1) := by decide +kernel
theorem dX12_setting_34 : decode cX12_setting 34 = .ok (.invokevirtual 141, 3) := by decide +kernel
theorem dX12_setting_37 : decode cX12_setting 37 = .ok (.ireturn, 1) := by decide +kernel
theorem rX12_setting_0 {G : kz_G} {d : Nat} {Qr : Option Value → kz_M → Prop} {Qx : String → kz_M → Prop} {a0 : Nat} {p1 : Int32}  {M : kz_M} (h : ∃ fs1, (M).1 a0 = some (.inl (11, fs1)) ∧ 9 < fs1.length ∧ (kz_C G (d + 0) 0 0 mX12_inRange [.int p1, .int 0, .int 9] (kz_up M a0 (.inl (11, fs1.set 9 (.int 0)))) (fun v M2 => ∃ r3 : Int32, v = some (.int r3) ∧ ((¬ r3 = 0 → (∃ fs12, (M2).1 a0 = some (.inl (11, fs12))) ∧ kz_C G (d + 0) 0 0 mX12_fails [.ref a0, .int 0, .int 1] M2 (fun v M5 => ∃ r6 : Int32, v = some (.int r6) ∧ ((r6 = 0 → (∃ fs11, (M5).1 a0 = some (.inl (11, fs11))) ∧ kz_C G (d + 0) 0 0 mX12_its [.ref a0, .int p1] M5 (fun v M8 => ∃ r9 : Int32, v = some (.int r9) ∧ (Qr (some (.int r9)) M8)) Qx) ∧ (¬ r6 = 0 → Qr (some (.int 0)) M5))) Qx) ∧ (r3 = 0 → (∃ fs20, (M2).1 a0 = some (.inl (11, fs20))) ∧ kz_C G (d + 0) 0 0 mX12_fails [.ref a0, .int 1, .int 1] M2 (fun v M13 => ∃ r14 : Int32, v = some (.int r14) ∧ ((r14 = 0 → (∃ fs19, (M13).1 a0 = some (.inl (11, fs19))) ∧ kz_C G (d + 0) 0 0 mX12_its [.ref a0, .int p1] M13 (fun v M16 => ∃ r17 : Int32, v = some (.int r17) ∧ (Qr (some (.int r17)) M16)) Qx) ∧ (¬ r14 = 0 → Qr (some (.int 0)) M13))) Qx))) Qx)) : kz_C G (d + 1) 0 0 mX12_setting [.ref a0, .int p1] M Qr Qx := by
  refine kz_enter (n := 1) kmX12_setting.1 (Nat.le_of_ble_eq_true rfl) (ls := [(0, .ref a0), (1, .int p1)]) rfl ?_
  refine kz_aload_n (pc := 0) 0 (v := .ref a0) (i := 0) rfl rfl rfl dX12_setting_0 ?_
  refine kz_iconst (pc := 1) (v := 0) (by decide) dX12_setting_1 ?_
  obtain ⟨fs1, hM, hlen, h⟩ := h
  refine kz_putf (pc := 2) (k := 9) kcX12 hM (by decide) hlen kw_1387 rfl rfl rfl dX12_setting_2 ?_
  refine kz_aload_n (pc := 5) 0 (v := .ref a0) (i := 0) rfl rfl rfl dX12_setting_5 ?_
  refine kz_iload_n (pc := 6) 1 (i := 1) rfl rfl dX12_setting_6 ?_
  refine kz_iconst (pc := 7) (v := 0) (by decide) dX12_setting_7 ?_
  refine kz_bipush (pc := 8) (v := 9) (by decide) dX12_setting_8 ?_
  refine kz_callS (pc := 10) (μ' := mX12_inRange) (d' := d + 0) (mc' := 0) (ms' := 0) (As := [.int p1, .int 0, .int 9]) (st := [.ref a0]) (c := 0) (sl := 0) kmX12_inRange kw_1491 (by omega) rfl (Nat.le_of_ble_eq_true rfl) (Nat.le_refl _) (Nat.le_refl _) dX12_setting_10 (fun E M9 hx => kz_Tout rfl (Nat.le_refl _) (Nat.le_refl _) hx) (kz_Cmono (fun v M2 h => ?_) (fun _ _ h => h) h)
  obtain ⟨r3, rfl, h⟩ := h
  show kz_Z G (d + 1) 0 0 mX12_setting Qr Qx 13 [(0, .ref a0), (1, .int p1)] [.int r3, .ref a0] M2 0 0
  refine kz_if_ne (pc := 13) (tgt := 20) (by decide) dX12_setting_13 (fun hb => ?_) (fun hb => ?_)
  · replace h := h.1 hb
    refine kz_iconst (pc := 20) (v := 0) (by decide) dX12_setting_20 ?_
    refine kz_iconst (pc := 21) (v := 1) (by decide) dX12_setting_21 ?_
    obtain ⟨⟨fs12, he⟩, h⟩ := h
    refine kz_callV (pc := 22) (μ' := mX12_fails) (ci := 11) (q := (RX12, TX12, 32)) (b := a0) (d' := d + 0) (mc' := 0) (ms' := 0) (As := [.int 0, .int 1]) (st := []) (c := 0) (sl := 0) kmX12_fails kw_1653 (by omega) rfl (Nat.le_of_ble_eq_true rfl) he rfl rfl (Nat.le_refl _) (Nat.le_refl _) dX12_setting_22 (fun E M9 hx => kz_Tout rfl (Nat.le_refl _) (Nat.le_refl _) hx) (kz_Cmono (fun v M5 h => ?_) (fun _ _ h => h) h)
    obtain ⟨r6, rfl, h⟩ := h
    show kz_Z G (d + 1) 0 0 mX12_setting Qr Qx 25 [(0, .ref a0), (1, .int p1)] [.int r6] M5 0 0
    refine kz_if_eq (pc := 25) (tgt := 32) (by decide) dX12_setting_25 (fun hb => ?_) (fun hb => ?_)
    · replace h := h.1 hb
      refine kz_aload_n (pc := 32) 0 (v := .ref a0) (i := 0) rfl rfl rfl dX12_setting_32 ?_
      refine kz_iload_n (pc := 33) 1 (i := 1) rfl rfl dX12_setting_33 ?_
      obtain ⟨⟨fs11, he⟩, h⟩ := h
      refine kz_callV (pc := 34) (μ' := mX12_its) (ci := 11) (q := (RX12, TX12, 32)) (b := a0) (d' := d + 0) (mc' := 0) (ms' := 0) (As := [.int p1]) (st := []) (c := 0) (sl := 0) kmX12_its kw_1657 (by omega) rfl (Nat.le_of_ble_eq_true rfl) he rfl rfl (Nat.le_refl _) (Nat.le_refl _) dX12_setting_34 (fun E M9 hx => kz_Tout rfl (Nat.le_refl _) (Nat.le_refl _) hx) (kz_Cmono (fun v M8 h => ?_) (fun _ _ h => h) h)
      obtain ⟨r9, rfl, h⟩ := h
      show kz_Z G (d + 1) 0 0 mX12_setting Qr Qx 37 [(0, .ref a0), (1, .int p1)] [.int r9] M8 0 0
      exact kz_iret (pc := 37) rfl (Nat.le_refl _) (Nat.le_refl _) dX12_setting_37 h
    · replace h := h.2 hb
      refine kz_iconst (pc := 28) (v := 0) (by decide) dX12_setting_28 ?_
      refine kz_goto (pc := 29) (tgt := 37) (by decide) dX12_setting_29 ?_
      exact kz_iret (pc := 37) rfl (Nat.le_refl _) (Nat.le_refl _) dX12_setting_37 h
  · replace h := h.2 hb
    refine kz_iconst (pc := 16) (v := 1) (by decide) dX12_setting_16 ?_
    refine kz_goto (pc := 17) (tgt := 21) (by decide) dX12_setting_17 ?_
    refine kz_iconst (pc := 21) (v := 1) (by decide) dX12_setting_21 ?_
    obtain ⟨⟨fs20, he⟩, h⟩ := h
    refine kz_callV (pc := 22) (μ' := mX12_fails) (ci := 11) (q := (RX12, TX12, 32)) (b := a0) (d' := d + 0) (mc' := 0) (ms' := 0) (As := [.int 1, .int 1]) (st := []) (c := 0) (sl := 0) kmX12_fails kw_1653 (by omega) rfl (Nat.le_of_ble_eq_true rfl) he rfl rfl (Nat.le_refl _) (Nat.le_refl _) dX12_setting_22 (fun E M9 hx => kz_Tout rfl (Nat.le_refl _) (Nat.le_refl _) hx) (kz_Cmono (fun v M13 h => ?_) (fun _ _ h => h) h)
    obtain ⟨r14, rfl, h⟩ := h
    show kz_Z G (d + 1) 0 0 mX12_setting Qr Qx 25 [(0, .ref a0), (1, .int p1)] [.int r14] M13 0 0
    refine kz_if_eq (pc := 25) (tgt := 32) (by decide) dX12_setting_25 (fun hb => ?_) (fun hb => ?_)
    · replace h := h.1 hb
      refine kz_aload_n (pc := 32) 0 (v := .ref a0) (i := 0) rfl rfl rfl dX12_setting_32 ?_
      refine kz_iload_n (pc := 33) 1 (i := 1) rfl rfl dX12_setting_33 ?_
      obtain ⟨⟨fs19, he⟩, h⟩ := h
      refine kz_callV (pc := 34) (μ' := mX12_its) (ci := 11) (q := (RX12, TX12, 32)) (b := a0) (d' := d + 0) (mc' := 0) (ms' := 0) (As := [.int p1]) (st := []) (c := 0) (sl := 0) kmX12_its kw_1657 (by omega) rfl (Nat.le_of_ble_eq_true rfl) he rfl rfl (Nat.le_refl _) (Nat.le_refl _) dX12_setting_34 (fun E M9 hx => kz_Tout rfl (Nat.le_refl _) (Nat.le_refl _) hx) (kz_Cmono (fun v M16 h => ?_) (fun _ _ h => h) h)
      obtain ⟨r17, rfl, h⟩ := h
      show kz_Z G (d + 1) 0 0 mX12_setting Qr Qx 37 [(0, .ref a0), (1, .int p1)] [.int r17] M16 0 0
      exact kz_iret (pc := 37) rfl (Nat.le_refl _) (Nat.le_refl _) dX12_setting_37 h
    · replace h := h.2 hb
      refine kz_iconst (pc := 28) (v := 0) (by decide) dX12_setting_28 ?_
      refine kz_goto (pc := 29) (tgt := 37) (by decide) dX12_setting_29 ?_
      exact kz_iret (pc := 37) rfl (Nat.le_refl _) (Nat.le_refl _) dX12_setting_37 h
theorem dX12_worksOf_0 : decode cX12_worksOf 0 = .ok (.iconst 0, 1) := by decide +kernel
theorem dX12_worksOf_1 : decode cX12_worksOf 1 = .ok (.istore_n 2, 1) := by decide +kernel
theorem dX12_worksOf_2 : decode cX12_worksOf 2 = .ok (.iconst 0, 1) := by decide +kernel
theorem dX12_worksOf_3 : decode cX12_worksOf 3 = .ok (.istore_n 3, 1) := by decide +kernel
theorem dX12_worksOf_4 : decode cX12_worksOf 4 = .ok (.iload_n 3, 1) := by decide +kernel
theorem dX12_worksOf_5 : decode cX12_worksOf 5 = .ok (.aload_n 0, 1) := by decide +kernel
theorem dX12_worksOf_6 : decode cX12_worksOf 6 = .ok (.getfield 7, 3) := by decide +kernel
theorem dX12_worksOf_9 : decode cX12_worksOf 9 = .ok (.iconst 1, 1) := by decide +kernel
theorem dX12_worksOf_10 : decode cX12_worksOf 10 = .ok (.iaload, 1) := by decide +kernel
theorem dX12_worksOf_11 : decode cX12_worksOf 11 = .ok (.if_icmp .ge 26, 3) := by decide +kernel
theorem dX12_worksOf_14 : decode cX12_worksOf 14 = .ok (.iload_n 2, 1) := by decide +kernel
theorem dX12_worksOf_15 : decode cX12_worksOf 15 = .ok (.aload_n 0, 1) := by decide +kernel
theorem dX12_worksOf_16 : decode cX12_worksOf 16 = .ok (.iload_n 3, 1) := by decide +kernel
theorem dX12_worksOf_17 : decode cX12_worksOf 17 = .ok (.iload_n 1, 1) := by decide +kernel
theorem dX12_worksOf_18 : decode cX12_worksOf 18 = .ok (.invokevirtual 116, 3) := by decide +kernel
theorem dX12_worksOf_21 : decode cX12_worksOf 21 = .ok (.ifCond .eq 7, 3) := by decide +kernel
theorem dX12_worksOf_24 : decode cX12_worksOf 24 = .ok (.iconst 1, 1) := by decide +kernel
theorem dX12_worksOf_25 : decode cX12_worksOf 25 = .ok (.goto 4, 3) := by decide +kernel
theorem dX12_worksOf_28 : decode cX12_worksOf 28 = .ok (.iconst 0, 1) := by decide +kernel
theorem dX12_worksOf_29 : decode cX12_worksOf 29 = .ok (.iadd, 1) := by decide +kernel
theorem dX12_worksOf_30 : decode cX12_worksOf 30 = .ok (.istore_n 2, 1) := by decide +kernel
theorem dX12_worksOf_31 : decode cX12_worksOf 31 = .ok (.iinc 3 1, 3) := by decide +kernel
theorem dX12_worksOf_34 : decode cX12_worksOf 34 = .ok (.goto (-30), 3) := by decide +kernel
theorem dX12_worksOf_37 : decode cX12_worksOf 37 = .ok (.iload_n 2, 1) := by decide +kernel
theorem dX12_worksOf_38 : decode cX12_worksOf 38 = .ok (.ireturn, 1) := by decide +kernel
def zX12_worksOf_4 (G : kz_G) (d : Nat) (Qr : Option Value → kz_M → Prop) (Qx : String → kz_M → Prop) (x0 : Nat) (x1 : Int32) (x2 : Int32) (x3 : Int32)  (M : kz_M) : Prop := kz_Z G (d + 2) 0 0 mX12_worksOf Qr Qx 4 [(0, .ref x0), (1, .int x1), (2, .int x2), (3, .int x3)] [] M 0 0
theorem rX12_worksOf_0 {G : kz_G} {d : Nat} {Qr : Option Value → kz_M → Prop} {Qx : String → kz_M → Prop} {a0 : Nat} {p1 : Int32}  {M : kz_M} (h : zX12_worksOf_4 G d Qr Qx a0 p1 0 0 M) : kz_C G (d + 2) 0 0 mX12_worksOf [.ref a0, .int p1] M Qr Qx := by
  refine kz_enter (n := 1) kmX12_worksOf.1 (Nat.le_of_ble_eq_true rfl) (ls := [(0, .ref a0), (1, .int p1)]) rfl ?_
  refine kz_iconst (pc := 0) (v := 0) (by decide) dX12_worksOf_0 ?_
  refine kz_istore_n (pc := 1) (i := 2) (ls' := [(0, .ref a0), (1, .int p1)]) rfl (by decide) rfl dX12_worksOf_1 ?_
  refine kz_iconst (pc := 2) (v := 0) (by decide) dX12_worksOf_2 ?_
  refine kz_istore_n (pc := 3) (i := 3) (ls' := [(2, .int 0), (0, .ref a0), (1, .int p1)]) rfl (by decide) rfl dX12_worksOf_3 ?_
  refine kz_sub [2, 3, 1, 0] rfl ?_
  exact h
theorem rX12_worksOf_4 {G : kz_G} {d : Nat} {Qr : Option Value → kz_M → Prop} {Qx : String → kz_M → Prop} {x0 : Nat} {x1 : Int32} {x2 : Int32} {x3 : Int32}  {M : kz_M} (h : ∃ fs1 v2, (M).1 x0 = some (.inl (11, fs1)) ∧ fs1[0]? = some (.ref v2) ∧ (∃ n3 f4, (M).1 v2 = some (.inr (.int, n3, .inl f4)) ∧ vp_in (1 : Int32) n3 ∧ (((f4 (1 : Int32).toNatClampNeg) ≤ x3 → Qr (some (.int x2)) M) ∧ (¬ (f4 (1 : Int32).toNatClampNeg) ≤ x3 → (∃ fs8, (M).1 x0 = some (.inl (11, fs8))) ∧ kz_C G (d + 1) 0 0 mX12_isBy [.ref x0, .int x3, .int x1] M (fun v M5 => ∃ r6 : Int32, v = some (.int r6) ∧ ((r6 = 0 → zX12_worksOf_4 G d Qr Qx x0 x1 (x2 + 0) (x3 + 1) M5) ∧ (¬ r6 = 0 → zX12_worksOf_4 G d Qr Qx x0 x1 (x2 + 1) (x3 + 1) M5))) Qx)))) : zX12_worksOf_4 G d Qr Qx x0 x1 x2 x3  M := by
  show kz_Z G (d + 2) 0 0 mX12_worksOf Qr Qx 4 [(0, .ref x0), (1, .int x1), (2, .int x2), (3, .int x3)] [] M 0 0
  refine kz_iload_n (pc := 4) 3 (i := 3) rfl rfl dX12_worksOf_4 ?_
  refine kz_aload_n (pc := 5) 0 (v := .ref x0) (i := 0) rfl rfl rfl dX12_worksOf_5 ?_
  obtain ⟨fs1, v2, hM, hv, h⟩ := h
  refine kz_getf (pc := 6) (k := 0) kcX12 hM hv (by decide) kw_1378 dX12_worksOf_6 ?_
  refine kz_iconst (pc := 9) (v := 1) (by decide) dX12_worksOf_9 ?_
  obtain ⟨n3, f4, hM, hi, h⟩ := h
  refine kz_iald (pc := 10) hM hi dX12_worksOf_10 ?_
  refine kz_icmp_ge (pc := 11) (tgt := 37) (by decide) dX12_worksOf_11 (fun hb => ?_) (fun hb => ?_)
  · replace h := h.1 hb
    refine kz_iload_n (pc := 37) 2 (i := 2) rfl rfl dX12_worksOf_37 ?_
    exact kz_iret (pc := 38) rfl (Nat.le_refl _) (Nat.le_refl _) dX12_worksOf_38 h
  · replace h := h.2 hb
    refine kz_iload_n (pc := 14) 2 (i := 2) rfl rfl dX12_worksOf_14 ?_
    refine kz_aload_n (pc := 15) 0 (v := .ref x0) (i := 0) rfl rfl rfl dX12_worksOf_15 ?_
    refine kz_iload_n (pc := 16) 3 (i := 3) rfl rfl dX12_worksOf_16 ?_
    refine kz_iload_n (pc := 17) 1 (i := 1) rfl rfl dX12_worksOf_17 ?_
    obtain ⟨⟨fs8, he⟩, h⟩ := h
    refine kz_callV (pc := 18) (μ' := mX12_isBy) (ci := 11) (q := (RX12, TX12, 32)) (b := x0) (d' := d + 1) (mc' := 0) (ms' := 0) (As := [.int x3, .int x1]) (st := [.int x2]) (c := 0) (sl := 0) kmX12_isBy kw_1616 (by omega) rfl (Nat.le_of_ble_eq_true rfl) he rfl rfl (Nat.le_refl _) (Nat.le_refl _) dX12_worksOf_18 (fun E M9 hx => kz_Tout rfl (Nat.le_refl _) (Nat.le_refl _) hx) (kz_Cmono (fun v M5 h => ?_) (fun _ _ h => h) h)
    obtain ⟨r6, rfl, h⟩ := h
    show kz_Z G (d + 2) 0 0 mX12_worksOf Qr Qx 21 [(0, .ref x0), (1, .int x1), (2, .int x2), (3, .int x3)] [.int r6, .int x2] M5 0 0
    refine kz_if_eq (pc := 21) (tgt := 28) (by decide) dX12_worksOf_21 (fun hb => ?_) (fun hb => ?_)
    · replace h := h.1 hb
      refine kz_iconst (pc := 28) (v := 0) (by decide) dX12_worksOf_28 ?_
      refine kz_iadd (pc := 29) dX12_worksOf_29 ?_
      refine kz_istore_n (pc := 30) (i := 2) (ls' := [(0, .ref x0), (1, .int x1), (3, .int x3)]) rfl (by decide) rfl dX12_worksOf_30 ?_
      refine kz_iinc (pc := 31) 3 (i := 3) (v := x3 + 1) (ls' := [(2, .int (x2 + 0)), (0, .ref x0), (1, .int x1)]) rfl (congrArg (fun z => x3 + z) (by decide)) (by decide) rfl dX12_worksOf_31 ?_
      refine kz_goto (pc := 34) (tgt := 4) (by decide) dX12_worksOf_34 ?_
      refine kz_sub [2, 3, 1, 0] rfl ?_
      exact h
    · replace h := h.2 hb
      refine kz_iconst (pc := 24) (v := 1) (by decide) dX12_worksOf_24 ?_
      refine kz_goto (pc := 25) (tgt := 29) (by decide) dX12_worksOf_25 ?_
      refine kz_iadd (pc := 29) dX12_worksOf_29 ?_
      refine kz_istore_n (pc := 30) (i := 2) (ls' := [(0, .ref x0), (1, .int x1), (3, .int x3)]) rfl (by decide) rfl dX12_worksOf_30 ?_
      refine kz_iinc (pc := 31) 3 (i := 3) (v := x3 + 1) (ls' := [(2, .int (x2 + 1)), (0, .ref x0), (1, .int x1)]) rfl (congrArg (fun z => x3 + z) (by decide)) (by decide) rfl dX12_worksOf_31 ?_
      refine kz_goto (pc := 34) (tgt := 4) (by decide) dX12_worksOf_34 ?_
      refine kz_sub [2, 3, 1, 0] rfl ?_
      exact h
theorem dX12_inState_0 : decode cX12_inState 0 = .ok (.iconst 0, 1) := by decide +kernel
theorem dX12_inState_1 : decode cX12_inState 1 = .ok (.istore_n 3, 1) := by decide +kernel
theorem dX12_inState_2 : decode cX12_inState 2 = .ok (.iconst 0, 1) := by decide +kernel
theorem dX12_inState_3 : decode cX12_inState 3 = .ok (.istore 4, 2) := by decide +kernel
theorem dX12_inState_5 : decode cX12_inState 5 = .ok (.iload 4, 2) := by decide +kernel
theorem dX12_inState_7 : decode cX12_inState 7 = .ok (.aload_n 0, 1) := by decide +kernel
theorem dX12_inState_8 : decode cX12_inState 8 = .ok (.getfield 7, 3) := by decide +kernel
theorem dX12_inState_11 : decode cX12_inState 11 = .ok (.iconst 1, 1) := by decide +kernel
theorem dX12_inState_12 : decode cX12_inState 12 = .ok (.iaload, 1) := by decide +kernel
theorem dX12_inState_13 : decode cX12_inState 13 = .ok (.if_icmp .ge 64, 3) := by decide +kernel
theorem dX12_inState_16 : decode cX12_inState 16 = .ok (.aload_n 0, 1) := by decide +kernel
theorem dX12_inState_17 : decode cX12_inState 17 = .ok (.iload 4, 2) := by decide +kernel
theorem dX12_inState_19 : decode cX12_inState 19 = .ok (.iload_n 1, 1) := by decide +kernel
theorem dX12_inState_20 : decode cX12_inState 20 = .ok (.invokevirtual 116, 3) := by decide +kernel
theorem dX12_inState_23 : decode cX12_inState 23 = .ok (.ifCond .ne 6, 3) := by decide +kernel
theorem dX12_inState_26 : decode cX12_inState 26 = .ok (.goto 45, 3) := by decide +kernel
theorem dX12_inState_29 : decode cX12_inState 29 = .ok (.iconst 0, 1) := by decide +kernel
theorem dX12_inState_30 : decode cX12_inState 30 = .ok (.istore 5, 2) := by decide +kernel
theorem dX12_inState_32 : decode cX12_inState 32 = .ok (.iload 5, 2) := by decide +kernel
theorem dX12_inState_34 : decode cX12_inState 34 = .ok (.aload_n 0, 1) := by decide +kernel
theorem dX12_inState_35 : decode cX12_inState 35 = .ok (.iload 4, 2) := by decide +kernel
theorem dX12_inState_37 : decode cX12_inState 37 = .ok (.iconst 4, 1) := by decide +kernel
theorem dX12_inState_38 : decode cX12_inState 38 = .ok (.invokevirtual 101, 3) := by decide +kernel
theorem dX12_inState_41 : decode cX12_inState 41 = .ok (.if_icmp .ge 30, 3) := by decide +kernel
theorem dX12_inState_44 : decode cX12_inState 44 = .ok (.iload_n 3, 1) := by decide +kernel
theorem dX12_inState_45 : decode cX12_inState 45 = .ok (.aload_n 0, 1) := by decide +kernel
theorem dX12_inState_46 : decode cX12_inState 46 = .ok (.iload 4, 2) := by decide +kernel
theorem dX12_inState_48 : decode cX12_inState 48 = .ok (.iload 5, 2) := by decide +kernel
theorem dX12_inState_50 : decode cX12_inState 50 = .ok (.iconst 2, 1) := by decide +kernel
theorem dX12_inState_51 : decode cX12_inState 51 = .ok (.invokevirtual 93, 3) := by decide +kernel
theorem dX12_inState_54 : decode cX12_inState 54 = .ok (.iload_n 2, 1) := by decide +kernel
theorem dX12_inState_55 : decode cX12_inState 55 = .ok (.if_icmp .ne 7, 3) := by decide +kernel
theorem dX12_inState_58 : decode cX12_inState 58 = .ok (.iconst 1, 1) := by decide +kernel
theorem dX12_inState_59 : decode cX12_inState 59 = .ok (.goto 4, 3) := by decide +kernel
theorem dX12_inState_62 : decode cX12_inState 62 = .ok (.iconst 0, 1) := by decide +kernel
theorem dX12_inState_63 : decode cX12_inState 63 = .ok (.iadd, 1) := by decide +kernel
theorem dX12_inState_64 : decode cX12_inState 64 = .ok (.istore_n 3, 1) := by decide +kernel
theorem dX12_inState_65 : decode cX12_inState 65 = .ok (.iinc 5 1, 3) := by decide +kernel
theorem dX12_inState_68 : decode cX12_inState 68 = .ok (.goto (-36), 3) := by decide +kernel
theorem dX12_inState_71 : decode cX12_inState 71 = .ok (.iinc 4 1, 3) := by decide +kernel
theorem dX12_inState_74 : decode cX12_inState 74 = .ok (.goto (-69), 3) := by decide +kernel
theorem dX12_inState_77 : decode cX12_inState 77 = .ok (.iload_n 3, 1) := by decide +kernel
theorem dX12_inState_78 : decode cX12_inState 78 = .ok (.ireturn, 1) := by decide +kernel
def zX12_inState_5 (G : kz_G) (d : Nat) (Qr : Option Value → kz_M → Prop) (Qx : String → kz_M → Prop) (x0 : Nat) (x1 : Int32) (x2 : Int32) (x3 : Int32) (x4 : Int32)  (M : kz_M) : Prop := kz_Z G (d + 2) 0 0 mX12_inState Qr Qx 5 [(0, .ref x0), (1, .int x1), (2, .int x2), (3, .int x3), (4, .int x4)] [] M 0 0
def zX12_inState_32 (G : kz_G) (d : Nat) (Qr : Option Value → kz_M → Prop) (Qx : String → kz_M → Prop) (x0 : Nat) (x1 : Int32) (x2 : Int32) (x3 : Int32) (x4 : Int32) (x5 : Int32)  (M : kz_M) : Prop := kz_Z G (d + 2) 0 0 mX12_inState Qr Qx 32 [(0, .ref x0), (1, .int x1), (2, .int x2), (3, .int x3), (4, .int x4), (5, .int x5)] [] M 0 0
theorem rX12_inState_0 {G : kz_G} {d : Nat} {Qr : Option Value → kz_M → Prop} {Qx : String → kz_M → Prop} {a0 : Nat} {p1 : Int32} {p2 : Int32}  {M : kz_M} (h : zX12_inState_5 G d Qr Qx a0 p1 p2 0 0 M) : kz_C G (d + 2) 0 0 mX12_inState [.ref a0, .int p1, .int p2] M Qr Qx := by
  refine kz_enter (n := 2) kmX12_inState.1 (Nat.le_of_ble_eq_true rfl) (ls := [(0, .ref a0), (1, .int p1), (2, .int p2)]) rfl ?_
  refine kz_iconst (pc := 0) (v := 0) (by decide) dX12_inState_0 ?_
  refine kz_istore_n (pc := 1) (i := 3) (ls' := [(0, .ref a0), (1, .int p1), (2, .int p2)]) rfl (by decide) rfl dX12_inState_1 ?_
  refine kz_iconst (pc := 2) (v := 0) (by decide) dX12_inState_2 ?_
  refine kz_istore (pc := 3) (i := 4) (ls' := [(3, .int 0), (0, .ref a0), (1, .int p1), (2, .int p2)]) (by decide) rfl dX12_inState_3 ?_
  refine kz_sub [2, 3, 4, 1, 0] rfl ?_
  exact h
theorem rX12_inState_5 {G : kz_G} {d : Nat} {Qr : Option Value → kz_M → Prop} {Qx : String → kz_M → Prop} {x0 : Nat} {x1 : Int32} {x2 : Int32} {x3 : Int32} {x4 : Int32}  {M : kz_M} (h : ∃ fs1 v2, (M).1 x0 = some (.inl (11, fs1)) ∧ fs1[0]? = some (.ref v2) ∧ (∃ n3 f4, (M).1 v2 = some (.inr (.int, n3, .inl f4)) ∧ vp_in (1 : Int32) n3 ∧ (((f4 (1 : Int32).toNatClampNeg) ≤ x4 → Qr (some (.int x3)) M) ∧ (¬ (f4 (1 : Int32).toNatClampNeg) ≤ x4 → (∃ fs8, (M).1 x0 = some (.inl (11, fs8))) ∧ kz_C G (d + 1) 0 0 mX12_isBy [.ref x0, .int x4, .int x1] M (fun v M5 => ∃ r6 : Int32, v = some (.int r6) ∧ ((¬ r6 = 0 → zX12_inState_32 G d Qr Qx x0 x1 x2 x3 x4 0 M5) ∧ (r6 = 0 → zX12_inState_5 G d Qr Qx x0 x1 x2 x3 (x4 + 1) M5))) Qx)))) : zX12_inState_5 G d Qr Qx x0 x1 x2 x3 x4  M := by
  show kz_Z G (d + 2) 0 0 mX12_inState Qr Qx 5 [(0, .ref x0), (1, .int x1), (2, .int x2), (3, .int x3), (4, .int x4)] [] M 0 0
  refine kz_iload (pc := 5) 4 (i := 4) rfl dX12_inState_5 ?_
  refine kz_aload_n (pc := 7) 0 (v := .ref x0) (i := 0) rfl rfl rfl dX12_inState_7 ?_
  obtain ⟨fs1, v2, hM, hv, h⟩ := h
  refine kz_getf (pc := 8) (k := 0) kcX12 hM hv (by decide) kw_1378 dX12_inState_8 ?_
  refine kz_iconst (pc := 11) (v := 1) (by decide) dX12_inState_11 ?_
  obtain ⟨n3, f4, hM, hi, h⟩ := h
  refine kz_iald (pc := 12) hM hi dX12_inState_12 ?_
  refine kz_icmp_ge (pc := 13) (tgt := 77) (by decide) dX12_inState_13 (fun hb => ?_) (fun hb => ?_)
  · replace h := h.1 hb
    refine kz_iload_n (pc := 77) 3 (i := 3) rfl rfl dX12_inState_77 ?_
    exact kz_iret (pc := 78) rfl (Nat.le_refl _) (Nat.le_refl _) dX12_inState_78 h
  · replace h := h.2 hb
    refine kz_aload_n (pc := 16) 0 (v := .ref x0) (i := 0) rfl rfl rfl dX12_inState_16 ?_
    refine kz_iload (pc := 17) 4 (i := 4) rfl dX12_inState_17 ?_
    refine kz_iload_n (pc := 19) 1 (i := 1) rfl rfl dX12_inState_19 ?_
    obtain ⟨⟨fs8, he⟩, h⟩ := h
    refine kz_callV (pc := 20) (μ' := mX12_isBy) (ci := 11) (q := (RX12, TX12, 32)) (b := x0) (d' := d + 1) (mc' := 0) (ms' := 0) (As := [.int x4, .int x1]) (st := []) (c := 0) (sl := 0) kmX12_isBy kw_1616 (by omega) rfl (Nat.le_of_ble_eq_true rfl) he rfl rfl (Nat.le_refl _) (Nat.le_refl _) dX12_inState_20 (fun E M9 hx => kz_Tout rfl (Nat.le_refl _) (Nat.le_refl _) hx) (kz_Cmono (fun v M5 h => ?_) (fun _ _ h => h) h)
    obtain ⟨r6, rfl, h⟩ := h
    show kz_Z G (d + 2) 0 0 mX12_inState Qr Qx 23 [(0, .ref x0), (1, .int x1), (2, .int x2), (3, .int x3), (4, .int x4)] [.int r6] M5 0 0
    refine kz_if_ne (pc := 23) (tgt := 29) (by decide) dX12_inState_23 (fun hb => ?_) (fun hb => ?_)
    · replace h := h.1 hb
      refine kz_iconst (pc := 29) (v := 0) (by decide) dX12_inState_29 ?_
      refine kz_istore (pc := 30) (i := 5) (ls' := [(0, .ref x0), (1, .int x1), (2, .int x2), (3, .int x3), (4, .int x4)]) (by decide) rfl dX12_inState_30 ?_
      refine kz_sub [1, 2, 3, 4, 5, 0] rfl ?_
      exact h
    · replace h := h.2 hb
      refine kz_goto (pc := 26) (tgt := 71) (by decide) dX12_inState_26 ?_
      refine kz_iinc (pc := 71) 4 (i := 4) (v := x4 + 1) (ls' := [(0, .ref x0), (1, .int x1), (2, .int x2), (3, .int x3)]) rfl (congrArg (fun z => x4 + z) (by decide)) (by decide) rfl dX12_inState_71 ?_
      refine kz_goto (pc := 74) (tgt := 5) (by decide) dX12_inState_74 ?_
      refine kz_sub [1, 2, 3, 4, 0] rfl ?_
      exact h
theorem rX12_inState_32 {G : kz_G} {d : Nat} {Qr : Option Value → kz_M → Prop} {Qx : String → kz_M → Prop} {x0 : Nat} {x1 : Int32} {x2 : Int32} {x3 : Int32} {x4 : Int32} {x5 : Int32}  {M : kz_M} (h : (∃ fs8, (M).1 x0 = some (.inl (11, fs8))) ∧ kz_C G (d + 1) 0 0 mX12_of [.ref x0, .int x4, .int 4] M (fun v M1 => ∃ r2 : Int32, v = some (.int r2) ∧ ((r2 ≤ x5 → zX12_inState_5 G d Qr Qx x0 x1 x2 x3 (x4 + 1) M1) ∧ (¬ r2 ≤ x5 → (∃ fs7, (M1).1 x0 = some (.inl (11, fs7))) ∧ kz_C G (d + 1) 0 0 mX12_ofLine [.ref x0, .int x4, .int x5, .int 2] M1 (fun v M4 => ∃ r5 : Int32, v = some (.int r5) ∧ ((¬ r5 = x2 → zX12_inState_32 G d Qr Qx x0 x1 x2 (x3 + 0) x4 (x5 + 1) M4) ∧ (r5 = x2 → zX12_inState_32 G d Qr Qx x0 x1 x2 (x3 + 1) x4 (x5 + 1) M4))) Qx))) Qx) : zX12_inState_32 G d Qr Qx x0 x1 x2 x3 x4 x5  M := by
  show kz_Z G (d + 2) 0 0 mX12_inState Qr Qx 32 [(0, .ref x0), (1, .int x1), (2, .int x2), (3, .int x3), (4, .int x4), (5, .int x5)] [] M 0 0
  refine kz_iload (pc := 32) 5 (i := 5) rfl dX12_inState_32 ?_
  refine kz_aload_n (pc := 34) 0 (v := .ref x0) (i := 0) rfl rfl rfl dX12_inState_34 ?_
  refine kz_iload (pc := 35) 4 (i := 4) rfl dX12_inState_35 ?_
  refine kz_iconst (pc := 37) (v := 4) (by decide) dX12_inState_37 ?_
  obtain ⟨⟨fs8, he⟩, h⟩ := h
  refine kz_callV (pc := 38) (μ' := mX12_of) (ci := 11) (q := (RX12, TX12, 32)) (b := x0) (d' := d + 1) (mc' := 0) (ms' := 0) (As := [.int x4, .int 4]) (st := [.int x5]) (c := 0) (sl := 0) kmX12_of kw_1620 (by omega) rfl (Nat.le_of_ble_eq_true rfl) he rfl rfl (Nat.le_refl _) (Nat.le_refl _) dX12_inState_38 (fun E M9 hx => kz_Tout rfl (Nat.le_refl _) (Nat.le_refl _) hx) (kz_Cmono (fun v M1 h => ?_) (fun _ _ h => h) h)
  obtain ⟨r2, rfl, h⟩ := h
  show kz_Z G (d + 2) 0 0 mX12_inState Qr Qx 41 [(0, .ref x0), (1, .int x1), (2, .int x2), (3, .int x3), (4, .int x4), (5, .int x5)] [.int r2, .int x5] M1 0 0
  refine kz_icmp_ge (pc := 41) (tgt := 71) (by decide) dX12_inState_41 (fun hb => ?_) (fun hb => ?_)
  · replace h := h.1 hb
    refine kz_iinc (pc := 71) 4 (i := 4) (v := x4 + 1) (ls' := [(0, .ref x0), (1, .int x1), (2, .int x2), (3, .int x3), (5, .int x5)]) rfl (congrArg (fun z => x4 + z) (by decide)) (by decide) rfl dX12_inState_71 ?_
    refine kz_goto (pc := 74) (tgt := 5) (by decide) dX12_inState_74 ?_
    refine kz_sub [1, 2, 3, 4, 0] rfl ?_
    exact h
  · replace h := h.2 hb
    refine kz_iload_n (pc := 44) 3 (i := 3) rfl rfl dX12_inState_44 ?_
    refine kz_aload_n (pc := 45) 0 (v := .ref x0) (i := 0) rfl rfl rfl dX12_inState_45 ?_
    refine kz_iload (pc := 46) 4 (i := 4) rfl dX12_inState_46 ?_
    refine kz_iload (pc := 48) 5 (i := 5) rfl dX12_inState_48 ?_
    refine kz_iconst (pc := 50) (v := 2) (by decide) dX12_inState_50 ?_
    obtain ⟨⟨fs7, he⟩, h⟩ := h
    refine kz_callV (pc := 51) (μ' := mX12_ofLine) (ci := 11) (q := (RX12, TX12, 32)) (b := x0) (d' := d + 1) (mc' := 0) (ms' := 0) (As := [.int x4, .int x5, .int 2]) (st := [.int x3]) (c := 0) (sl := 0) kmX12_ofLine kw_1636 (by omega) rfl (Nat.le_of_ble_eq_true rfl) he rfl rfl (Nat.le_refl _) (Nat.le_refl _) dX12_inState_51 (fun E M9 hx => kz_Tout rfl (Nat.le_refl _) (Nat.le_refl _) hx) (kz_Cmono (fun v M4 h => ?_) (fun _ _ h => h) h)
    obtain ⟨r5, rfl, h⟩ := h
    show kz_Z G (d + 2) 0 0 mX12_inState Qr Qx 54 [(0, .ref x0), (1, .int x1), (2, .int x2), (3, .int x3), (4, .int x4), (5, .int x5)] [.int r5, .int x3] M4 0 0
    refine kz_iload_n (pc := 54) 2 (i := 2) rfl rfl dX12_inState_54 ?_
    refine kz_icmp_ne (pc := 55) (tgt := 62) (by decide) dX12_inState_55 (fun hb => ?_) (fun hb => ?_)
    · replace h := h.1 hb
      refine kz_iconst (pc := 62) (v := 0) (by decide) dX12_inState_62 ?_
      refine kz_iadd (pc := 63) dX12_inState_63 ?_
      refine kz_istore_n (pc := 64) (i := 3) (ls' := [(0, .ref x0), (1, .int x1), (2, .int x2), (4, .int x4), (5, .int x5)]) rfl (by decide) rfl dX12_inState_64 ?_
      refine kz_iinc (pc := 65) 5 (i := 5) (v := x5 + 1) (ls' := [(3, .int (x3 + 0)), (0, .ref x0), (1, .int x1), (2, .int x2), (4, .int x4)]) rfl (congrArg (fun z => x5 + z) (by decide)) (by decide) rfl dX12_inState_65 ?_
      refine kz_goto (pc := 68) (tgt := 32) (by decide) dX12_inState_68 ?_
      refine kz_sub [2, 3, 4, 1, 5, 0] rfl ?_
      exact h
    · replace h := h.2 hb
      refine kz_iconst (pc := 58) (v := 1) (by decide) dX12_inState_58 ?_
      refine kz_goto (pc := 59) (tgt := 63) (by decide) dX12_inState_59 ?_
      refine kz_iadd (pc := 63) dX12_inState_63 ?_
      refine kz_istore_n (pc := 64) (i := 3) (ls' := [(0, .ref x0), (1, .int x1), (2, .int x2), (4, .int x4), (5, .int x5)]) rfl (by decide) rfl dX12_inState_64 ?_
      refine kz_iinc (pc := 65) 5 (i := 5) (v := x5 + 1) (ls' := [(3, .int (x3 + 1)), (0, .ref x0), (1, .int x1), (2, .int x2), (4, .int x4)]) rfl (congrArg (fun z => x5 + z) (by decide)) (by decide) rfl dX12_inState_65 ?_
      refine kz_goto (pc := 68) (tgt := 32) (by decide) dX12_inState_68 ?_
      refine kz_sub [2, 3, 4, 1, 5, 0] rfl ?_
      exact h
theorem dX12_caughtOf_0 : decode cX12_caughtOf 0 = .ok (.aload_n 0, 1) := by decide +kernel
theorem dX12_caughtOf_1 : decode cX12_caughtOf 1 = .ok (.iload_n 1, 1) := by decide +kernel
theorem dX12_caughtOf_2 : decode cX12_caughtOf 2 = .ok (.invokevirtual 325, 3) := by decide +kernel
theorem dX12_caughtOf_5 : decode cX12_caughtOf 5 = .ok (.aload_n 0, 1) := by decide +kernel
theorem dX12_caughtOf_6 : decode cX12_caughtOf 6 = .ok (.iload_n 1, 1) := by decide +kernel
theorem dX12_caughtOf_7 : decode cX12_caughtOf 7 = .ok (.iconst 0, 1) := by decide +kernel
theorem dX12_caughtOf_8 : decode cX12_caughtOf 8 = .ok (.invokevirtual 334, 3) := by decide +kernel
theorem dX12_caughtOf_11 : decode cX12_caughtOf 11 = .ok (.isub, 1) := by decide +kernel
theorem dX12_caughtOf_12 : decode cX12_caughtOf 12 = .ok (.ireturn, 1) := by decide +kernel
theorem rX12_caughtOf_0 {G : kz_G} {d : Nat} {Qr : Option Value → kz_M → Prop} {Qx : String → kz_M → Prop} {a0 : Nat} {p1 : Int32}  {M : kz_M} (h : (∃ fs8, (M).1 a0 = some (.inl (11, fs8))) ∧ kz_C G (d + 2) 0 0 mX12_linesInAll [.ref a0, .int p1] M (fun v M1 => ∃ r2 : Int32, v = some (.int r2) ∧ ((∃ fs7, (M1).1 a0 = some (.inl (11, fs7))) ∧ kz_C G (d + 2) 0 0 mX12_inState [.ref a0, .int p1, .int 0] M1 (fun v M4 => ∃ r5 : Int32, v = some (.int r5) ∧ (Qr (some (.int (r2 - r5))) M4)) Qx)) Qx) : kz_C G (d + 3) 0 0 mX12_caughtOf [.ref a0, .int p1] M Qr Qx := by
  refine kz_enter (n := 1) kmX12_caughtOf.1 (Nat.le_of_ble_eq_true rfl) (ls := [(0, .ref a0), (1, .int p1)]) rfl ?_
  refine kz_aload_n (pc := 0) 0 (v := .ref a0) (i := 0) rfl rfl rfl dX12_caughtOf_0 ?_
  refine kz_iload_n (pc := 1) 1 (i := 1) rfl rfl dX12_caughtOf_1 ?_
  obtain ⟨⟨fs8, he⟩, h⟩ := h
  refine kz_callV (pc := 2) (μ' := mX12_linesInAll) (ci := 11) (q := (RX12, TX12, 32)) (b := a0) (d' := d + 2) (mc' := 0) (ms' := 0) (As := [.int p1]) (st := []) (c := 0) (sl := 0) kmX12_linesInAll kw_1612 (by omega) rfl (Nat.le_of_ble_eq_true rfl) he rfl rfl (Nat.le_refl _) (Nat.le_refl _) dX12_caughtOf_2 (fun E M9 hx => kz_Tout rfl (Nat.le_refl _) (Nat.le_refl _) hx) (kz_Cmono (fun v M1 h => ?_) (fun _ _ h => h) h)
  obtain ⟨r2, rfl, h⟩ := h
  show kz_Z G (d + 3) 0 0 mX12_caughtOf Qr Qx 5 [(0, .ref a0), (1, .int p1)] [.int r2] M1 0 0
  refine kz_aload_n (pc := 5) 0 (v := .ref a0) (i := 0) rfl rfl rfl dX12_caughtOf_5 ?_
  refine kz_iload_n (pc := 6) 1 (i := 1) rfl rfl dX12_caughtOf_6 ?_
  refine kz_iconst (pc := 7) (v := 0) (by decide) dX12_caughtOf_7 ?_
  obtain ⟨⟨fs7, he⟩, h⟩ := h
  refine kz_callV (pc := 8) (μ' := mX12_inState) (ci := 11) (q := (RX12, TX12, 32)) (b := a0) (d' := d + 2) (mc' := 0) (ms' := 0) (As := [.int p1, .int 0]) (st := [.int r2]) (c := 0) (sl := 0) kmX12_inState kw_1677 (by omega) rfl (Nat.le_of_ble_eq_true rfl) he rfl rfl (Nat.le_refl _) (Nat.le_refl _) dX12_caughtOf_8 (fun E M9 hx => kz_Tout rfl (Nat.le_refl _) (Nat.le_refl _) hx) (kz_Cmono (fun v M4 h => ?_) (fun _ _ h => h) h)
  obtain ⟨r5, rfl, h⟩ := h
  show kz_Z G (d + 3) 0 0 mX12_caughtOf Qr Qx 11 [(0, .ref a0), (1, .int p1)] [.int r5, .int r2] M4 0 0
  refine kz_isub (pc := 11) dX12_caughtOf_11 ?_
  exact kz_iret (pc := 12) rfl (Nat.le_refl _) (Nat.le_refl _) dX12_caughtOf_12 h
theorem dX12_stoodAhead_0 : decode cX12_stoodAhead 0 = .ok (.aload_n 0, 1) := by decide +kernel
theorem dX12_stoodAhead_1 : decode cX12_stoodAhead 1 = .ok (.iload_n 2, 1) := by decide +kernel
theorem dX12_stoodAhead_2 : decode cX12_stoodAhead 2 = .ok (.iload_n 3, 1) := by decide +kernel
theorem dX12_stoodAhead_3 : decode cX12_stoodAhead 3 = .ok (.invokevirtual 97, 3) := by decide +kernel
theorem dX12_stoodAhead_6 : decode cX12_stoodAhead 6 = .ok (.lstore 4, 2) := by decide +kernel
theorem dX12_stoodAhead_8 : decode cX12_stoodAhead 8 = .ok (.iconst 0, 1) := by decide +kernel
theorem dX12_stoodAhead_9 : decode cX12_stoodAhead 9 = .ok (.istore 6, 2) := by decide +kernel
theorem dX12_stoodAhead_11 : decode cX12_stoodAhead 11 = .ok (.iload 6, 2) := by decide +kernel
theorem dX12_stoodAhead_13 : decode cX12_stoodAhead 13 = .ok (.iload_n 2, 1) := by decide +kernel
theorem dX12_stoodAhead_14 : decode cX12_stoodAhead 14 = .ok (.if_icmp .ge 33, 3) := by decide +kernel
theorem dX12_stoodAhead_17 : decode cX12_stoodAhead 17 = .ok (.aload_n 0, 1) := by decide +kernel
theorem dX12_stoodAhead_18 : decode cX12_stoodAhead 18 = .ok (.iload 6, 2) := by decide +kernel
theorem dX12_stoodAhead_20 : decode cX12_stoodAhead 20 = .ok (.iload_n 1, 1) := by decide +kernel
theorem dX12_stoodAhead_21 : decode cX12_stoodAhead 21 = .ok (.invokevirtual 116, 3) := by decide +kernel
theorem dX12_stoodAhead_24 : decode cX12_stoodAhead 24 = .ok (.ifCond .eq 17, 3) := by decide +kernel
theorem dX12_stoodAhead_27 : decode cX12_stoodAhead 27 = .ok (.aload_n 0, 1) := by decide +kernel
theorem dX12_stoodAhead_28 : decode cX12_stoodAhead 28 = .ok (.iload 6, 2) := by decide +kernel
theorem dX12_stoodAhead_30 : decode cX12_stoodAhead 30 = .ok (.lload 4, 2) := by decide +kernel
theorem dX12_stoodAhead_32 : decode cX12_stoodAhead 32 = .ok (.invokevirtual 112, 3) := by decide +kernel
theorem dX12_stoodAhead_35 : decode cX12_stoodAhead 35 = .ok (.iconst (-1), 1) := by decide +kernel
theorem dX12_stoodAhead_36 : decode cX12_stoodAhead 36 = .ok (.if_icmp .eq 5, 3) := by decide +kernel
theorem dX12_stoodAhead_39 : decode cX12_stoodAhead 39 = .ok (.iconst 1, 1) := by decide +kernel
theorem dX12_stoodAhead_40 : decode cX12_stoodAhead 40 = .ok (.ireturn, 1) := by decide +kernel
theorem dX12_stoodAhead_41 : decode cX12_stoodAhead 41 = .ok (.iinc 6 1, 3) := by decide +kernel
theorem dX12_stoodAhead_44 : decode cX12_stoodAhead 44 = .ok (.goto (-33), 3) := by decide +kernel
theorem dX12_stoodAhead_47 : decode cX12_stoodAhead 47 = .ok (.aload_n 0, 1) := by decide +kernel
theorem dX12_stoodAhead_48 : decode cX12_stoodAhead 48 = .ok (.iload_n 2, 1) := by decide +kernel
theorem dX12_stoodAhead_49 : decode cX12_stoodAhead 49 = .ok (.lload 4, 2) := by decide +kernel
theorem dX12_stoodAhead_51 : decode cX12_stoodAhead 51 = .ok (.invokevirtual 112, 3) := by decide +kernel
theorem dX12_stoodAhead_54 : decode cX12_stoodAhead 54 = .ok (.iload_n 3, 1) := by decide +kernel
theorem dX12_stoodAhead_55 : decode cX12_stoodAhead 55 = .ok (.if_icmp .ge 7, 3) := by decide +kernel
theorem dX12_stoodAhead_58 : decode cX12_stoodAhead 58 = .ok (.iconst 1, 1) := by decide +kernel
theorem dX12_stoodAhead_59 : decode cX12_stoodAhead 59 = .ok (.goto 4, 3) := by decide +kernel
theorem dX12_stoodAhead_62 : decode cX12_stoodAhead 62 = .ok (.iconst 0, 1) := by decide +kernel
theorem dX12_stoodAhead_63 : decode cX12_stoodAhead 63 = .ok (.ireturn, 1) := by decide +kernel
def zX12_stoodAhead_11 (G : kz_G) (d : Nat) (Qr : Option Value → kz_M → Prop) (Qx : String → kz_M → Prop) (x0 : Nat) (x1 : Int32) (x2 : Int32) (x3 : Int32) (x4 : Int64) (x6 : Int32)  (M : kz_M) : Prop := kz_Z G (d + 2) 0 0 mX12_stoodAhead Qr Qx 11 [(0, .ref x0), (1, .int x1), (2, .int x2), (3, .int x3), (4, .long x4), (6, .int x6)] [] M 0 0
theorem rX12_stoodAhead_0 {G : kz_G} {d : Nat} {Qr : Option Value → kz_M → Prop} {Qx : String → kz_M → Prop} {a0 : Nat} {p1 : Int32} {p2 : Int32} {p3 : Int32}  {M : kz_M} (h : (∃ fs4, (M).1 a0 = some (.inl (11, fs4))) ∧ kz_C G (d + 1) 0 0 mX12_word [.ref a0, .int p2, .int p3] M (fun v M1 => ∃ r2 : Int64, v = some (.long r2) ∧ (zX12_stoodAhead_11 G d Qr Qx a0 p1 p2 p3 r2 0 M1)) Qx) : kz_C G (d + 2) 0 0 mX12_stoodAhead [.ref a0, .int p1, .int p2, .int p3] M Qr Qx := by
  refine kz_enter (n := 3) kmX12_stoodAhead.1 (Nat.le_of_ble_eq_true rfl) (ls := [(0, .ref a0), (1, .int p1), (2, .int p2), (3, .int p3)]) rfl ?_
  refine kz_aload_n (pc := 0) 0 (v := .ref a0) (i := 0) rfl rfl rfl dX12_stoodAhead_0 ?_
  refine kz_iload_n (pc := 1) 2 (i := 2) rfl rfl dX12_stoodAhead_1 ?_
  refine kz_iload_n (pc := 2) 3 (i := 3) rfl rfl dX12_stoodAhead_2 ?_
  obtain ⟨⟨fs4, he⟩, h⟩ := h
  refine kz_callV (pc := 3) (μ' := mX12_word) (ci := 11) (q := (RX12, TX12, 32)) (b := a0) (d' := d + 1) (mc' := 0) (ms' := 0) (As := [.int p2, .int p3]) (st := []) (c := 0) (sl := 0) kmX12_word kw_1689 (by omega) rfl (Nat.le_of_ble_eq_true rfl) he rfl rfl (Nat.le_refl _) (Nat.le_refl _) dX12_stoodAhead_3 (fun E M9 hx => kz_Tout rfl (Nat.le_refl _) (Nat.le_refl _) hx) (kz_Cmono (fun v M1 h => ?_) (fun _ _ h => h) h)
  obtain ⟨r2, rfl, h⟩ := h
  show kz_Z G (d + 2) 0 0 mX12_stoodAhead Qr Qx 6 [(0, .ref a0), (1, .int p1), (2, .int p2), (3, .int p3)] [.long r2] M1 0 0
  refine kz_lstore (pc := 6) (i := 4) (ls' := [(0, .ref a0), (1, .int p1), (2, .int p2), (3, .int p3)]) (by decide) rfl dX12_stoodAhead_6 ?_
  refine kz_iconst (pc := 8) (v := 0) (by decide) dX12_stoodAhead_8 ?_
  refine kz_istore (pc := 9) (i := 6) (ls' := [(4, .long r2), (0, .ref a0), (1, .int p1), (2, .int p2), (3, .int p3)]) (by decide) rfl dX12_stoodAhead_9 ?_
  refine kz_sub [2, 3, 4, 5, 1, 0] rfl ?_
  exact h
theorem rX12_stoodAhead_11 {G : kz_G} {d : Nat} {Qr : Option Value → kz_M → Prop} {Qx : String → kz_M → Prop} {x0 : Nat} {x1 : Int32} {x2 : Int32} {x3 : Int32} {x4 : Int64} {x6 : Int32}  {M : kz_M} (h : (x2 ≤ x6 → (∃ fs4, (M).1 x0 = some (.inl (11, fs4))) ∧ kz_C G (d + 1) 0 0 mX12_placeIn [.ref x0, .int x2, .long x4] M (fun v M1 => ∃ r2 : Int32, v = some (.int r2) ∧ ((x3 ≤ r2 → Qr (some (.int 0)) M1) ∧ (¬ x3 ≤ r2 → Qr (some (.int 1)) M1))) Qx) ∧ (¬ x2 ≤ x6 → (∃ fs12, (M).1 x0 = some (.inl (11, fs12))) ∧ kz_C G (d + 1) 0 0 mX12_isBy [.ref x0, .int x6, .int x1] M (fun v M5 => ∃ r6 : Int32, v = some (.int r6) ∧ ((r6 = 0 → zX12_stoodAhead_11 G d Qr Qx x0 x1 x2 x3 x4 (x6 + 1) M5) ∧ (¬ r6 = 0 → (∃ fs11, (M5).1 x0 = some (.inl (11, fs11))) ∧ kz_C G (d + 1) 0 0 mX12_placeIn [.ref x0, .int x6, .long x4] M5 (fun v M8 => ∃ r9 : Int32, v = some (.int r9) ∧ ((r9 = ((-1) : Int32) → zX12_stoodAhead_11 G d Qr Qx x0 x1 x2 x3 x4 (x6 + 1) M8) ∧ (¬ r9 = ((-1) : Int32) → Qr (some (.int 1)) M8))) Qx))) Qx)) : zX12_stoodAhead_11 G d Qr Qx x0 x1 x2 x3 x4 x6  M := by
  show kz_Z G (d + 2) 0 0 mX12_stoodAhead Qr Qx 11 [(0, .ref x0), (1, .int x1), (2, .int x2), (3, .int x3), (4, .long x4), (6, .int x6)] [] M 0 0
  refine kz_iload (pc := 11) 5 (i := 6) rfl dX12_stoodAhead_11 ?_
  refine kz_iload_n (pc := 13) 2 (i := 2) rfl rfl dX12_stoodAhead_13 ?_
  refine kz_icmp_ge (pc := 14) (tgt := 47) (by decide) dX12_stoodAhead_14 (fun hb => ?_) (fun hb => ?_)
  · replace h := h.1 hb
    refine kz_aload_n (pc := 47) 0 (v := .ref x0) (i := 0) rfl rfl rfl dX12_stoodAhead_47 ?_
    refine kz_iload_n (pc := 48) 2 (i := 2) rfl rfl dX12_stoodAhead_48 ?_
    refine kz_lload (pc := 49) 4 (i := 4) rfl dX12_stoodAhead_49 ?_
    obtain ⟨⟨fs4, he⟩, h⟩ := h
    refine kz_callV (pc := 51) (μ' := mX12_placeIn) (ci := 11) (q := (RX12, TX12, 32)) (b := x0) (d' := d + 1) (mc' := 0) (ms' := 0) (As := [.int x2, .long x4]) (st := []) (c := 0) (sl := 0) kmX12_placeIn kw_1693 (by omega) rfl (Nat.le_of_ble_eq_true rfl) he rfl rfl (Nat.le_refl _) (Nat.le_refl _) dX12_stoodAhead_51 (fun E M9 hx => kz_Tout rfl (Nat.le_refl _) (Nat.le_refl _) hx) (kz_Cmono (fun v M1 h => ?_) (fun _ _ h => h) h)
    obtain ⟨r2, rfl, h⟩ := h
    show kz_Z G (d + 2) 0 0 mX12_stoodAhead Qr Qx 54 [(0, .ref x0), (1, .int x1), (2, .int x2), (3, .int x3), (4, .long x4), (6, .int x6)] [.int r2] M1 0 0
    refine kz_iload_n (pc := 54) 3 (i := 3) rfl rfl dX12_stoodAhead_54 ?_
    refine kz_icmp_ge (pc := 55) (tgt := 62) (by decide) dX12_stoodAhead_55 (fun hb => ?_) (fun hb => ?_)
    · replace h := h.1 hb
      refine kz_iconst (pc := 62) (v := 0) (by decide) dX12_stoodAhead_62 ?_
      exact kz_zret (pc := 63) (ty := .boolean) rfl (by decide) (Nat.le_refl _) (Nat.le_refl _) dX12_stoodAhead_63 h
    · replace h := h.2 hb
      refine kz_iconst (pc := 58) (v := 1) (by decide) dX12_stoodAhead_58 ?_
      refine kz_goto (pc := 59) (tgt := 63) (by decide) dX12_stoodAhead_59 ?_
      exact kz_zret (pc := 63) (ty := .boolean) rfl (by decide) (Nat.le_refl _) (Nat.le_refl _) dX12_stoodAhead_63 h
  · replace h := h.2 hb
    refine kz_aload_n (pc := 17) 0 (v := .ref x0) (i := 0) rfl rfl rfl dX12_stoodAhead_17 ?_
    refine kz_iload (pc := 18) 5 (i := 6) rfl dX12_stoodAhead_18 ?_
    refine kz_iload_n (pc := 20) 1 (i := 1) rfl rfl dX12_stoodAhead_20 ?_
    obtain ⟨⟨fs12, he⟩, h⟩ := h
    refine kz_callV (pc := 21) (μ' := mX12_isBy) (ci := 11) (q := (RX12, TX12, 32)) (b := x0) (d' := d + 1) (mc' := 0) (ms' := 0) (As := [.int x6, .int x1]) (st := []) (c := 0) (sl := 0) kmX12_isBy kw_1616 (by omega) rfl (Nat.le_of_ble_eq_true rfl) he rfl rfl (Nat.le_refl _) (Nat.le_refl _) dX12_stoodAhead_21 (fun E M9 hx => kz_Tout rfl (Nat.le_refl _) (Nat.le_refl _) hx) (kz_Cmono (fun v M5 h => ?_) (fun _ _ h => h) h)
    obtain ⟨r6, rfl, h⟩ := h
    show kz_Z G (d + 2) 0 0 mX12_stoodAhead Qr Qx 24 [(0, .ref x0), (1, .int x1), (2, .int x2), (3, .int x3), (4, .long x4), (6, .int x6)] [.int r6] M5 0 0
    refine kz_if_eq (pc := 24) (tgt := 41) (by decide) dX12_stoodAhead_24 (fun hb => ?_) (fun hb => ?_)
    · replace h := h.1 hb
      refine kz_iinc (pc := 41) 5 (i := 6) (v := x6 + 1) (ls' := [(0, .ref x0), (1, .int x1), (2, .int x2), (3, .int x3), (4, .long x4)]) rfl (congrArg (fun z => x6 + z) (by decide)) (by decide) rfl dX12_stoodAhead_41 ?_
      refine kz_goto (pc := 44) (tgt := 11) (by decide) dX12_stoodAhead_44 ?_
      refine kz_sub [1, 2, 3, 4, 5, 0] rfl ?_
      exact h
    · replace h := h.2 hb
      refine kz_aload_n (pc := 27) 0 (v := .ref x0) (i := 0) rfl rfl rfl dX12_stoodAhead_27 ?_
      refine kz_iload (pc := 28) 5 (i := 6) rfl dX12_stoodAhead_28 ?_
      refine kz_lload (pc := 30) 4 (i := 4) rfl dX12_stoodAhead_30 ?_
      obtain ⟨⟨fs11, he⟩, h⟩ := h
      refine kz_callV (pc := 32) (μ' := mX12_placeIn) (ci := 11) (q := (RX12, TX12, 32)) (b := x0) (d' := d + 1) (mc' := 0) (ms' := 0) (As := [.int x6, .long x4]) (st := []) (c := 0) (sl := 0) kmX12_placeIn kw_1693 (by omega) rfl (Nat.le_of_ble_eq_true rfl) he rfl rfl (Nat.le_refl _) (Nat.le_refl _) dX12_stoodAhead_32 (fun E M9 hx => kz_Tout rfl (Nat.le_refl _) (Nat.le_refl _) hx) (kz_Cmono (fun v M8 h => ?_) (fun _ _ h => h) h)
      obtain ⟨r9, rfl, h⟩ := h
      show kz_Z G (d + 2) 0 0 mX12_stoodAhead Qr Qx 35 [(0, .ref x0), (1, .int x1), (2, .int x2), (3, .int x3), (4, .long x4), (6, .int x6)] [.int r9] M8 0 0
      refine kz_iconst (pc := 35) (v := (-1)) (by decide) dX12_stoodAhead_35 ?_
      refine kz_icmp_eq (pc := 36) (tgt := 41) (by decide) dX12_stoodAhead_36 (fun hb => ?_) (fun hb => ?_)
      · replace h := h.1 hb
        refine kz_iinc (pc := 41) 5 (i := 6) (v := x6 + 1) (ls' := [(0, .ref x0), (1, .int x1), (2, .int x2), (3, .int x3), (4, .long x4)]) rfl (congrArg (fun z => x6 + z) (by decide)) (by decide) rfl dX12_stoodAhead_41 ?_
        refine kz_goto (pc := 44) (tgt := 11) (by decide) dX12_stoodAhead_44 ?_
        refine kz_sub [1, 2, 3, 4, 5, 0] rfl ?_
        exact h
      · replace h := h.2 hb
        refine kz_iconst (pc := 39) (v := 1) (by decide) dX12_stoodAhead_39 ?_
        exact kz_zret (pc := 40) (ty := .boolean) rfl (by decide) (Nat.le_refl _) (Nat.le_refl _) dX12_stoodAhead_40 h
theorem dX12_wordsUsed_0 : decode cX12_wordsUsed 0 = .ok (.iconst 0, 1) := by decide +kernel
theorem dX12_wordsUsed_1 : decode cX12_wordsUsed 1 = .ok (.istore_n 3, 1) := by decide +kernel
theorem dX12_wordsUsed_2 : decode cX12_wordsUsed 2 = .ok (.iconst 0, 1) := by decide +kernel
theorem dX12_wordsUsed_3 : decode cX12_wordsUsed 3 = .ok (.istore 4, 2) := by decide +kernel
theorem dX12_wordsUsed_5 : decode cX12_wordsUsed 5 = .ok (.iload 4, 2) := by decide +kernel
theorem dX12_wordsUsed_7 : decode cX12_wordsUsed 7 = .ok (.aload_n 0, 1) := by decide +kernel
theorem dX12_wordsUsed_8 : decode cX12_wordsUsed 8 = .ok (.getfield 7, 3) := by decide +kernel
theorem dX12_wordsUsed_11 : decode cX12_wordsUsed 11 = .ok (.iconst 1, 1) := by decide +kernel
theorem dX12_wordsUsed_12 : decode cX12_wordsUsed 12 = .ok (.iaload, 1) := by decide +kernel
theorem dX12_wordsUsed_13 : decode cX12_wordsUsed 13 = .ok (.if_icmp .ge 86, 3) := by decide +kernel
theorem dX12_wordsUsed_16 : decode cX12_wordsUsed 16 = .ok (.aload_n 0, 1) := by decide +kernel
theorem dX12_wordsUsed_17 : decode cX12_wordsUsed 17 = .ok (.iload 4, 2) := by decide +kernel
theorem dX12_wordsUsed_19 : decode cX12_wordsUsed 19 = .ok (.iload_n 1, 1) := by decide +kernel
theorem dX12_wordsUsed_20 : decode cX12_wordsUsed 20 = .ok (.invokevirtual 116, 3) := by decide +kernel
theorem dX12_wordsUsed_23 : decode cX12_wordsUsed 23 = .ok (.ifCond .ne 6, 3) := by decide +kernel
theorem dX12_wordsUsed_26 : decode cX12_wordsUsed 26 = .ok (.goto 67, 3) := by decide +kernel
theorem dX12_wordsUsed_29 : decode cX12_wordsUsed 29 = .ok (.iconst 0, 1) := by decide +kernel
theorem dX12_wordsUsed_30 : decode cX12_wordsUsed 30 = .ok (.istore 5, 2) := by decide +kernel
theorem dX12_wordsUsed_32 : decode cX12_wordsUsed 32 = .ok (.iload 5, 2) := by decide +kernel
theorem dX12_wordsUsed_34 : decode cX12_wordsUsed 34 = .ok (.aload_n 0, 1) := by decide +kernel
theorem dX12_wordsUsed_35 : decode cX12_wordsUsed 35 = .ok (.iload 4, 2) := by decide +kernel
theorem dX12_wordsUsed_37 : decode cX12_wordsUsed 37 = .ok (.iconst 3, 1) := by decide +kernel
theorem dX12_wordsUsed_38 : decode cX12_wordsUsed 38 = .ok (.invokevirtual 101, 3) := by decide +kernel
theorem dX12_wordsUsed_41 : decode cX12_wordsUsed 41 = .ok (.if_icmp .ge 52, 3) := by decide +kernel
theorem dX12_wordsUsed_44 : decode cX12_wordsUsed 44 = .ok (.iload_n 3, 1) := by decide +kernel
theorem dX12_wordsUsed_45 : decode cX12_wordsUsed 45 = .ok (.aload_n 0, 1) := by decide +kernel
theorem dX12_wordsUsed_46 : decode cX12_wordsUsed 46 = .ok (.iload_n 1, 1) := by decide +kernel
theorem dX12_wordsUsed_47 : decode cX12_wordsUsed 47 = .ok (.iload 4, 2) := by decide +kernel
theorem dX12_wordsUsed_49 : decode cX12_wordsUsed 49 = .ok (.iload 5, 2) := by decide +kernel
theorem dX12_wordsUsed_51 : decode cX12_wordsUsed 51 = .ok (.invokevirtual 337, 3) := by decide +kernel
theorem dX12_wordsUsed_54 : decode cX12_wordsUsed 54 = .ok (.ifCond .ne 30, 3) := by decide +kernel
theorem dX12_wordsUsed_57 : decode cX12_wordsUsed 57 = .ok (.aload_n 0, 1) := by decide +kernel
theorem dX12_wordsUsed_58 : decode cX12_wordsUsed 58 = .ok (.aload_n 0, 1) := by decide +kernel
theorem dX12_wordsUsed_59 : decode cX12_wordsUsed 59 = .ok (.iload 4, 2) := by decide +kernel
theorem dX12_wordsUsed_61 : decode cX12_wordsUsed 61 = .ok (.iload 5, 2) := by decide +kernel
theorem dX12_wordsUsed_63 : decode cX12_wordsUsed 63 = .ok (.invokevirtual 97, 3) := by decide +kernel
theorem dX12_wordsUsed_66 : decode cX12_wordsUsed 66 = .ok (.iload_n 1, 1) := by decide +kernel
theorem dX12_wordsUsed_67 : decode cX12_wordsUsed 67 = .ok (.aload_n 0, 1) := by decide +kernel
theorem dX12_wordsUsed_68 : decode cX12_wordsUsed 68 = .ok (.getfield 7, 3) := by decide +kernel
theorem dX12_wordsUsed_71 : decode cX12_wordsUsed 71 = .ok (.iconst 1, 1) := by decide +kernel
theorem dX12_wordsUsed_72 : decode cX12_wordsUsed 72 = .ok (.iaload, 1) := by decide +kernel
theorem dX12_wordsUsed_73 : decode cX12_wordsUsed 73 = .ok (.invokevirtual 153, 3) := by decide +kernel
theorem dX12_wordsUsed_76 : decode cX12_wordsUsed 76 = .ok (.iload_n 2, 1) := by decide +kernel
theorem dX12_wordsUsed_77 : decode cX12_wordsUsed 77 = .ok (.if_icmp .lt 7, 3) := by decide +kernel
theorem dX12_wordsUsed_80 : decode cX12_wordsUsed 80 = .ok (.iconst 1, 1) := by decide +kernel
theorem dX12_wordsUsed_81 : decode cX12_wordsUsed 81 = .ok (.goto 4, 3) := by decide +kernel
theorem dX12_wordsUsed_84 : decode cX12_wordsUsed 84 = .ok (.iconst 0, 1) := by decide +kernel
theorem dX12_wordsUsed_85 : decode cX12_wordsUsed 85 = .ok (.iadd, 1) := by decide +kernel
theorem dX12_wordsUsed_86 : decode cX12_wordsUsed 86 = .ok (.istore_n 3, 1) := by decide +kernel
theorem dX12_wordsUsed_87 : decode cX12_wordsUsed 87 = .ok (.iinc 5 1, 3) := by decide +kernel
theorem dX12_wordsUsed_90 : decode cX12_wordsUsed 90 = .ok (.goto (-58), 3) := by decide +kernel
theorem dX12_wordsUsed_93 : decode cX12_wordsUsed 93 = .ok (.iinc 4 1, 3) := by decide +kernel
theorem dX12_wordsUsed_96 : decode cX12_wordsUsed 96 = .ok (.goto (-91), 3) := by decide +kernel
theorem dX12_wordsUsed_99 : decode cX12_wordsUsed 99 = .ok (.iload_n 3, 1) := by decide +kernel
theorem dX12_wordsUsed_100 : decode cX12_wordsUsed 100 = .ok (.ireturn, 1) := by decide +kernel
def zX12_wordsUsed_5 (G : kz_G) (d : Nat) (Qr : Option Value → kz_M → Prop) (Qx : String → kz_M → Prop) (x0 : Nat) (x1 : Int32) (x2 : Int32) (x3 : Int32) (x4 : Int32)  (M : kz_M) : Prop := kz_Z G (d + 5) 0 0 mX12_wordsUsed Qr Qx 5 [(0, .ref x0), (1, .int x1), (2, .int x2), (3, .int x3), (4, .int x4)] [] M 0 0
def zX12_wordsUsed_32 (G : kz_G) (d : Nat) (Qr : Option Value → kz_M → Prop) (Qx : String → kz_M → Prop) (x0 : Nat) (x1 : Int32) (x2 : Int32) (x3 : Int32) (x4 : Int32) (x5 : Int32)  (M : kz_M) : Prop := kz_Z G (d + 5) 0 0 mX12_wordsUsed Qr Qx 32 [(0, .ref x0), (1, .int x1), (2, .int x2), (3, .int x3), (4, .int x4), (5, .int x5)] [] M 0 0
theorem rX12_wordsUsed_0 {G : kz_G} {d : Nat} {Qr : Option Value → kz_M → Prop} {Qx : String → kz_M → Prop} {a0 : Nat} {p1 : Int32} {p2 : Int32}  {M : kz_M} (h : zX12_wordsUsed_5 G d Qr Qx a0 p1 p2 0 0 M) : kz_C G (d + 5) 0 0 mX12_wordsUsed [.ref a0, .int p1, .int p2] M Qr Qx := by
  refine kz_enter (n := 2) kmX12_wordsUsed.1 (Nat.le_of_ble_eq_true rfl) (ls := [(0, .ref a0), (1, .int p1), (2, .int p2)]) rfl ?_
  refine kz_iconst (pc := 0) (v := 0) (by decide) dX12_wordsUsed_0 ?_
  refine kz_istore_n (pc := 1) (i := 3) (ls' := [(0, .ref a0), (1, .int p1), (2, .int p2)]) rfl (by decide) rfl dX12_wordsUsed_1 ?_
  refine kz_iconst (pc := 2) (v := 0) (by decide) dX12_wordsUsed_2 ?_
  refine kz_istore (pc := 3) (i := 4) (ls' := [(3, .int 0), (0, .ref a0), (1, .int p1), (2, .int p2)]) (by decide) rfl dX12_wordsUsed_3 ?_
  refine kz_sub [2, 3, 4, 1, 0] rfl ?_
  exact h
theorem rX12_wordsUsed_5 {G : kz_G} {d : Nat} {Qr : Option Value → kz_M → Prop} {Qx : String → kz_M → Prop} {x0 : Nat} {x1 : Int32} {x2 : Int32} {x3 : Int32} {x4 : Int32}  {M : kz_M} (h : ∃ fs1 v2, (M).1 x0 = some (.inl (11, fs1)) ∧ fs1[0]? = some (.ref v2) ∧ (∃ n3 f4, (M).1 v2 = some (.inr (.int, n3, .inl f4)) ∧ vp_in (1 : Int32) n3 ∧ (((f4 (1 : Int32).toNatClampNeg) ≤ x4 → Qr (some (.int x3)) M) ∧ (¬ (f4 (1 : Int32).toNatClampNeg) ≤ x4 → (∃ fs8, (M).1 x0 = some (.inl (11, fs8))) ∧ kz_C G (d + 4) 0 0 mX12_isBy [.ref x0, .int x4, .int x1] M (fun v M5 => ∃ r6 : Int32, v = some (.int r6) ∧ ((¬ r6 = 0 → zX12_wordsUsed_32 G d Qr Qx x0 x1 x2 x3 x4 0 M5) ∧ (r6 = 0 → zX12_wordsUsed_5 G d Qr Qx x0 x1 x2 x3 (x4 + 1) M5))) Qx)))) : zX12_wordsUsed_5 G d Qr Qx x0 x1 x2 x3 x4  M := by
  show kz_Z G (d + 5) 0 0 mX12_wordsUsed Qr Qx 5 [(0, .ref x0), (1, .int x1), (2, .int x2), (3, .int x3), (4, .int x4)] [] M 0 0
  refine kz_iload (pc := 5) 4 (i := 4) rfl dX12_wordsUsed_5 ?_
  refine kz_aload_n (pc := 7) 0 (v := .ref x0) (i := 0) rfl rfl rfl dX12_wordsUsed_7 ?_
  obtain ⟨fs1, v2, hM, hv, h⟩ := h
  refine kz_getf (pc := 8) (k := 0) kcX12 hM hv (by decide) kw_1378 dX12_wordsUsed_8 ?_
  refine kz_iconst (pc := 11) (v := 1) (by decide) dX12_wordsUsed_11 ?_
  obtain ⟨n3, f4, hM, hi, h⟩ := h
  refine kz_iald (pc := 12) hM hi dX12_wordsUsed_12 ?_
  refine kz_icmp_ge (pc := 13) (tgt := 99) (by decide) dX12_wordsUsed_13 (fun hb => ?_) (fun hb => ?_)
  · replace h := h.1 hb
    refine kz_iload_n (pc := 99) 3 (i := 3) rfl rfl dX12_wordsUsed_99 ?_
    exact kz_iret (pc := 100) rfl (Nat.le_refl _) (Nat.le_refl _) dX12_wordsUsed_100 h
  · replace h := h.2 hb
    refine kz_aload_n (pc := 16) 0 (v := .ref x0) (i := 0) rfl rfl rfl dX12_wordsUsed_16 ?_
    refine kz_iload (pc := 17) 4 (i := 4) rfl dX12_wordsUsed_17 ?_
    refine kz_iload_n (pc := 19) 1 (i := 1) rfl rfl dX12_wordsUsed_19 ?_
    obtain ⟨⟨fs8, he⟩, h⟩ := h
    refine kz_callV (pc := 20) (μ' := mX12_isBy) (ci := 11) (q := (RX12, TX12, 32)) (b := x0) (d' := d + 4) (mc' := 0) (ms' := 0) (As := [.int x4, .int x1]) (st := []) (c := 0) (sl := 0) kmX12_isBy kw_1616 (by omega) rfl (Nat.le_of_ble_eq_true rfl) he rfl rfl (Nat.le_refl _) (Nat.le_refl _) dX12_wordsUsed_20 (fun E M9 hx => kz_Tout rfl (Nat.le_refl _) (Nat.le_refl _) hx) (kz_Cmono (fun v M5 h => ?_) (fun _ _ h => h) h)
    obtain ⟨r6, rfl, h⟩ := h
    show kz_Z G (d + 5) 0 0 mX12_wordsUsed Qr Qx 23 [(0, .ref x0), (1, .int x1), (2, .int x2), (3, .int x3), (4, .int x4)] [.int r6] M5 0 0
    refine kz_if_ne (pc := 23) (tgt := 29) (by decide) dX12_wordsUsed_23 (fun hb => ?_) (fun hb => ?_)
    · replace h := h.1 hb
      refine kz_iconst (pc := 29) (v := 0) (by decide) dX12_wordsUsed_29 ?_
      refine kz_istore (pc := 30) (i := 5) (ls' := [(0, .ref x0), (1, .int x1), (2, .int x2), (3, .int x3), (4, .int x4)]) (by decide) rfl dX12_wordsUsed_30 ?_
      refine kz_sub [1, 2, 3, 4, 5, 0] rfl ?_
      exact h
    · replace h := h.2 hb
      refine kz_goto (pc := 26) (tgt := 93) (by decide) dX12_wordsUsed_26 ?_
      refine kz_iinc (pc := 93) 4 (i := 4) (v := x4 + 1) (ls' := [(0, .ref x0), (1, .int x1), (2, .int x2), (3, .int x3)]) rfl (congrArg (fun z => x4 + z) (by decide)) (by decide) rfl dX12_wordsUsed_93 ?_
      refine kz_goto (pc := 96) (tgt := 5) (by decide) dX12_wordsUsed_96 ?_
      refine kz_sub [1, 2, 3, 4, 0] rfl ?_
      exact h
theorem rX12_wordsUsed_32 {G : kz_G} {d : Nat} {Qr : Option Value → kz_M → Prop} {Qx : String → kz_M → Prop} {x0 : Nat} {x1 : Int32} {x2 : Int32} {x3 : Int32} {x4 : Int32} {x5 : Int32}  {M : kz_M} (h : (∃ fs20, (M).1 x0 = some (.inl (11, fs20))) ∧ kz_C G (d + 4) 0 0 mX12_of [.ref x0, .int x4, .int 3] M (fun v M1 => ∃ r2 : Int32, v = some (.int r2) ∧ ((r2 ≤ x5 → zX12_wordsUsed_5 G d Qr Qx x0 x1 x2 x3 (x4 + 1) M1) ∧ (¬ r2 ≤ x5 → (∃ fs19, (M1).1 x0 = some (.inl (11, fs19))) ∧ kz_C G (d + 4) 0 0 mX12_stoodAhead [.ref x0, .int x1, .int x4, .int x5] M1 (fun v M4 => ∃ r5 : Int32, v = some (.int r5) ∧ ((¬ r5 = 0 → zX12_wordsUsed_32 G d Qr Qx x0 x1 x2 (x3 + 0) x4 (x5 + 1) M4) ∧ (r5 = 0 → (∃ fs18, (M4).1 x0 = some (.inl (11, fs18))) ∧ kz_C G (d + 4) 0 0 mX12_word [.ref x0, .int x4, .int x5] M4 (fun v M7 => ∃ r8 : Int64, v = some (.long r8) ∧ (∃ fs10 v11, (M7).1 x0 = some (.inl (11, fs10)) ∧ fs10[0]? = some (.ref v11) ∧ (∃ n12 f13, (M7).1 v11 = some (.inr (.int, n12, .inl f13)) ∧ vp_in (1 : Int32) n12 ∧ ((∃ fs17, (M7).1 x0 = some (.inl (11, fs17))) ∧ kz_C G (d + 4) 0 0 mX12_usesOf [.ref x0, .long r8, .int x1, .int (f13 (1 : Int32).toNatClampNeg)] M7 (fun v M14 => ∃ r15 : Int32, v = some (.int r15) ∧ ((r15 < x2 → zX12_wordsUsed_32 G d Qr Qx x0 x1 x2 (x3 + 0) x4 (x5 + 1) M14) ∧ (¬ r15 < x2 → zX12_wordsUsed_32 G d Qr Qx x0 x1 x2 (x3 + 1) x4 (x5 + 1) M14))) Qx)))) Qx))) Qx))) Qx) : zX12_wordsUsed_32 G d Qr Qx x0 x1 x2 x3 x4 x5  M := by
  show kz_Z G (d + 5) 0 0 mX12_wordsUsed Qr Qx 32 [(0, .ref x0), (1, .int x1), (2, .int x2), (3, .int x3), (4, .int x4), (5, .int x5)] [] M 0 0
  refine kz_iload (pc := 32) 5 (i := 5) rfl dX12_wordsUsed_32 ?_
  refine kz_aload_n (pc := 34) 0 (v := .ref x0) (i := 0) rfl rfl rfl dX12_wordsUsed_34 ?_
  refine kz_iload (pc := 35) 4 (i := 4) rfl dX12_wordsUsed_35 ?_
  refine kz_iconst (pc := 37) (v := 3) (by decide) dX12_wordsUsed_37 ?_
  obtain ⟨⟨fs20, he⟩, h⟩ := h
  refine kz_callV (pc := 38) (μ' := mX12_of) (ci := 11) (q := (RX12, TX12, 32)) (b := x0) (d' := d + 4) (mc' := 0) (ms' := 0) (As := [.int x4, .int 3]) (st := [.int x5]) (c := 0) (sl := 0) kmX12_of kw_1620 (by omega) rfl (Nat.le_of_ble_eq_true rfl) he rfl rfl (Nat.le_refl _) (Nat.le_refl _) dX12_wordsUsed_38 (fun E M9 hx => kz_Tout rfl (Nat.le_refl _) (Nat.le_refl _) hx) (kz_Cmono (fun v M1 h => ?_) (fun _ _ h => h) h)
  obtain ⟨r2, rfl, h⟩ := h
  show kz_Z G (d + 5) 0 0 mX12_wordsUsed Qr Qx 41 [(0, .ref x0), (1, .int x1), (2, .int x2), (3, .int x3), (4, .int x4), (5, .int x5)] [.int r2, .int x5] M1 0 0
  refine kz_icmp_ge (pc := 41) (tgt := 93) (by decide) dX12_wordsUsed_41 (fun hb => ?_) (fun hb => ?_)
  · replace h := h.1 hb
    refine kz_iinc (pc := 93) 4 (i := 4) (v := x4 + 1) (ls' := [(0, .ref x0), (1, .int x1), (2, .int x2), (3, .int x3), (5, .int x5)]) rfl (congrArg (fun z => x4 + z) (by decide)) (by decide) rfl dX12_wordsUsed_93 ?_
    refine kz_goto (pc := 96) (tgt := 5) (by decide) dX12_wordsUsed_96 ?_
    refine kz_sub [1, 2, 3, 4, 0] rfl ?_
    exact h
  · replace h := h.2 hb
    refine kz_iload_n (pc := 44) 3 (i := 3) rfl rfl dX12_wordsUsed_44 ?_
    refine kz_aload_n (pc := 45) 0 (v := .ref x0) (i := 0) rfl rfl rfl dX12_wordsUsed_45 ?_
    refine kz_iload_n (pc := 46) 1 (i := 1) rfl rfl dX12_wordsUsed_46 ?_
    refine kz_iload (pc := 47) 4 (i := 4) rfl dX12_wordsUsed_47 ?_
    refine kz_iload (pc := 49) 5 (i := 5) rfl dX12_wordsUsed_49 ?_
    obtain ⟨⟨fs19, he⟩, h⟩ := h
    refine kz_callV (pc := 51) (μ' := mX12_stoodAhead) (ci := 11) (q := (RX12, TX12, 32)) (b := x0) (d' := d + 4) (mc' := 0) (ms' := 0) (As := [.int x1, .int x4, .int x5]) (st := [.int x3]) (c := 0) (sl := 0) kmX12_stoodAhead kw_1685 (by omega) rfl (Nat.le_of_ble_eq_true rfl) he rfl rfl (Nat.le_refl _) (Nat.le_refl _) dX12_wordsUsed_51 (fun E M9 hx => kz_Tout rfl (Nat.le_refl _) (Nat.le_refl _) hx) (kz_Cmono (fun v M4 h => ?_) (fun _ _ h => h) h)
    obtain ⟨r5, rfl, h⟩ := h
    show kz_Z G (d + 5) 0 0 mX12_wordsUsed Qr Qx 54 [(0, .ref x0), (1, .int x1), (2, .int x2), (3, .int x3), (4, .int x4), (5, .int x5)] [.int r5, .int x3] M4 0 0
    refine kz_if_ne (pc := 54) (tgt := 84) (by decide) dX12_wordsUsed_54 (fun hb => ?_) (fun hb => ?_)
    · replace h := h.1 hb
      refine kz_iconst (pc := 84) (v := 0) (by decide) dX12_wordsUsed_84 ?_
      refine kz_iadd (pc := 85) dX12_wordsUsed_85 ?_
      refine kz_istore_n (pc := 86) (i := 3) (ls' := [(0, .ref x0), (1, .int x1), (2, .int x2), (4, .int x4), (5, .int x5)]) rfl (by decide) rfl dX12_wordsUsed_86 ?_
      refine kz_iinc (pc := 87) 5 (i := 5) (v := x5 + 1) (ls' := [(3, .int (x3 + 0)), (0, .ref x0), (1, .int x1), (2, .int x2), (4, .int x4)]) rfl (congrArg (fun z => x5 + z) (by decide)) (by decide) rfl dX12_wordsUsed_87 ?_
      refine kz_goto (pc := 90) (tgt := 32) (by decide) dX12_wordsUsed_90 ?_
      refine kz_sub [2, 3, 4, 1, 5, 0] rfl ?_
      exact h
    · replace h := h.2 hb
      refine kz_aload_n (pc := 57) 0 (v := .ref x0) (i := 0) rfl rfl rfl dX12_wordsUsed_57 ?_
      refine kz_aload_n (pc := 58) 0 (v := .ref x0) (i := 0) rfl rfl rfl dX12_wordsUsed_58 ?_
      refine kz_iload (pc := 59) 4 (i := 4) rfl dX12_wordsUsed_59 ?_
      refine kz_iload (pc := 61) 5 (i := 5) rfl dX12_wordsUsed_61 ?_
      obtain ⟨⟨fs18, he⟩, h⟩ := h
      refine kz_callV (pc := 63) (μ' := mX12_word) (ci := 11) (q := (RX12, TX12, 32)) (b := x0) (d' := d + 4) (mc' := 0) (ms' := 0) (As := [.int x4, .int x5]) (st := [.ref x0, .int x3]) (c := 0) (sl := 0) kmX12_word kw_1689 (by omega) rfl (Nat.le_of_ble_eq_true rfl) he rfl rfl (Nat.le_refl _) (Nat.le_refl _) dX12_wordsUsed_63 (fun E M9 hx => kz_Tout rfl (Nat.le_refl _) (Nat.le_refl _) hx) (kz_Cmono (fun v M7 h => ?_) (fun _ _ h => h) h)
      obtain ⟨r8, rfl, h⟩ := h
      show kz_Z G (d + 5) 0 0 mX12_wordsUsed Qr Qx 66 [(0, .ref x0), (1, .int x1), (2, .int x2), (3, .int x3), (4, .int x4), (5, .int x5)] [.long r8, .ref x0, .int x3] M7 0 0
      refine kz_iload_n (pc := 66) 1 (i := 1) rfl rfl dX12_wordsUsed_66 ?_
      refine kz_aload_n (pc := 67) 0 (v := .ref x0) (i := 0) rfl rfl rfl dX12_wordsUsed_67 ?_
      obtain ⟨fs10, v11, hM, hv, h⟩ := h
      refine kz_getf (pc := 68) (k := 0) kcX12 hM hv (by decide) kw_1378 dX12_wordsUsed_68 ?_
      refine kz_iconst (pc := 71) (v := 1) (by decide) dX12_wordsUsed_71 ?_
      obtain ⟨n12, f13, hM, hi, h⟩ := h
      refine kz_iald (pc := 72) hM hi dX12_wordsUsed_72 ?_
      obtain ⟨⟨fs17, he⟩, h⟩ := h
      refine kz_callV (pc := 73) (μ' := mX12_usesOf) (ci := 11) (q := (RX12, TX12, 32)) (b := x0) (d' := d + 4) (mc' := 0) (ms' := 0) (As := [.long r8, .int x1, .int (f13 (1 : Int32).toNatClampNeg)]) (st := [.int x3]) (c := 0) (sl := 0) kmX12_usesOf kw_1697 (by omega) rfl (Nat.le_of_ble_eq_true rfl) he rfl rfl (Nat.le_refl _) (Nat.le_refl _) dX12_wordsUsed_73 (fun E M9 hx => kz_Tout rfl (Nat.le_refl _) (Nat.le_refl _) hx) (kz_Cmono (fun v M14 h => ?_) (fun _ _ h => h) h)
      obtain ⟨r15, rfl, h⟩ := h
      show kz_Z G (d + 5) 0 0 mX12_wordsUsed Qr Qx 76 [(0, .ref x0), (1, .int x1), (2, .int x2), (3, .int x3), (4, .int x4), (5, .int x5)] [.int r15, .int x3] M14 0 0
      refine kz_iload_n (pc := 76) 2 (i := 2) rfl rfl dX12_wordsUsed_76 ?_
      refine kz_icmp_lt (pc := 77) (tgt := 84) (by decide) dX12_wordsUsed_77 (fun hb => ?_) (fun hb => ?_)
      · replace h := h.1 hb
        refine kz_iconst (pc := 84) (v := 0) (by decide) dX12_wordsUsed_84 ?_
        refine kz_iadd (pc := 85) dX12_wordsUsed_85 ?_
        refine kz_istore_n (pc := 86) (i := 3) (ls' := [(0, .ref x0), (1, .int x1), (2, .int x2), (4, .int x4), (5, .int x5)]) rfl (by decide) rfl dX12_wordsUsed_86 ?_
        refine kz_iinc (pc := 87) 5 (i := 5) (v := x5 + 1) (ls' := [(3, .int (x3 + 0)), (0, .ref x0), (1, .int x1), (2, .int x2), (4, .int x4)]) rfl (congrArg (fun z => x5 + z) (by decide)) (by decide) rfl dX12_wordsUsed_87 ?_
        refine kz_goto (pc := 90) (tgt := 32) (by decide) dX12_wordsUsed_90 ?_
        refine kz_sub [2, 3, 4, 1, 5, 0] rfl ?_
        exact h
      · replace h := h.2 hb
        refine kz_iconst (pc := 80) (v := 1) (by decide) dX12_wordsUsed_80 ?_
        refine kz_goto (pc := 81) (tgt := 85) (by decide) dX12_wordsUsed_81 ?_
        refine kz_iadd (pc := 85) dX12_wordsUsed_85 ?_
        refine kz_istore_n (pc := 86) (i := 3) (ls' := [(0, .ref x0), (1, .int x1), (2, .int x2), (4, .int x4), (5, .int x5)]) rfl (by decide) rfl dX12_wordsUsed_86 ?_
        refine kz_iinc (pc := 87) 5 (i := 5) (v := x5 + 1) (ls' := [(3, .int (x3 + 1)), (0, .ref x0), (1, .int x1), (2, .int x2), (4, .int x4)]) rfl (congrArg (fun z => x5 + z) (by decide)) (by decide) rfl dX12_wordsUsed_87 ?_
        refine kz_goto (pc := 90) (tgt := 32) (by decide) dX12_wordsUsed_90 ?_
        refine kz_sub [2, 3, 4, 1, 5, 0] rfl ?_
        exact h
theorem dX12_writer_0 : decode cX12_writer 0 = .ok (.aload_n 0, 1) := by decide +kernel
theorem dX12_writer_1 : decode cX12_writer 1 = .ok (.iconst 0, 1) := by decide +kernel
theorem dX12_writer_2 : decode cX12_writer 2 = .ok (.putfield 60, 3) := by decide +kernel
theorem dX12_writer_5 : decode cX12_writer 5 = .ok (.aload_n 0, 1) := by decide +kernel
theorem dX12_writer_6 : decode cX12_writer 6 = .ok (.iload_n 1, 1) := by decide +kernel
theorem dX12_writer_7 : decode cX12_writer 7 = .ok (.invokevirtual 340, 3) := by decide +kernel
theorem dX12_writer_10 : decode cX12_writer 10 = .ok (.ifCond .eq 5, 3) := by decide +kernel
theorem dX12_writer_13 : decode cX12_writer 13 = .ok (.iconst 0, 1) := by decide +kernel
theorem dX12_writer_14 : decode cX12_writer 14 = .ok (.ireturn, 1) := by decide +kernel
theorem dX12_writer_15 : decode cX12_writer 15 = .ok (.iload_n 2, 1) := by decide +kernel
theorem dX12_writer_16 : decode cX12_writer 16 = .ok (.tableswitch 132 0 9 #[56, 66, 72, 78, 84, 90, 97, 104, 114, 121], 56) := by decide +kernel
theorem dX12_writer_72 : decode cX12_writer 72 = .ok (.aload_n 0, 1) := by decide +kernel
theorem dX12_writer_73 : decode cX12_writer 73 = .ok (.getfield 7, 3) := by decide +kernel
theorem dX12_writer_76 : decode cX12_writer 76 = .ok (.bipush 21, 2) := by decide +kernel
theorem dX12_writer_78 : decode cX12_writer 78 = .ok (.iload_n 1, 1) := by decide +kernel
theorem dX12_writer_79 : decode cX12_writer 79 = .ok (.iadd, 1) := by decide +kernel
theorem dX12_writer_80 : decode cX12_writer 80 = .ok (.iaload, 1) := by decide +kernel
theorem dX12_writer_81 : decode cX12_writer 81 = .ok (.ireturn, 1) := by decide +kernel
theorem dX12_writer_82 : decode cX12_writer 82 = .ok (.aload_n 0, 1) := by decide +kernel
theorem dX12_writer_83 : decode cX12_writer 83 = .ok (.iload_n 1, 1) := by decide +kernel
theorem dX12_writer_84 : decode cX12_writer 84 = .ok (.invokevirtual 343, 3) := by decide +kernel
theorem dX12_writer_87 : decode cX12_writer 87 = .ok (.ireturn, 1) := by decide +kernel
theorem dX12_writer_88 : decode cX12_writer 88 = .ok (.aload_n 0, 1) := by decide +kernel
theorem dX12_writer_89 : decode cX12_writer 89 = .ok (.iload_n 1, 1) := by decide +kernel
theorem dX12_writer_90 : decode cX12_writer 90 = .ok (.invokevirtual 325, 3) := by decide +kernel
theorem dX12_writer_93 : decode cX12_writer 93 = .ok (.ireturn, 1) := by decide +kernel
theorem dX12_writer_94 : decode cX12_writer 94 = .ok (.aload_n 0, 1) := by decide +kernel
theorem dX12_writer_95 : decode cX12_writer 95 = .ok (.iload_n 1, 1) := by decide +kernel
theorem dX12_writer_96 : decode cX12_writer 96 = .ok (.invokevirtual 328, 3) := by decide +kernel
theorem dX12_writer_99 : decode cX12_writer 99 = .ok (.ireturn, 1) := by decide +kernel
theorem dX12_writer_100 : decode cX12_writer 100 = .ok (.aload_n 0, 1) := by decide +kernel
theorem dX12_writer_101 : decode cX12_writer 101 = .ok (.iload_n 1, 1) := by decide +kernel
theorem dX12_writer_102 : decode cX12_writer 102 = .ok (.invokevirtual 346, 3) := by decide +kernel
theorem dX12_writer_105 : decode cX12_writer 105 = .ok (.ireturn, 1) := by decide +kernel
theorem dX12_writer_106 : decode cX12_writer 106 = .ok (.aload_n 0, 1) := by decide +kernel
theorem dX12_writer_107 : decode cX12_writer 107 = .ok (.iload_n 1, 1) := by decide +kernel
theorem dX12_writer_108 : decode cX12_writer 108 = .ok (.iconst 2, 1) := by decide +kernel
theorem dX12_writer_109 : decode cX12_writer 109 = .ok (.invokevirtual 334, 3) := by decide +kernel
theorem dX12_writer_112 : decode cX12_writer 112 = .ok (.ireturn, 1) := by decide +kernel
theorem dX12_writer_113 : decode cX12_writer 113 = .ok (.aload_n 0, 1) := by decide +kernel
theorem dX12_writer_114 : decode cX12_writer 114 = .ok (.iload_n 1, 1) := by decide +kernel
theorem dX12_writer_115 : decode cX12_writer 115 = .ok (.iconst 3, 1) := by decide +kernel
theorem dX12_writer_116 : decode cX12_writer 116 = .ok (.invokevirtual 334, 3) := by decide +kernel
theorem dX12_writer_119 : decode cX12_writer 119 = .ok (.ireturn, 1) := by decide +kernel
theorem dX12_writer_120 : decode cX12_writer 120 = .ok (.aload_n 0, 1) := by decide +kernel
theorem dX12_writer_121 : decode cX12_writer 121 = .ok (.getfield 7, 3) := by decide +kernel
theorem dX12_writer_124 : decode cX12_writer 124 = .ok (.bipush 27, 2) := by decide +kernel
theorem dX12_writer_126 : decode cX12_writer 126 = .ok (.iload_n 1, 1) := by decide +kernel
theorem dX12_writer_127 : decode cX12_writer 127 = .ok (.iadd, 1) := by decide +kernel
theorem dX12_writer_128 : decode cX12_writer 128 = .ok (.iaload, 1) := by decide +kernel
theorem dX12_writer_129 : decode cX12_writer 129 = .ok (.ireturn, 1) := by decide +kernel
theorem dX12_writer_130 : decode cX12_writer 130 = .ok (.aload_n 0, 1) := by decide +kernel
theorem dX12_writer_131 : decode cX12_writer 131 = .ok (.iload_n 1, 1) := by decide +kernel
theorem dX12_writer_132 : decode cX12_writer 132 = .ok (.iconst 1, 1) := by decide +kernel
theorem dX12_writer_133 : decode cX12_writer 133 = .ok (.invokevirtual 349, 3) := by decide +kernel
theorem dX12_writer_136 : decode cX12_writer 136 = .ok (.ireturn, 1) := by decide +kernel
theorem dX12_writer_137 : decode cX12_writer 137 = .ok (.aload_n 0, 1) := by decide +kernel
theorem dX12_writer_138 : decode cX12_writer 138 = .ok (.iload_n 1, 1) := by decide +kernel
theorem dX12_writer_139 : decode cX12_writer 139 = .ok (.aload_n 0, 1) := by decide +kernel
theorem dX12_writer_140 : decode cX12_writer 140 = .ok (.iconst 2, 1) := by decide +kernel
theorem dX12_writer_141 : decode cX12_writer 141 = .ok (.invokevirtual 141, 3) := by decide +kernel
theorem dX12_writer_144 : decode cX12_writer 144 = .ok (.invokevirtual 349, 3) := by decide +kernel
theorem dX12_writer_147 : decode cX12_writer 147 = .ok (.ireturn, 1) := by decide +kernel
theorem dX12_writer_148 : decode cX12_writer 148 = .ok (.aload_n 0, 1) := by decide +kernel
theorem dX12_writer_149 : decode cX12_writer 149 = .ok (.iconst 2, 1) := by decide +kernel
theorem dX12_writer_150 : decode cX12_writer 150 = .ok (.putfield 60, 3) := by decide +kernel
theorem dX12_writer_153 : decode cX12_writer 153 = .ok (.iconst 0, 1) := by decide +kernel
theorem dX12_writer_154 : decode cX12_writer 154 = .ok (.ireturn, 1) := by decide +kernel
theorem rX12_writer_0 {G : kz_G} {d : Nat} {Qr : Option Value → kz_M → Prop} {Qx : String → kz_M → Prop} {a0 : Nat} {p1 : Int32} {p2 : Int32}  {M : kz_M} (h : ∃ fs1, (M).1 a0 = some (.inl (11, fs1)) ∧ 9 < fs1.length ∧ ((∃ fs50, ((kz_up M a0 (.inl (11, fs1.set 9 (.int 0))))).1 a0 = some (.inl (11, fs50))) ∧ kz_C G (d + 5) 0 0 mX12_noWriter [.ref a0, .int p1] (kz_up M a0 (.inl (11, fs1.set 9 (.int 0)))) (fun v M2 => ∃ r3 : Int32, v = some (.int r3) ∧ ((r3 = 0 → (p2 = 0 → ∃ fs5 v6, (M2).1 a0 = some (.inl (11, fs5)) ∧ fs5[0]? = some (.ref v6) ∧ (∃ n7 f8, (M2).1 v6 = some (.inr (.int, n7, .inl f8)) ∧ vp_in (21 + p1) n7 ∧ (Qr (some (.int (f8 (21 + p1).toNatClampNeg))) M2))) ∧ (p2 = 1 → (∃ fs12, (M2).1 a0 = some (.inl (11, fs12))) ∧ kz_C G (d + 5) 0 0 mX12_worksOf [.ref a0, .int p1] M2 (fun v M9 => ∃ r10 : Int32, v = some (.int r10) ∧ (Qr (some (.int r10)) M9)) Qx) ∧ (p2 = 2 → (∃ fs16, (M2).1 a0 = some (.inl (11, fs16))) ∧ kz_C G (d + 5) 0 0 mX12_linesInAll [.ref a0, .int p1] M2 (fun v M13 => ∃ r14 : Int32, v = some (.int r14) ∧ (Qr (some (.int r14)) M13)) Qx) ∧ (p2 = 3 → (∃ fs20, (M2).1 a0 = some (.inl (11, fs20))) ∧ kz_C G (d + 5) 0 0 mX12_countingInAll [.ref a0, .int p1] M2 (fun v M17 => ∃ r18 : Int32, v = some (.int r18) ∧ (Qr (some (.int r18)) M17)) Qx) ∧ (p2 = 4 → (∃ fs24, (M2).1 a0 = some (.inl (11, fs24))) ∧ kz_C G (d + 5) 0 0 mX12_caughtOf [.ref a0, .int p1] M2 (fun v M21 => ∃ r22 : Int32, v = some (.int r22) ∧ (Qr (some (.int r22)) M21)) Qx) ∧ (p2 = 5 → (∃ fs28, (M2).1 a0 = some (.inl (11, fs28))) ∧ kz_C G (d + 5) 0 0 mX12_inState [.ref a0, .int p1, .int 2] M2 (fun v M25 => ∃ r26 : Int32, v = some (.int r26) ∧ (Qr (some (.int r26)) M25)) Qx) ∧ (p2 = 6 → (∃ fs32, (M2).1 a0 = some (.inl (11, fs32))) ∧ kz_C G (d + 5) 0 0 mX12_inState [.ref a0, .int p1, .int 3] M2 (fun v M29 => ∃ r30 : Int32, v = some (.int r30) ∧ (Qr (some (.int r30)) M29)) Qx) ∧ (p2 = 7 → ∃ fs33 v34, (M2).1 a0 = some (.inl (11, fs33)) ∧ fs33[0]? = some (.ref v34) ∧ (∃ n35 f36, (M2).1 v34 = some (.inr (.int, n35, .inl f36)) ∧ vp_in (27 + p1) n35 ∧ (Qr (some (.int (f36 (27 + p1).toNatClampNeg))) M2))) ∧ (p2 = 8 → (∃ fs40, (M2).1 a0 = some (.inl (11, fs40))) ∧ kz_C G (d + 5) 0 0 mX12_wordsUsed [.ref a0, .int p1, .int 1] M2 (fun v M37 => ∃ r38 : Int32, v = some (.int r38) ∧ (Qr (some (.int r38)) M37)) Qx) ∧ (p2 = 9 → (∃ fs48, (M2).1 a0 = some (.inl (11, fs48))) ∧ kz_C G (d + 5) 0 0 mX12_its [.ref a0, .int 2] M2 (fun v M41 => ∃ r42 : Int32, v = some (.int r42) ∧ ((∃ fs47, (M41).1 a0 = some (.inl (11, fs47))) ∧ kz_C G (d + 5) 0 0 mX12_wordsUsed [.ref a0, .int p1, .int r42] M41 (fun v M44 => ∃ r45 : Int32, v = some (.int r45) ∧ (Qr (some (.int r45)) M44)) Qx)) Qx) ∧ (¬ p2 = 0 → ¬ p2 = 1 → ¬ p2 = 2 → ¬ p2 = 3 → ¬ p2 = 4 → ¬ p2 = 5 → ¬ p2 = 6 → ¬ p2 = 7 → ¬ p2 = 8 → ¬ p2 = 9 → ∃ fs49, (M2).1 a0 = some (.inl (11, fs49)) ∧ 9 < fs49.length ∧ (Qr (some (.int 0)) (kz_up M2 a0 (.inl (11, fs49.set 9 (.int 2))))))) ∧ (¬ r3 = 0 → Qr (some (.int 0)) M2))) Qx)) : kz_C G (d + 6) 0 0 mX12_writer [.ref a0, .int p1, .int p2] M Qr Qx := by
  refine kz_enter (n := 2) kmX12_writer.1 (Nat.le_of_ble_eq_true rfl) (ls := [(0, .ref a0), (1, .int p1), (2, .int p2)]) rfl ?_
  refine kz_aload_n (pc := 0) 0 (v := .ref a0) (i := 0) rfl rfl rfl dX12_writer_0 ?_
  refine kz_iconst (pc := 1) (v := 0) (by decide) dX12_writer_1 ?_
  obtain ⟨fs1, hM, hlen, h⟩ := h
  refine kz_putf (pc := 2) (k := 9) kcX12 hM (by decide) hlen kw_1387 rfl rfl rfl dX12_writer_2 ?_
  refine kz_aload_n (pc := 5) 0 (v := .ref a0) (i := 0) rfl rfl rfl dX12_writer_5 ?_
  refine kz_iload_n (pc := 6) 1 (i := 1) rfl rfl dX12_writer_6 ?_
  obtain ⟨⟨fs50, he⟩, h⟩ := h
  refine kz_callV (pc := 7) (μ' := mX12_noWriter) (ci := 11) (q := (RX12, TX12, 32)) (b := a0) (d' := d + 5) (mc' := 0) (ms' := 0) (As := [.int p1]) (st := []) (c := 0) (sl := 0) kmX12_noWriter kw_1665 (by omega) rfl (Nat.le_of_ble_eq_true rfl) he rfl rfl (Nat.le_refl _) (Nat.le_refl _) dX12_writer_7 (fun E M9 hx => kz_Tout rfl (Nat.le_refl _) (Nat.le_refl _) hx) (kz_Cmono (fun v M2 h => ?_) (fun _ _ h => h) h)
  obtain ⟨r3, rfl, h⟩ := h
  show kz_Z G (d + 6) 0 0 mX12_writer Qr Qx 10 [(0, .ref a0), (1, .int p1), (2, .int p2)] [.int r3] M2 0 0
  refine kz_if_eq (pc := 10) (tgt := 15) (by decide) dX12_writer_10 (fun hb => ?_) (fun hb => ?_)
  · replace h := h.1 hb
    refine kz_iload_n (pc := 15) 2 (i := 2) rfl rfl dX12_writer_15 ?_
    by_cases hk0 : p2 = 0
    · replace h := h.1 hk0
      refine kz_tableIn (pc := 16) (off := 56) (tgt := 72) (by rw [hk0]; decide) (by rw [hk0]; decide) (by rw [hk0]; decide) (by decide) dX12_writer_16 ?_
      refine kz_aload_n (pc := 72) 0 (v := .ref a0) (i := 0) rfl rfl rfl dX12_writer_72 ?_
      obtain ⟨fs5, v6, hM, hv, h⟩ := h
      refine kz_getf (pc := 73) (k := 0) kcX12 hM hv (by decide) kw_1378 dX12_writer_73 ?_
      refine kz_bipush (pc := 76) (v := 21) (by decide) dX12_writer_76 ?_
      refine kz_iload_n (pc := 78) 1 (i := 1) rfl rfl dX12_writer_78 ?_
      refine kz_iadd (pc := 79) dX12_writer_79 ?_
      obtain ⟨n7, f8, hM, hi, h⟩ := h
      refine kz_iald (pc := 80) hM hi dX12_writer_80 ?_
      exact kz_iret (pc := 81) rfl (Nat.le_refl _) (Nat.le_refl _) dX12_writer_81 h
    by_cases hk1 : p2 = 1
    · replace h := h.2.1 hk1
      refine kz_tableIn (pc := 16) (off := 66) (tgt := 82) (by rw [hk1]; decide) (by rw [hk1]; decide) (by rw [hk1]; decide) (by decide) dX12_writer_16 ?_
      refine kz_aload_n (pc := 82) 0 (v := .ref a0) (i := 0) rfl rfl rfl dX12_writer_82 ?_
      refine kz_iload_n (pc := 83) 1 (i := 1) rfl rfl dX12_writer_83 ?_
      obtain ⟨⟨fs12, he⟩, h⟩ := h
      refine kz_callV (pc := 84) (μ' := mX12_worksOf) (ci := 11) (q := (RX12, TX12, 32)) (b := a0) (d' := d + 5) (mc' := 0) (ms' := 0) (As := [.int p1]) (st := []) (c := 0) (sl := 0) kmX12_worksOf kw_1669 (by omega) rfl (Nat.le_of_ble_eq_true rfl) he rfl rfl (Nat.le_refl _) (Nat.le_refl _) dX12_writer_84 (fun E M9 hx => kz_Tout rfl (Nat.le_refl _) (Nat.le_refl _) hx) (kz_Cmono (fun v M9 h => ?_) (fun _ _ h => h) h)
      obtain ⟨r10, rfl, h⟩ := h
      show kz_Z G (d + 6) 0 0 mX12_writer Qr Qx 87 [(0, .ref a0), (1, .int p1), (2, .int p2)] [.int r10] M9 0 0
      exact kz_iret (pc := 87) rfl (Nat.le_refl _) (Nat.le_refl _) dX12_writer_87 h
    by_cases hk2 : p2 = 2
    · replace h := h.2.2.1 hk2
      refine kz_tableIn (pc := 16) (off := 72) (tgt := 88) (by rw [hk2]; decide) (by rw [hk2]; decide) (by rw [hk2]; decide) (by decide) dX12_writer_16 ?_
      refine kz_aload_n (pc := 88) 0 (v := .ref a0) (i := 0) rfl rfl rfl dX12_writer_88 ?_
      refine kz_iload_n (pc := 89) 1 (i := 1) rfl rfl dX12_writer_89 ?_
      obtain ⟨⟨fs16, he⟩, h⟩ := h
      refine kz_callV (pc := 90) (μ' := mX12_linesInAll) (ci := 11) (q := (RX12, TX12, 32)) (b := a0) (d' := d + 5) (mc' := 0) (ms' := 0) (As := [.int p1]) (st := []) (c := 0) (sl := 0) kmX12_linesInAll kw_1612 (by omega) rfl (Nat.le_of_ble_eq_true rfl) he rfl rfl (Nat.le_refl _) (Nat.le_refl _) dX12_writer_90 (fun E M9 hx => kz_Tout rfl (Nat.le_refl _) (Nat.le_refl _) hx) (kz_Cmono (fun v M13 h => ?_) (fun _ _ h => h) h)
      obtain ⟨r14, rfl, h⟩ := h
      show kz_Z G (d + 6) 0 0 mX12_writer Qr Qx 93 [(0, .ref a0), (1, .int p1), (2, .int p2)] [.int r14] M13 0 0
      exact kz_iret (pc := 93) rfl (Nat.le_refl _) (Nat.le_refl _) dX12_writer_93 h
    by_cases hk3 : p2 = 3
    · replace h := h.2.2.2.1 hk3
      refine kz_tableIn (pc := 16) (off := 78) (tgt := 94) (by rw [hk3]; decide) (by rw [hk3]; decide) (by rw [hk3]; decide) (by decide) dX12_writer_16 ?_
      refine kz_aload_n (pc := 94) 0 (v := .ref a0) (i := 0) rfl rfl rfl dX12_writer_94 ?_
      refine kz_iload_n (pc := 95) 1 (i := 1) rfl rfl dX12_writer_95 ?_
      obtain ⟨⟨fs20, he⟩, h⟩ := h
      refine kz_callV (pc := 96) (μ' := mX12_countingInAll) (ci := 11) (q := (RX12, TX12, 32)) (b := a0) (d' := d + 5) (mc' := 0) (ms' := 0) (As := [.int p1]) (st := []) (c := 0) (sl := 0) kmX12_countingInAll kw_1624 (by omega) rfl (Nat.le_of_ble_eq_true rfl) he rfl rfl (Nat.le_refl _) (Nat.le_refl _) dX12_writer_96 (fun E M9 hx => kz_Tout rfl (Nat.le_refl _) (Nat.le_refl _) hx) (kz_Cmono (fun v M17 h => ?_) (fun _ _ h => h) h)
      obtain ⟨r18, rfl, h⟩ := h
      show kz_Z G (d + 6) 0 0 mX12_writer Qr Qx 99 [(0, .ref a0), (1, .int p1), (2, .int p2)] [.int r18] M17 0 0
      exact kz_iret (pc := 99) rfl (Nat.le_refl _) (Nat.le_refl _) dX12_writer_99 h
    by_cases hk4 : p2 = 4
    · replace h := h.2.2.2.2.1 hk4
      refine kz_tableIn (pc := 16) (off := 84) (tgt := 100) (by rw [hk4]; decide) (by rw [hk4]; decide) (by rw [hk4]; decide) (by decide) dX12_writer_16 ?_
      refine kz_aload_n (pc := 100) 0 (v := .ref a0) (i := 0) rfl rfl rfl dX12_writer_100 ?_
      refine kz_iload_n (pc := 101) 1 (i := 1) rfl rfl dX12_writer_101 ?_
      obtain ⟨⟨fs24, he⟩, h⟩ := h
      refine kz_callV (pc := 102) (μ' := mX12_caughtOf) (ci := 11) (q := (RX12, TX12, 32)) (b := a0) (d' := d + 5) (mc' := 0) (ms' := 0) (As := [.int p1]) (st := []) (c := 0) (sl := 0) kmX12_caughtOf kw_1673 (by omega) rfl (Nat.le_of_ble_eq_true rfl) he rfl rfl (Nat.le_refl _) (Nat.le_refl _) dX12_writer_102 (fun E M9 hx => kz_Tout rfl (Nat.le_refl _) (Nat.le_refl _) hx) (kz_Cmono (fun v M21 h => ?_) (fun _ _ h => h) h)
      obtain ⟨r22, rfl, h⟩ := h
      show kz_Z G (d + 6) 0 0 mX12_writer Qr Qx 105 [(0, .ref a0), (1, .int p1), (2, .int p2)] [.int r22] M21 0 0
      exact kz_iret (pc := 105) rfl (Nat.le_refl _) (Nat.le_refl _) dX12_writer_105 h
    by_cases hk5 : p2 = 5
    · replace h := h.2.2.2.2.2.1 hk5
      refine kz_tableIn (pc := 16) (off := 90) (tgt := 106) (by rw [hk5]; decide) (by rw [hk5]; decide) (by rw [hk5]; decide) (by decide) dX12_writer_16 ?_
      refine kz_aload_n (pc := 106) 0 (v := .ref a0) (i := 0) rfl rfl rfl dX12_writer_106 ?_
      refine kz_iload_n (pc := 107) 1 (i := 1) rfl rfl dX12_writer_107 ?_
      refine kz_iconst (pc := 108) (v := 2) (by decide) dX12_writer_108 ?_
      obtain ⟨⟨fs28, he⟩, h⟩ := h
      refine kz_callV (pc := 109) (μ' := mX12_inState) (ci := 11) (q := (RX12, TX12, 32)) (b := a0) (d' := d + 5) (mc' := 0) (ms' := 0) (As := [.int p1, .int 2]) (st := []) (c := 0) (sl := 0) kmX12_inState kw_1677 (by omega) rfl (Nat.le_of_ble_eq_true rfl) he rfl rfl (Nat.le_refl _) (Nat.le_refl _) dX12_writer_109 (fun E M9 hx => kz_Tout rfl (Nat.le_refl _) (Nat.le_refl _) hx) (kz_Cmono (fun v M25 h => ?_) (fun _ _ h => h) h)
      obtain ⟨r26, rfl, h⟩ := h
      show kz_Z G (d + 6) 0 0 mX12_writer Qr Qx 112 [(0, .ref a0), (1, .int p1), (2, .int p2)] [.int r26] M25 0 0
      exact kz_iret (pc := 112) rfl (Nat.le_refl _) (Nat.le_refl _) dX12_writer_112 h
    by_cases hk6 : p2 = 6
    · replace h := h.2.2.2.2.2.2.1 hk6
      refine kz_tableIn (pc := 16) (off := 97) (tgt := 113) (by rw [hk6]; decide) (by rw [hk6]; decide) (by rw [hk6]; decide) (by decide) dX12_writer_16 ?_
      refine kz_aload_n (pc := 113) 0 (v := .ref a0) (i := 0) rfl rfl rfl dX12_writer_113 ?_
      refine kz_iload_n (pc := 114) 1 (i := 1) rfl rfl dX12_writer_114 ?_
      refine kz_iconst (pc := 115) (v := 3) (by decide) dX12_writer_115 ?_
      obtain ⟨⟨fs32, he⟩, h⟩ := h
      refine kz_callV (pc := 116) (μ' := mX12_inState) (ci := 11) (q := (RX12, TX12, 32)) (b := a0) (d' := d + 5) (mc' := 0) (ms' := 0) (As := [.int p1, .int 3]) (st := []) (c := 0) (sl := 0) kmX12_inState kw_1677 (by omega) rfl (Nat.le_of_ble_eq_true rfl) he rfl rfl (Nat.le_refl _) (Nat.le_refl _) dX12_writer_116 (fun E M9 hx => kz_Tout rfl (Nat.le_refl _) (Nat.le_refl _) hx) (kz_Cmono (fun v M29 h => ?_) (fun _ _ h => h) h)
      obtain ⟨r30, rfl, h⟩ := h
      show kz_Z G (d + 6) 0 0 mX12_writer Qr Qx 119 [(0, .ref a0), (1, .int p1), (2, .int p2)] [.int r30] M29 0 0
      exact kz_iret (pc := 119) rfl (Nat.le_refl _) (Nat.le_refl _) dX12_writer_119 h
    by_cases hk7 : p2 = 7
    · replace h := h.2.2.2.2.2.2.2.1 hk7
      refine kz_tableIn (pc := 16) (off := 104) (tgt := 120) (by rw [hk7]; decide) (by rw [hk7]; decide) (by rw [hk7]; decide) (by decide) dX12_writer_16 ?_
      refine kz_aload_n (pc := 120) 0 (v := .ref a0) (i := 0) rfl rfl rfl dX12_writer_120 ?_
      obtain ⟨fs33, v34, hM, hv, h⟩ := h
      refine kz_getf (pc := 121) (k := 0) kcX12 hM hv (by decide) kw_1378 dX12_writer_121 ?_
      refine kz_bipush (pc := 124) (v := 27) (by decide) dX12_writer_124 ?_
      refine kz_iload_n (pc := 126) 1 (i := 1) rfl rfl dX12_writer_126 ?_
      refine kz_iadd (pc := 127) dX12_writer_127 ?_
      obtain ⟨n35, f36, hM, hi, h⟩ := h
      refine kz_iald (pc := 128) hM hi dX12_writer_128 ?_
      exact kz_iret (pc := 129) rfl (Nat.le_refl _) (Nat.le_refl _) dX12_writer_129 h
    by_cases hk8 : p2 = 8
    · replace h := h.2.2.2.2.2.2.2.2.1 hk8
      refine kz_tableIn (pc := 16) (off := 114) (tgt := 130) (by rw [hk8]; decide) (by rw [hk8]; decide) (by rw [hk8]; decide) (by decide) dX12_writer_16 ?_
      refine kz_aload_n (pc := 130) 0 (v := .ref a0) (i := 0) rfl rfl rfl dX12_writer_130 ?_
      refine kz_iload_n (pc := 131) 1 (i := 1) rfl rfl dX12_writer_131 ?_
      refine kz_iconst (pc := 132) (v := 1) (by decide) dX12_writer_132 ?_
      obtain ⟨⟨fs40, he⟩, h⟩ := h
      refine kz_callV (pc := 133) (μ' := mX12_wordsUsed) (ci := 11) (q := (RX12, TX12, 32)) (b := a0) (d' := d + 5) (mc' := 0) (ms' := 0) (As := [.int p1, .int 1]) (st := []) (c := 0) (sl := 0) kmX12_wordsUsed kw_1681 (by omega) rfl (Nat.le_of_ble_eq_true rfl) he rfl rfl (Nat.le_refl _) (Nat.le_refl _) dX12_writer_133 (fun E M9 hx => kz_Tout rfl (Nat.le_refl _) (Nat.le_refl _) hx) (kz_Cmono (fun v M37 h => ?_) (fun _ _ h => h) h)
      obtain ⟨r38, rfl, h⟩ := h
      show kz_Z G (d + 6) 0 0 mX12_writer Qr Qx 136 [(0, .ref a0), (1, .int p1), (2, .int p2)] [.int r38] M37 0 0
      exact kz_iret (pc := 136) rfl (Nat.le_refl _) (Nat.le_refl _) dX12_writer_136 h
    by_cases hk9 : p2 = 9
    · replace h := h.2.2.2.2.2.2.2.2.2.1 hk9
      refine kz_tableIn (pc := 16) (off := 121) (tgt := 137) (by rw [hk9]; decide) (by rw [hk9]; decide) (by rw [hk9]; decide) (by decide) dX12_writer_16 ?_
      refine kz_aload_n (pc := 137) 0 (v := .ref a0) (i := 0) rfl rfl rfl dX12_writer_137 ?_
      refine kz_iload_n (pc := 138) 1 (i := 1) rfl rfl dX12_writer_138 ?_
      refine kz_aload_n (pc := 139) 0 (v := .ref a0) (i := 0) rfl rfl rfl dX12_writer_139 ?_
      refine kz_iconst (pc := 140) (v := 2) (by decide) dX12_writer_140 ?_
      obtain ⟨⟨fs48, he⟩, h⟩ := h
      refine kz_callV (pc := 141) (μ' := mX12_its) (ci := 11) (q := (RX12, TX12, 32)) (b := a0) (d' := d + 5) (mc' := 0) (ms' := 0) (As := [.int 2]) (st := [.int p1, .ref a0]) (c := 0) (sl := 0) kmX12_its kw_1657 (by omega) rfl (Nat.le_of_ble_eq_true rfl) he rfl rfl (Nat.le_refl _) (Nat.le_refl _) dX12_writer_141 (fun E M9 hx => kz_Tout rfl (Nat.le_refl _) (Nat.le_refl _) hx) (kz_Cmono (fun v M41 h => ?_) (fun _ _ h => h) h)
      obtain ⟨r42, rfl, h⟩ := h
      show kz_Z G (d + 6) 0 0 mX12_writer Qr Qx 144 [(0, .ref a0), (1, .int p1), (2, .int p2)] [.int r42, .int p1, .ref a0] M41 0 0
      obtain ⟨⟨fs47, he⟩, h⟩ := h
      refine kz_callV (pc := 144) (μ' := mX12_wordsUsed) (ci := 11) (q := (RX12, TX12, 32)) (b := a0) (d' := d + 5) (mc' := 0) (ms' := 0) (As := [.int p1, .int r42]) (st := []) (c := 0) (sl := 0) kmX12_wordsUsed kw_1681 (by omega) rfl (Nat.le_of_ble_eq_true rfl) he rfl rfl (Nat.le_refl _) (Nat.le_refl _) dX12_writer_144 (fun E M9 hx => kz_Tout rfl (Nat.le_refl _) (Nat.le_refl _) hx) (kz_Cmono (fun v M44 h => ?_) (fun _ _ h => h) h)
      obtain ⟨r45, rfl, h⟩ := h
      show kz_Z G (d + 6) 0 0 mX12_writer Qr Qx 147 [(0, .ref a0), (1, .int p1), (2, .int p2)] [.int r45] M44 0 0
      exact kz_iret (pc := 147) rfl (Nat.le_refl _) (Nat.le_refl _) dX12_writer_147 h
    replace h := h.2.2.2.2.2.2.2.2.2.2 hk0 hk1 hk2 hk3 hk4 hk5 hk6 hk7 hk8 hk9
    refine kz_tableOut (pc := 16) (tgt := 148) (kz_swout (lo := 0) (n := 10) (by decide) (by decide) (kz_all10 (kz_swne (by decide) hk0) (kz_swne (by decide) hk1) (kz_swne (by decide) hk2) (kz_swne (by decide) hk3) (kz_swne (by decide) hk4) (kz_swne (by decide) hk5) (kz_swne (by decide) hk6) (kz_swne (by decide) hk7) (kz_swne (by decide) hk8) (kz_swne (by decide) hk9))) (by decide) dX12_writer_16 ?_
    refine kz_aload_n (pc := 148) 0 (v := .ref a0) (i := 0) rfl rfl rfl dX12_writer_148 ?_
    refine kz_iconst (pc := 149) (v := 2) (by decide) dX12_writer_149 ?_
    obtain ⟨fs49, hM, hlen, h⟩ := h
    refine kz_putf (pc := 150) (k := 9) kcX12 hM (by decide) hlen kw_1387 rfl rfl rfl dX12_writer_150 ?_
    refine kz_iconst (pc := 153) (v := 0) (by decide) dX12_writer_153 ?_
    exact kz_iret (pc := 154) rfl (Nat.le_refl _) (Nat.le_refl _) dX12_writer_154 h
  · replace h := h.2 hb
    refine kz_iconst (pc := 13) (v := 0) (by decide) dX12_writer_13 ?_
    exact kz_iret (pc := 14) rfl (Nat.le_refl _) (Nat.le_refl _) dX12_writer_14 h
theorem dX12_paysNow_0 : decode cX12_paysNow 0 = .ok (.iconst 0, 1) := by decide +kernel
theorem dX12_paysNow_1 : decode cX12_paysNow 1 = .ok (.istore_n 2, 1) := by decide +kernel
theorem dX12_paysNow_2 : decode cX12_paysNow 2 = .ok (.iconst 0, 1) := by decide +kernel
theorem dX12_paysNow_3 : decode cX12_paysNow 3 = .ok (.istore_n 3, 1) := by decide +kernel
theorem dX12_paysNow_4 : decode cX12_paysNow 4 = .ok (.iload_n 3, 1) := by decide +kernel
theorem dX12_paysNow_5 : decode cX12_paysNow 5 = .ok (.aload_n 0, 1) := by decide +kernel
theorem dX12_paysNow_6 : decode cX12_paysNow 6 = .ok (.iload_n 1, 1) := by decide +kernel
theorem dX12_paysNow_7 : decode cX12_paysNow 7 = .ok (.iconst 4, 1) := by decide +kernel
theorem dX12_paysNow_8 : decode cX12_paysNow 8 = .ok (.invokevirtual 101, 3) := by decide +kernel
theorem dX12_paysNow_11 : decode cX12_paysNow 11 = .ok (.if_icmp .ge 32, 3) := by decide +kernel
theorem dX12_paysNow_14 : decode cX12_paysNow 14 = .ok (.iload_n 2, 1) := by decide +kernel
theorem dX12_paysNow_15 : decode cX12_paysNow 15 = .ok (.aload_n 0, 1) := by decide +kernel
theorem dX12_paysNow_16 : decode cX12_paysNow 16 = .ok (.iload_n 1, 1) := by decide +kernel
theorem dX12_paysNow_17 : decode cX12_paysNow 17 = .ok (.iload_n 3, 1) := by decide +kernel
theorem dX12_paysNow_18 : decode cX12_paysNow 18 = .ok (.invokevirtual 120, 3) := by decide +kernel
theorem dX12_paysNow_21 : decode cX12_paysNow 21 = .ok (.ifCond .eq 13, 3) := by decide +kernel
theorem dX12_paysNow_24 : decode cX12_paysNow 24 = .ok (.aload_n 0, 1) := by decide +kernel
theorem dX12_paysNow_25 : decode cX12_paysNow 25 = .ok (.iload_n 1, 1) := by decide +kernel
theorem dX12_paysNow_26 : decode cX12_paysNow 26 = .ok (.iload_n 3, 1) := by decide +kernel
theorem dX12_paysNow_27 : decode cX12_paysNow 27 = .ok (.iconst 4, 1) := by decide +kernel
theorem dX12_paysNow_28 : decode cX12_paysNow 28 = .ok (.invokevirtual 93, 3) := by decide +kernel
theorem dX12_paysNow_31 : decode cX12_paysNow 31 = .ok (.goto 4, 3) := by decide +kernel
theorem dX12_paysNow_34 : decode cX12_paysNow 34 = .ok (.iconst 0, 1) := by decide +kernel
theorem dX12_paysNow_35 : decode cX12_paysNow 35 = .ok (.iadd, 1) := by decide +kernel
theorem dX12_paysNow_36 : decode cX12_paysNow 36 = .ok (.istore_n 2, 1) := by decide +kernel
theorem dX12_paysNow_37 : decode cX12_paysNow 37 = .ok (.iinc 3 1, 3) := by decide +kernel
theorem dX12_paysNow_40 : decode cX12_paysNow 40 = .ok (.goto (-36), 3) := by decide +kernel
theorem dX12_paysNow_43 : decode cX12_paysNow 43 = .ok (.iload_n 2, 1) := by decide +kernel
theorem dX12_paysNow_44 : decode cX12_paysNow 44 = .ok (.ireturn, 1) := by decide +kernel
def zX12_paysNow_4 (G : kz_G) (d : Nat) (Qr : Option Value → kz_M → Prop) (Qx : String → kz_M → Prop) (x0 : Nat) (x1 : Int32) (x2 : Int32) (x3 : Int32)  (M : kz_M) : Prop := kz_Z G (d + 3) 0 0 mX12_paysNow Qr Qx 4 [(0, .ref x0), (1, .int x1), (2, .int x2), (3, .int x3)] [] M 0 0
theorem rX12_paysNow_0 {G : kz_G} {d : Nat} {Qr : Option Value → kz_M → Prop} {Qx : String → kz_M → Prop} {a0 : Nat} {p1 : Int32}  {M : kz_M} (h : zX12_paysNow_4 G d Qr Qx a0 p1 0 0 M) : kz_C G (d + 3) 0 0 mX12_paysNow [.ref a0, .int p1] M Qr Qx := by
  refine kz_enter (n := 1) kmX12_paysNow.1 (Nat.le_of_ble_eq_true rfl) (ls := [(0, .ref a0), (1, .int p1)]) rfl ?_
  refine kz_iconst (pc := 0) (v := 0) (by decide) dX12_paysNow_0 ?_
  refine kz_istore_n (pc := 1) (i := 2) (ls' := [(0, .ref a0), (1, .int p1)]) rfl (by decide) rfl dX12_paysNow_1 ?_
  refine kz_iconst (pc := 2) (v := 0) (by decide) dX12_paysNow_2 ?_
  refine kz_istore_n (pc := 3) (i := 3) (ls' := [(2, .int 0), (0, .ref a0), (1, .int p1)]) rfl (by decide) rfl dX12_paysNow_3 ?_
  refine kz_sub [2, 3, 1, 0] rfl ?_
  exact h
theorem rX12_paysNow_4 {G : kz_G} {d : Nat} {Qr : Option Value → kz_M → Prop} {Qx : String → kz_M → Prop} {x0 : Nat} {x1 : Int32} {x2 : Int32} {x3 : Int32}  {M : kz_M} (h : (∃ fs12, (M).1 x0 = some (.inl (11, fs12))) ∧ kz_C G (d + 2) 0 0 mX12_of [.ref x0, .int x1, .int 4] M (fun v M1 => ∃ r2 : Int32, v = some (.int r2) ∧ ((r2 ≤ x3 → Qr (some (.int x2)) M1) ∧ (¬ r2 ≤ x3 → (∃ fs11, (M1).1 x0 = some (.inl (11, fs11))) ∧ kz_C G (d + 2) 0 0 mX12_countsNow [.ref x0, .int x1, .int x3] M1 (fun v M4 => ∃ r5 : Int32, v = some (.int r5) ∧ ((r5 = 0 → zX12_paysNow_4 G d Qr Qx x0 x1 (x2 + 0) (x3 + 1) M4) ∧ (¬ r5 = 0 → (∃ fs10, (M4).1 x0 = some (.inl (11, fs10))) ∧ kz_C G (d + 2) 0 0 mX12_ofLine [.ref x0, .int x1, .int x3, .int 4] M4 (fun v M7 => ∃ r8 : Int32, v = some (.int r8) ∧ (zX12_paysNow_4 G d Qr Qx x0 x1 (x2 + r8) (x3 + 1) M7)) Qx))) Qx))) Qx) : zX12_paysNow_4 G d Qr Qx x0 x1 x2 x3  M := by
  show kz_Z G (d + 3) 0 0 mX12_paysNow Qr Qx 4 [(0, .ref x0), (1, .int x1), (2, .int x2), (3, .int x3)] [] M 0 0
  refine kz_iload_n (pc := 4) 3 (i := 3) rfl rfl dX12_paysNow_4 ?_
  refine kz_aload_n (pc := 5) 0 (v := .ref x0) (i := 0) rfl rfl rfl dX12_paysNow_5 ?_
  refine kz_iload_n (pc := 6) 1 (i := 1) rfl rfl dX12_paysNow_6 ?_
  refine kz_iconst (pc := 7) (v := 4) (by decide) dX12_paysNow_7 ?_
  obtain ⟨⟨fs12, he⟩, h⟩ := h
  refine kz_callV (pc := 8) (μ' := mX12_of) (ci := 11) (q := (RX12, TX12, 32)) (b := x0) (d' := d + 2) (mc' := 0) (ms' := 0) (As := [.int x1, .int 4]) (st := [.int x3]) (c := 0) (sl := 0) kmX12_of kw_1620 (by omega) rfl (Nat.le_of_ble_eq_true rfl) he rfl rfl (Nat.le_refl _) (Nat.le_refl _) dX12_paysNow_8 (fun E M9 hx => kz_Tout rfl (Nat.le_refl _) (Nat.le_refl _) hx) (kz_Cmono (fun v M1 h => ?_) (fun _ _ h => h) h)
  obtain ⟨r2, rfl, h⟩ := h
  show kz_Z G (d + 3) 0 0 mX12_paysNow Qr Qx 11 [(0, .ref x0), (1, .int x1), (2, .int x2), (3, .int x3)] [.int r2, .int x3] M1 0 0
  refine kz_icmp_ge (pc := 11) (tgt := 43) (by decide) dX12_paysNow_11 (fun hb => ?_) (fun hb => ?_)
  · replace h := h.1 hb
    refine kz_iload_n (pc := 43) 2 (i := 2) rfl rfl dX12_paysNow_43 ?_
    exact kz_iret (pc := 44) rfl (Nat.le_refl _) (Nat.le_refl _) dX12_paysNow_44 h
  · replace h := h.2 hb
    refine kz_iload_n (pc := 14) 2 (i := 2) rfl rfl dX12_paysNow_14 ?_
    refine kz_aload_n (pc := 15) 0 (v := .ref x0) (i := 0) rfl rfl rfl dX12_paysNow_15 ?_
    refine kz_iload_n (pc := 16) 1 (i := 1) rfl rfl dX12_paysNow_16 ?_
    refine kz_iload_n (pc := 17) 3 (i := 3) rfl rfl dX12_paysNow_17 ?_
    obtain ⟨⟨fs11, he⟩, h⟩ := h
    refine kz_callV (pc := 18) (μ' := mX12_countsNow) (ci := 11) (q := (RX12, TX12, 32)) (b := x0) (d' := d + 2) (mc' := 0) (ms' := 0) (As := [.int x1, .int x3]) (st := [.int x2]) (c := 0) (sl := 0) kmX12_countsNow kw_1632 (by omega) rfl (Nat.le_of_ble_eq_true rfl) he rfl rfl (Nat.le_refl _) (Nat.le_refl _) dX12_paysNow_18 (fun E M9 hx => kz_Tout rfl (Nat.le_refl _) (Nat.le_refl _) hx) (kz_Cmono (fun v M4 h => ?_) (fun _ _ h => h) h)
    obtain ⟨r5, rfl, h⟩ := h
    show kz_Z G (d + 3) 0 0 mX12_paysNow Qr Qx 21 [(0, .ref x0), (1, .int x1), (2, .int x2), (3, .int x3)] [.int r5, .int x2] M4 0 0
    refine kz_if_eq (pc := 21) (tgt := 34) (by decide) dX12_paysNow_21 (fun hb => ?_) (fun hb => ?_)
    · replace h := h.1 hb
      refine kz_iconst (pc := 34) (v := 0) (by decide) dX12_paysNow_34 ?_
      refine kz_iadd (pc := 35) dX12_paysNow_35 ?_
      refine kz_istore_n (pc := 36) (i := 2) (ls' := [(0, .ref x0), (1, .int x1), (3, .int x3)]) rfl (by decide) rfl dX12_paysNow_36 ?_
      refine kz_iinc (pc := 37) 3 (i := 3) (v := x3 + 1) (ls' := [(2, .int (x2 + 0)), (0, .ref x0), (1, .int x1)]) rfl (congrArg (fun z => x3 + z) (by decide)) (by decide) rfl dX12_paysNow_37 ?_
      refine kz_goto (pc := 40) (tgt := 4) (by decide) dX12_paysNow_40 ?_
      refine kz_sub [2, 3, 1, 0] rfl ?_
      exact h
    · replace h := h.2 hb
      refine kz_aload_n (pc := 24) 0 (v := .ref x0) (i := 0) rfl rfl rfl dX12_paysNow_24 ?_
      refine kz_iload_n (pc := 25) 1 (i := 1) rfl rfl dX12_paysNow_25 ?_
      refine kz_iload_n (pc := 26) 3 (i := 3) rfl rfl dX12_paysNow_26 ?_
      refine kz_iconst (pc := 27) (v := 4) (by decide) dX12_paysNow_27 ?_
      obtain ⟨⟨fs10, he⟩, h⟩ := h
      refine kz_callV (pc := 28) (μ' := mX12_ofLine) (ci := 11) (q := (RX12, TX12, 32)) (b := x0) (d' := d + 2) (mc' := 0) (ms' := 0) (As := [.int x1, .int x3, .int 4]) (st := [.int x2]) (c := 0) (sl := 0) kmX12_ofLine kw_1636 (by omega) rfl (Nat.le_of_ble_eq_true rfl) he rfl rfl (Nat.le_refl _) (Nat.le_refl _) dX12_paysNow_28 (fun E M9 hx => kz_Tout rfl (Nat.le_refl _) (Nat.le_refl _) hx) (kz_Cmono (fun v M7 h => ?_) (fun _ _ h => h) h)
      obtain ⟨r8, rfl, h⟩ := h
      show kz_Z G (d + 3) 0 0 mX12_paysNow Qr Qx 31 [(0, .ref x0), (1, .int x1), (2, .int x2), (3, .int x3)] [.int r8, .int x2] M7 0 0
      refine kz_goto (pc := 31) (tgt := 35) (by decide) dX12_paysNow_31 ?_
      refine kz_iadd (pc := 35) dX12_paysNow_35 ?_
      refine kz_istore_n (pc := 36) (i := 2) (ls' := [(0, .ref x0), (1, .int x1), (3, .int x3)]) rfl (by decide) rfl dX12_paysNow_36 ?_
      refine kz_iinc (pc := 37) 3 (i := 3) (v := x3 + 1) (ls' := [(2, .int (x2 + r8)), (0, .ref x0), (1, .int x1)]) rfl (congrArg (fun z => x3 + z) (by decide)) (by decide) rfl dX12_paysNow_37 ?_
      refine kz_goto (pc := 40) (tgt := 4) (by decide) dX12_paysNow_40 ?_
      refine kz_sub [2, 3, 1, 0] rfl ?_
      exact h
theorem dX12_work_0 : decode cX12_work 0 = .ok (.aload_n 0, 1) := by decide +kernel
theorem dX12_work_1 : decode cX12_work 1 = .ok (.iconst 0, 1) := by decide +kernel
theorem dX12_work_2 : decode cX12_work 2 = .ok (.putfield 60, 3) := by decide +kernel
theorem dX12_work_5 : decode cX12_work 5 = .ok (.aload_n 0, 1) := by decide +kernel
theorem dX12_work_6 : decode cX12_work 6 = .ok (.iload_n 1, 1) := by decide +kernel
theorem dX12_work_7 : decode cX12_work 7 = .ok (.invokevirtual 314, 3) := by decide +kernel
theorem dX12_work_10 : decode cX12_work 10 = .ok (.ifCond .ne 26, 3) := by decide +kernel
theorem dX12_work_13 : decode cX12_work 13 = .ok (.aload_n 0, 1) := by decide +kernel
theorem dX12_work_14 : decode cX12_work 14 = .ok (.iload_n 2, 1) := by decide +kernel
theorem dX12_work_15 : decode cX12_work 15 = .ok (.iconst 0, 1) := by decide +kernel
theorem dX12_work_16 : decode cX12_work 16 = .ok (.bipush 7, 2) := by decide +kernel
theorem dX12_work_18 : decode cX12_work 18 = .ok (.invokestatic 67, 3) := by decide +kernel
theorem dX12_work_21 : decode cX12_work 21 = .ok (.ifCond .ne 7, 3) := by decide +kernel
theorem dX12_work_24 : decode cX12_work 24 = .ok (.iconst 1, 1) := by decide +kernel
theorem dX12_work_25 : decode cX12_work 25 = .ok (.goto 4, 3) := by decide +kernel
theorem dX12_work_28 : decode cX12_work 28 = .ok (.iconst 0, 1) := by decide +kernel
theorem dX12_work_29 : decode cX12_work 29 = .ok (.iconst 2, 1) := by decide +kernel
theorem dX12_work_30 : decode cX12_work 30 = .ok (.invokevirtual 310, 3) := by decide +kernel
theorem dX12_work_33 : decode cX12_work 33 = .ok (.ifCond .eq 5, 3) := by decide +kernel
theorem dX12_work_36 : decode cX12_work 36 = .ok (.iconst 0, 1) := by decide +kernel
theorem dX12_work_37 : decode cX12_work 37 = .ok (.ireturn, 1) := by decide +kernel
theorem dX12_work_38 : decode cX12_work 38 = .ok (.iload_n 2, 1) := by decide +kernel
theorem dX12_work_39 : decode cX12_work 39 = .ok (.iconst 5, 1) := by decide +kernel
theorem dX12_work_40 : decode cX12_work 40 = .ok (.if_icmp .ge 10, 3) := by decide +kernel
theorem dX12_work_43 : decode cX12_work 43 = .ok (.aload_n 0, 1) := by decide +kernel
theorem dX12_work_44 : decode cX12_work 44 = .ok (.iload_n 1, 1) := by decide +kernel
theorem dX12_work_45 : decode cX12_work 45 = .ok (.iload_n 2, 1) := by decide +kernel
theorem dX12_work_46 : decode cX12_work 46 = .ok (.invokevirtual 101, 3) := by decide +kernel
theorem dX12_work_49 : decode cX12_work 49 = .ok (.ireturn, 1) := by decide +kernel
theorem dX12_work_50 : decode cX12_work 50 = .ok (.iload_n 2, 1) := by decide +kernel
theorem dX12_work_51 : decode cX12_work 51 = .ok (.iconst 5, 1) := by decide +kernel
theorem dX12_work_52 : decode cX12_work 52 = .ok (.if_icmp .ne 11, 3) := by decide +kernel
theorem dX12_work_55 : decode cX12_work 55 = .ok (.aload_n 0, 1) := by decide +kernel
theorem dX12_work_56 : decode cX12_work 56 = .ok (.iload_n 1, 1) := by decide +kernel
theorem dX12_work_57 : decode cX12_work 57 = .ok (.invokevirtual 317, 3) := by decide +kernel
theorem dX12_work_60 : decode cX12_work 60 = .ok (.goto 22, 3) := by decide +kernel
theorem dX12_work_63 : decode cX12_work 63 = .ok (.iload_n 2, 1) := by decide +kernel
theorem dX12_work_64 : decode cX12_work 64 = .ok (.bipush 6, 2) := by decide +kernel
theorem dX12_work_66 : decode cX12_work 66 = .ok (.if_icmp .ne 11, 3) := by decide +kernel
theorem dX12_work_69 : decode cX12_work 69 = .ok (.aload_n 0, 1) := by decide +kernel
theorem dX12_work_70 : decode cX12_work 70 = .ok (.iload_n 1, 1) := by decide +kernel
theorem dX12_work_71 : decode cX12_work 71 = .ok (.invokevirtual 352, 3) := by decide +kernel
theorem dX12_work_74 : decode cX12_work 74 = .ok (.goto 8, 3) := by decide +kernel
theorem dX12_work_77 : decode cX12_work 77 = .ok (.aload_n 0, 1) := by decide +kernel
theorem dX12_work_78 : decode cX12_work 78 = .ok (.iload_n 1, 1) := by decide +kernel
theorem dX12_work_79 : decode cX12_work 79 = .ok (.invokevirtual 355, 3) := by decide +kernel
theorem dX12_work_82 : decode cX12_work 82 = .ok (.ireturn, 1) := by decide +kernel
theorem rX12_work_0 {G : kz_G} {d : Nat} {Qr : Option Value → kz_M → Prop} {Qx : String → kz_M → Prop} {a0 : Nat} {p1 : Int32} {p2 : Int32}  {M : kz_M} (h : ∃ fs1, (M).1 a0 = some (.inl (11, fs1)) ∧ 9 < fs1.length ∧ ((∃ fs49, ((kz_up M a0 (.inl (11, fs1.set 9 (.int 0))))).1 a0 = some (.inl (11, fs49))) ∧ kz_C G (d + 3) 0 0 mX12_noWork [.ref a0, .int p1] (kz_up M a0 (.inl (11, fs1.set 9 (.int 0)))) (fun v M2 => ∃ r3 : Int32, v = some (.int r3) ∧ ((¬ r3 = 0 → Qr (some (.int 0)) M2) ∧ (r3 = 0 → kz_C G (d + 3) 0 0 mX12_inRange [.int p2, .int 0, .int 7] M2 (fun v M5 => ∃ r6 : Int32, v = some (.int r6) ∧ ((¬ r6 = 0 → (∃ fs27, (M5).1 a0 = some (.inl (11, fs27))) ∧ kz_C G (d + 3) 0 0 mX12_fails [.ref a0, .int 0, .int 2] M5 (fun v M8 => ∃ r9 : Int32, v = some (.int r9) ∧ ((r9 = 0 → ((5 : Int32) ≤ p2 → (¬ p2 = (5 : Int32) → (¬ p2 = (6 : Int32) → (∃ fs14, (M8).1 a0 = some (.inl (11, fs14))) ∧ kz_C G (d + 3) 0 0 mX12_distinctIn [.ref a0, .int p1] M8 (fun v M11 => ∃ r12 : Int32, v = some (.int r12) ∧ (Qr (some (.int r12)) M11)) Qx) ∧ (p2 = (6 : Int32) → (∃ fs18, (M8).1 a0 = some (.inl (11, fs18))) ∧ kz_C G (d + 3) 0 0 mX12_paysNow [.ref a0, .int p1] M8 (fun v M15 => ∃ r16 : Int32, v = some (.int r16) ∧ (Qr (some (.int r16)) M15)) Qx)) ∧ (p2 = (5 : Int32) → (∃ fs22, (M8).1 a0 = some (.inl (11, fs22))) ∧ kz_C G (d + 3) 0 0 mX12_countingIn [.ref a0, .int p1] M8 (fun v M19 => ∃ r20 : Int32, v = some (.int r20) ∧ (Qr (some (.int r20)) M19)) Qx)) ∧ (¬ (5 : Int32) ≤ p2 → (∃ fs26, (M8).1 a0 = some (.inl (11, fs26))) ∧ kz_C G (d + 3) 0 0 mX12_of [.ref a0, .int p1, .int p2] M8 (fun v M23 => ∃ r24 : Int32, v = some (.int r24) ∧ (Qr (some (.int r24)) M23)) Qx)) ∧ (¬ r9 = 0 → Qr (some (.int 0)) M8))) Qx) ∧ (r6 = 0 → (∃ fs47, (M5).1 a0 = some (.inl (11, fs47))) ∧ kz_C G (d + 3) 0 0 mX12_fails [.ref a0, .int 1, .int 2] M5 (fun v M28 => ∃ r29 : Int32, v = some (.int r29) ∧ ((r29 = 0 → ((5 : Int32) ≤ p2 → (¬ p2 = (5 : Int32) → (¬ p2 = (6 : Int32) → (∃ fs34, (M28).1 a0 = some (.inl (11, fs34))) ∧ kz_C G (d + 3) 0 0 mX12_distinctIn [.ref a0, .int p1] M28 (fun v M31 => ∃ r32 : Int32, v = some (.int r32) ∧ (Qr (some (.int r32)) M31)) Qx) ∧ (p2 = (6 : Int32) → (∃ fs38, (M28).1 a0 = some (.inl (11, fs38))) ∧ kz_C G (d + 3) 0 0 mX12_paysNow [.ref a0, .int p1] M28 (fun v M35 => ∃ r36 : Int32, v = some (.int r36) ∧ (Qr (some (.int r36)) M35)) Qx)) ∧ (p2 = (5 : Int32) → (∃ fs42, (M28).1 a0 = some (.inl (11, fs42))) ∧ kz_C G (d + 3) 0 0 mX12_countingIn [.ref a0, .int p1] M28 (fun v M39 => ∃ r40 : Int32, v = some (.int r40) ∧ (Qr (some (.int r40)) M39)) Qx)) ∧ (¬ (5 : Int32) ≤ p2 → (∃ fs46, (M28).1 a0 = some (.inl (11, fs46))) ∧ kz_C G (d + 3) 0 0 mX12_of [.ref a0, .int p1, .int p2] M28 (fun v M43 => ∃ r44 : Int32, v = some (.int r44) ∧ (Qr (some (.int r44)) M43)) Qx)) ∧ (¬ r29 = 0 → Qr (some (.int 0)) M28))) Qx))) Qx))) Qx)) : kz_C G (d + 4) 0 0 mX12_work [.ref a0, .int p1, .int p2] M Qr Qx := by
  refine kz_enter (n := 2) kmX12_work.1 (Nat.le_of_ble_eq_true rfl) (ls := [(0, .ref a0), (1, .int p1), (2, .int p2)]) rfl ?_
  refine kz_aload_n (pc := 0) 0 (v := .ref a0) (i := 0) rfl rfl rfl dX12_work_0 ?_
  refine kz_iconst (pc := 1) (v := 0) (by decide) dX12_work_1 ?_
  obtain ⟨fs1, hM, hlen, h⟩ := h
  refine kz_putf (pc := 2) (k := 9) kcX12 hM (by decide) hlen kw_1387 rfl rfl rfl dX12_work_2 ?_
  refine kz_aload_n (pc := 5) 0 (v := .ref a0) (i := 0) rfl rfl rfl dX12_work_5 ?_
  refine kz_iload_n (pc := 6) 1 (i := 1) rfl rfl dX12_work_6 ?_
  obtain ⟨⟨fs49, he⟩, h⟩ := h
  refine kz_callV (pc := 7) (μ' := mX12_noWork) (ci := 11) (q := (RX12, TX12, 32)) (b := a0) (d' := d + 3) (mc' := 0) (ms' := 0) (As := [.int p1]) (st := []) (c := 0) (sl := 0) kmX12_noWork kw_1713 (by omega) rfl (Nat.le_of_ble_eq_true rfl) he rfl rfl (Nat.le_refl _) (Nat.le_refl _) dX12_work_7 (fun E M9 hx => kz_Tout rfl (Nat.le_refl _) (Nat.le_refl _) hx) (kz_Cmono (fun v M2 h => ?_) (fun _ _ h => h) h)
  obtain ⟨r3, rfl, h⟩ := h
  show kz_Z G (d + 4) 0 0 mX12_work Qr Qx 10 [(0, .ref a0), (1, .int p1), (2, .int p2)] [.int r3] M2 0 0
  refine kz_if_ne (pc := 10) (tgt := 36) (by decide) dX12_work_10 (fun hb => ?_) (fun hb => ?_)
  · replace h := h.1 hb
    refine kz_iconst (pc := 36) (v := 0) (by decide) dX12_work_36 ?_
    exact kz_iret (pc := 37) rfl (Nat.le_refl _) (Nat.le_refl _) dX12_work_37 h
  · replace h := h.2 hb
    refine kz_aload_n (pc := 13) 0 (v := .ref a0) (i := 0) rfl rfl rfl dX12_work_13 ?_
    refine kz_iload_n (pc := 14) 2 (i := 2) rfl rfl dX12_work_14 ?_
    refine kz_iconst (pc := 15) (v := 0) (by decide) dX12_work_15 ?_
    refine kz_bipush (pc := 16) (v := 7) (by decide) dX12_work_16 ?_
    refine kz_callS (pc := 18) (μ' := mX12_inRange) (d' := d + 3) (mc' := 0) (ms' := 0) (As := [.int p2, .int 0, .int 7]) (st := [.ref a0]) (c := 0) (sl := 0) kmX12_inRange kw_1491 (by omega) rfl (Nat.le_of_ble_eq_true rfl) (Nat.le_refl _) (Nat.le_refl _) dX12_work_18 (fun E M9 hx => kz_Tout rfl (Nat.le_refl _) (Nat.le_refl _) hx) (kz_Cmono (fun v M5 h => ?_) (fun _ _ h => h) h)
    obtain ⟨r6, rfl, h⟩ := h
    show kz_Z G (d + 4) 0 0 mX12_work Qr Qx 21 [(0, .ref a0), (1, .int p1), (2, .int p2)] [.int r6, .ref a0] M5 0 0
    refine kz_if_ne (pc := 21) (tgt := 28) (by decide) dX12_work_21 (fun hb => ?_) (fun hb => ?_)
    · replace h := h.1 hb
      refine kz_iconst (pc := 28) (v := 0) (by decide) dX12_work_28 ?_
      refine kz_iconst (pc := 29) (v := 2) (by decide) dX12_work_29 ?_
      obtain ⟨⟨fs27, he⟩, h⟩ := h
      refine kz_callV (pc := 30) (μ' := mX12_fails) (ci := 11) (q := (RX12, TX12, 32)) (b := a0) (d' := d + 3) (mc' := 0) (ms' := 0) (As := [.int 0, .int 2]) (st := []) (c := 0) (sl := 0) kmX12_fails kw_1653 (by omega) rfl (Nat.le_of_ble_eq_true rfl) he rfl rfl (Nat.le_refl _) (Nat.le_refl _) dX12_work_30 (fun E M9 hx => kz_Tout rfl (Nat.le_refl _) (Nat.le_refl _) hx) (kz_Cmono (fun v M8 h => ?_) (fun _ _ h => h) h)
      obtain ⟨r9, rfl, h⟩ := h
      show kz_Z G (d + 4) 0 0 mX12_work Qr Qx 33 [(0, .ref a0), (1, .int p1), (2, .int p2)] [.int r9] M8 0 0
      refine kz_if_eq (pc := 33) (tgt := 38) (by decide) dX12_work_33 (fun hb => ?_) (fun hb => ?_)
      · replace h := h.1 hb
        refine kz_iload_n (pc := 38) 2 (i := 2) rfl rfl dX12_work_38 ?_
        refine kz_iconst (pc := 39) (v := 5) (by decide) dX12_work_39 ?_
        refine kz_icmp_ge (pc := 40) (tgt := 50) (by decide) dX12_work_40 (fun hb => ?_) (fun hb => ?_)
        · replace h := h.1 hb
          refine kz_iload_n (pc := 50) 2 (i := 2) rfl rfl dX12_work_50 ?_
          refine kz_iconst (pc := 51) (v := 5) (by decide) dX12_work_51 ?_
          refine kz_icmp_ne (pc := 52) (tgt := 63) (by decide) dX12_work_52 (fun hb => ?_) (fun hb => ?_)
          · replace h := h.1 hb
            refine kz_iload_n (pc := 63) 2 (i := 2) rfl rfl dX12_work_63 ?_
            refine kz_bipush (pc := 64) (v := 6) (by decide) dX12_work_64 ?_
            refine kz_icmp_ne (pc := 66) (tgt := 77) (by decide) dX12_work_66 (fun hb => ?_) (fun hb => ?_)
            · replace h := h.1 hb
              refine kz_aload_n (pc := 77) 0 (v := .ref a0) (i := 0) rfl rfl rfl dX12_work_77 ?_
              refine kz_iload_n (pc := 78) 1 (i := 1) rfl rfl dX12_work_78 ?_
              obtain ⟨⟨fs14, he⟩, h⟩ := h
              refine kz_callV (pc := 79) (μ' := mX12_distinctIn) (ci := 11) (q := (RX12, TX12, 32)) (b := a0) (d' := d + 3) (mc' := 0) (ms' := 0) (As := [.int p1]) (st := []) (c := 0) (sl := 0) kmX12_distinctIn kw_1721 (by omega) rfl (Nat.le_of_ble_eq_true rfl) he rfl rfl (Nat.le_refl _) (Nat.le_refl _) dX12_work_79 (fun E M9 hx => kz_Tout rfl (Nat.le_refl _) (Nat.le_refl _) hx) (kz_Cmono (fun v M11 h => ?_) (fun _ _ h => h) h)
              obtain ⟨r12, rfl, h⟩ := h
              show kz_Z G (d + 4) 0 0 mX12_work Qr Qx 82 [(0, .ref a0), (1, .int p1), (2, .int p2)] [.int r12] M11 0 0
              exact kz_iret (pc := 82) rfl (Nat.le_refl _) (Nat.le_refl _) dX12_work_82 h
            · replace h := h.2 hb
              refine kz_aload_n (pc := 69) 0 (v := .ref a0) (i := 0) rfl rfl rfl dX12_work_69 ?_
              refine kz_iload_n (pc := 70) 1 (i := 1) rfl rfl dX12_work_70 ?_
              obtain ⟨⟨fs18, he⟩, h⟩ := h
              refine kz_callV (pc := 71) (μ' := mX12_paysNow) (ci := 11) (q := (RX12, TX12, 32)) (b := a0) (d' := d + 3) (mc' := 0) (ms' := 0) (As := [.int p1]) (st := []) (c := 0) (sl := 0) kmX12_paysNow kw_1717 (by omega) rfl (Nat.le_of_ble_eq_true rfl) he rfl rfl (Nat.le_refl _) (Nat.le_refl _) dX12_work_71 (fun E M9 hx => kz_Tout rfl (Nat.le_refl _) (Nat.le_refl _) hx) (kz_Cmono (fun v M15 h => ?_) (fun _ _ h => h) h)
              obtain ⟨r16, rfl, h⟩ := h
              show kz_Z G (d + 4) 0 0 mX12_work Qr Qx 74 [(0, .ref a0), (1, .int p1), (2, .int p2)] [.int r16] M15 0 0
              refine kz_goto (pc := 74) (tgt := 82) (by decide) dX12_work_74 ?_
              exact kz_iret (pc := 82) rfl (Nat.le_refl _) (Nat.le_refl _) dX12_work_82 h
          · replace h := h.2 hb
            refine kz_aload_n (pc := 55) 0 (v := .ref a0) (i := 0) rfl rfl rfl dX12_work_55 ?_
            refine kz_iload_n (pc := 56) 1 (i := 1) rfl rfl dX12_work_56 ?_
            obtain ⟨⟨fs22, he⟩, h⟩ := h
            refine kz_callV (pc := 57) (μ' := mX12_countingIn) (ci := 11) (q := (RX12, TX12, 32)) (b := a0) (d' := d + 3) (mc' := 0) (ms' := 0) (As := [.int p1]) (st := []) (c := 0) (sl := 0) kmX12_countingIn kw_1628 (by omega) rfl (Nat.le_of_ble_eq_true rfl) he rfl rfl (Nat.le_refl _) (Nat.le_refl _) dX12_work_57 (fun E M9 hx => kz_Tout rfl (Nat.le_refl _) (Nat.le_refl _) hx) (kz_Cmono (fun v M19 h => ?_) (fun _ _ h => h) h)
            obtain ⟨r20, rfl, h⟩ := h
            show kz_Z G (d + 4) 0 0 mX12_work Qr Qx 60 [(0, .ref a0), (1, .int p1), (2, .int p2)] [.int r20] M19 0 0
            refine kz_goto (pc := 60) (tgt := 82) (by decide) dX12_work_60 ?_
            exact kz_iret (pc := 82) rfl (Nat.le_refl _) (Nat.le_refl _) dX12_work_82 h
        · replace h := h.2 hb
          refine kz_aload_n (pc := 43) 0 (v := .ref a0) (i := 0) rfl rfl rfl dX12_work_43 ?_
          refine kz_iload_n (pc := 44) 1 (i := 1) rfl rfl dX12_work_44 ?_
          refine kz_iload_n (pc := 45) 2 (i := 2) rfl rfl dX12_work_45 ?_
          obtain ⟨⟨fs26, he⟩, h⟩ := h
          refine kz_callV (pc := 46) (μ' := mX12_of) (ci := 11) (q := (RX12, TX12, 32)) (b := a0) (d' := d + 3) (mc' := 0) (ms' := 0) (As := [.int p1, .int p2]) (st := []) (c := 0) (sl := 0) kmX12_of kw_1620 (by omega) rfl (Nat.le_of_ble_eq_true rfl) he rfl rfl (Nat.le_refl _) (Nat.le_refl _) dX12_work_46 (fun E M9 hx => kz_Tout rfl (Nat.le_refl _) (Nat.le_refl _) hx) (kz_Cmono (fun v M23 h => ?_) (fun _ _ h => h) h)
          obtain ⟨r24, rfl, h⟩ := h
          show kz_Z G (d + 4) 0 0 mX12_work Qr Qx 49 [(0, .ref a0), (1, .int p1), (2, .int p2)] [.int r24] M23 0 0
          exact kz_iret (pc := 49) rfl (Nat.le_refl _) (Nat.le_refl _) dX12_work_49 h
      · replace h := h.2 hb
        refine kz_iconst (pc := 36) (v := 0) (by decide) dX12_work_36 ?_
        exact kz_iret (pc := 37) rfl (Nat.le_refl _) (Nat.le_refl _) dX12_work_37 h
    · replace h := h.2 hb
      refine kz_iconst (pc := 24) (v := 1) (by decide) dX12_work_24 ?_
      refine kz_goto (pc := 25) (tgt := 29) (by decide) dX12_work_25 ?_
      refine kz_iconst (pc := 29) (v := 2) (by decide) dX12_work_29 ?_
      obtain ⟨⟨fs47, he⟩, h⟩ := h
      refine kz_callV (pc := 30) (μ' := mX12_fails) (ci := 11) (q := (RX12, TX12, 32)) (b := a0) (d' := d + 3) (mc' := 0) (ms' := 0) (As := [.int 1, .int 2]) (st := []) (c := 0) (sl := 0) kmX12_fails kw_1653 (by omega) rfl (Nat.le_of_ble_eq_true rfl) he rfl rfl (Nat.le_refl _) (Nat.le_refl _) dX12_work_30 (fun E M9 hx => kz_Tout rfl (Nat.le_refl _) (Nat.le_refl _) hx) (kz_Cmono (fun v M28 h => ?_) (fun _ _ h => h) h)
      obtain ⟨r29, rfl, h⟩ := h
      show kz_Z G (d + 4) 0 0 mX12_work Qr Qx 33 [(0, .ref a0), (1, .int p1), (2, .int p2)] [.int r29] M28 0 0
      refine kz_if_eq (pc := 33) (tgt := 38) (by decide) dX12_work_33 (fun hb => ?_) (fun hb => ?_)
      · replace h := h.1 hb
        refine kz_iload_n (pc := 38) 2 (i := 2) rfl rfl dX12_work_38 ?_
        refine kz_iconst (pc := 39) (v := 5) (by decide) dX12_work_39 ?_
        refine kz_icmp_ge (pc := 40) (tgt := 50) (by decide) dX12_work_40 (fun hb => ?_) (fun hb => ?_)
        · replace h := h.1 hb
          refine kz_iload_n (pc := 50) 2 (i := 2) rfl rfl dX12_work_50 ?_
          refine kz_iconst (pc := 51) (v := 5) (by decide) dX12_work_51 ?_
          refine kz_icmp_ne (pc := 52) (tgt := 63) (by decide) dX12_work_52 (fun hb => ?_) (fun hb => ?_)
          · replace h := h.1 hb
            refine kz_iload_n (pc := 63) 2 (i := 2) rfl rfl dX12_work_63 ?_
            refine kz_bipush (pc := 64) (v := 6) (by decide) dX12_work_64 ?_
            refine kz_icmp_ne (pc := 66) (tgt := 77) (by decide) dX12_work_66 (fun hb => ?_) (fun hb => ?_)
            · replace h := h.1 hb
              refine kz_aload_n (pc := 77) 0 (v := .ref a0) (i := 0) rfl rfl rfl dX12_work_77 ?_
              refine kz_iload_n (pc := 78) 1 (i := 1) rfl rfl dX12_work_78 ?_
              obtain ⟨⟨fs34, he⟩, h⟩ := h
              refine kz_callV (pc := 79) (μ' := mX12_distinctIn) (ci := 11) (q := (RX12, TX12, 32)) (b := a0) (d' := d + 3) (mc' := 0) (ms' := 0) (As := [.int p1]) (st := []) (c := 0) (sl := 0) kmX12_distinctIn kw_1721 (by omega) rfl (Nat.le_of_ble_eq_true rfl) he rfl rfl (Nat.le_refl _) (Nat.le_refl _) dX12_work_79 (fun E M9 hx => kz_Tout rfl (Nat.le_refl _) (Nat.le_refl _) hx) (kz_Cmono (fun v M31 h => ?_) (fun _ _ h => h) h)
              obtain ⟨r32, rfl, h⟩ := h
              show kz_Z G (d + 4) 0 0 mX12_work Qr Qx 82 [(0, .ref a0), (1, .int p1), (2, .int p2)] [.int r32] M31 0 0
              exact kz_iret (pc := 82) rfl (Nat.le_refl _) (Nat.le_refl _) dX12_work_82 h
            · replace h := h.2 hb
              refine kz_aload_n (pc := 69) 0 (v := .ref a0) (i := 0) rfl rfl rfl dX12_work_69 ?_
              refine kz_iload_n (pc := 70) 1 (i := 1) rfl rfl dX12_work_70 ?_
              obtain ⟨⟨fs38, he⟩, h⟩ := h
              refine kz_callV (pc := 71) (μ' := mX12_paysNow) (ci := 11) (q := (RX12, TX12, 32)) (b := a0) (d' := d + 3) (mc' := 0) (ms' := 0) (As := [.int p1]) (st := []) (c := 0) (sl := 0) kmX12_paysNow kw_1717 (by omega) rfl (Nat.le_of_ble_eq_true rfl) he rfl rfl (Nat.le_refl _) (Nat.le_refl _) dX12_work_71 (fun E M9 hx => kz_Tout rfl (Nat.le_refl _) (Nat.le_refl _) hx) (kz_Cmono (fun v M35 h => ?_) (fun _ _ h => h) h)
              obtain ⟨r36, rfl, h⟩ := h
              show kz_Z G (d + 4) 0 0 mX12_work Qr Qx 74 [(0, .ref a0), (1, .int p1), (2, .int p2)] [.int r36] M35 0 0
              refine kz_goto (pc := 74) (tgt := 82) (by decide) dX12_work_74 ?_
              exact kz_iret (pc := 82) rfl (Nat.le_refl _) (Nat.le_refl _) dX12_work_82 h
          · replace h := h.2 hb
            refine kz_aload_n (pc := 55) 0 (v := .ref a0) (i := 0) rfl rfl rfl dX12_work_55 ?_
            refine kz_iload_n (pc := 56) 1 (i := 1) rfl rfl dX12_work_56 ?_
            obtain ⟨⟨fs42, he⟩, h⟩ := h
            refine kz_callV (pc := 57) (μ' := mX12_countingIn) (ci := 11) (q := (RX12, TX12, 32)) (b := a0) (d' := d + 3) (mc' := 0) (ms' := 0) (As := [.int p1]) (st := []) (c := 0) (sl := 0) kmX12_countingIn kw_1628 (by omega) rfl (Nat.le_of_ble_eq_true rfl) he rfl rfl (Nat.le_refl _) (Nat.le_refl _) dX12_work_57 (fun E M9 hx => kz_Tout rfl (Nat.le_refl _) (Nat.le_refl _) hx) (kz_Cmono (fun v M39 h => ?_) (fun _ _ h => h) h)
            obtain ⟨r40, rfl, h⟩ := h
            show kz_Z G (d + 4) 0 0 mX12_work Qr Qx 60 [(0, .ref a0), (1, .int p1), (2, .int p2)] [.int r40] M39 0 0
            refine kz_goto (pc := 60) (tgt := 82) (by decide) dX12_work_60 ?_
            exact kz_iret (pc := 82) rfl (Nat.le_refl _) (Nat.le_refl _) dX12_work_82 h
        · replace h := h.2 hb
          refine kz_aload_n (pc := 43) 0 (v := .ref a0) (i := 0) rfl rfl rfl dX12_work_43 ?_
          refine kz_iload_n (pc := 44) 1 (i := 1) rfl rfl dX12_work_44 ?_
          refine kz_iload_n (pc := 45) 2 (i := 2) rfl rfl dX12_work_45 ?_
          obtain ⟨⟨fs46, he⟩, h⟩ := h
          refine kz_callV (pc := 46) (μ' := mX12_of) (ci := 11) (q := (RX12, TX12, 32)) (b := a0) (d' := d + 3) (mc' := 0) (ms' := 0) (As := [.int p1, .int p2]) (st := []) (c := 0) (sl := 0) kmX12_of kw_1620 (by omega) rfl (Nat.le_of_ble_eq_true rfl) he rfl rfl (Nat.le_refl _) (Nat.le_refl _) dX12_work_46 (fun E M9 hx => kz_Tout rfl (Nat.le_refl _) (Nat.le_refl _) hx) (kz_Cmono (fun v M43 h => ?_) (fun _ _ h => h) h)
          obtain ⟨r44, rfl, h⟩ := h
          show kz_Z G (d + 4) 0 0 mX12_work Qr Qx 49 [(0, .ref a0), (1, .int p1), (2, .int p2)] [.int r44] M43 0 0
          exact kz_iret (pc := 49) rfl (Nat.le_refl _) (Nat.le_refl _) dX12_work_49 h
      · replace h := h.2 hb
        refine kz_iconst (pc := 36) (v := 0) (by decide) dX12_work_36 ?_
        exact kz_iret (pc := 37) rfl (Nat.le_refl _) (Nat.le_refl _) dX12_work_37 h
theorem dX12_line_0 : decode cX12_line 0 = .ok (.aload_n 0, 1) := by decide +kernel
theorem dX12_line_1 : decode cX12_line 1 = .ok (.iconst 0, 1) := by decide +kernel
theorem dX12_line_2 : decode cX12_line 2 = .ok (.putfield 60, 3) := by decide +kernel
theorem dX12_line_5 : decode cX12_line 5 = .ok (.aload_n 0, 1) := by decide +kernel
theorem dX12_line_6 : decode cX12_line 6 = .ok (.iload_n 1, 1) := by decide +kernel
theorem dX12_line_7 : decode cX12_line 7 = .ok (.iload_n 2, 1) := by decide +kernel
theorem dX12_line_8 : decode cX12_line 8 = .ok (.invokevirtual 358, 3) := by decide +kernel
theorem dX12_line_11 : decode cX12_line 11 = .ok (.ifCond .eq 5, 3) := by decide +kernel
theorem dX12_line_14 : decode cX12_line 14 = .ok (.iconst 0, 1) := by decide +kernel
theorem dX12_line_15 : decode cX12_line 15 = .ok (.ireturn, 1) := by decide +kernel
theorem dX12_line_16 : decode cX12_line 16 = .ok (.iload_n 3, 1) := by decide +kernel
theorem dX12_line_17 : decode cX12_line 17 = .ok (.tableswitch 97 0 6 #[43, 51, 59, 66, 74, 82, 90], 43) := by decide +kernel
theorem dX12_line_60 : decode cX12_line 60 = .ok (.aload_n 0, 1) := by decide +kernel
theorem dX12_line_61 : decode cX12_line 61 = .ok (.iload_n 1, 1) := by decide +kernel
theorem dX12_line_62 : decode cX12_line 62 = .ok (.iload_n 2, 1) := by decide +kernel
theorem dX12_line_63 : decode cX12_line 63 = .ok (.iconst 0, 1) := by decide +kernel
theorem dX12_line_64 : decode cX12_line 64 = .ok (.invokevirtual 93, 3) := by decide +kernel
theorem dX12_line_67 : decode cX12_line 67 = .ok (.ireturn, 1) := by decide +kernel
theorem dX12_line_68 : decode cX12_line 68 = .ok (.aload_n 0, 1) := by decide +kernel
theorem dX12_line_69 : decode cX12_line 69 = .ok (.iload_n 1, 1) := by decide +kernel
theorem dX12_line_70 : decode cX12_line 70 = .ok (.iload_n 2, 1) := by decide +kernel
theorem dX12_line_71 : decode cX12_line 71 = .ok (.iconst 1, 1) := by decide +kernel
theorem dX12_line_72 : decode cX12_line 72 = .ok (.invokevirtual 93, 3) := by decide +kernel
theorem dX12_line_75 : decode cX12_line 75 = .ok (.ireturn, 1) := by decide +kernel
theorem dX12_line_76 : decode cX12_line 76 = .ok (.aload_n 0, 1) := by decide +kernel
theorem dX12_line_77 : decode cX12_line 77 = .ok (.iload_n 1, 1) := by decide +kernel
theorem dX12_line_78 : decode cX12_line 78 = .ok (.iload_n 2, 1) := by decide +kernel
theorem dX12_line_79 : decode cX12_line 79 = .ok (.invokevirtual 361, 3) := by decide +kernel
theorem dX12_line_82 : decode cX12_line 82 = .ok (.ireturn, 1) := by decide +kernel
theorem dX12_line_83 : decode cX12_line 83 = .ok (.aload_n 0, 1) := by decide +kernel
theorem dX12_line_84 : decode cX12_line 84 = .ok (.iload_n 1, 1) := by decide +kernel
theorem dX12_line_85 : decode cX12_line 85 = .ok (.iload_n 2, 1) := by decide +kernel
theorem dX12_line_86 : decode cX12_line 86 = .ok (.iconst 2, 1) := by decide +kernel
theorem dX12_line_87 : decode cX12_line 87 = .ok (.invokevirtual 93, 3) := by decide +kernel
theorem dX12_line_90 : decode cX12_line 90 = .ok (.ireturn, 1) := by decide +kernel
theorem dX12_line_91 : decode cX12_line 91 = .ok (.aload_n 0, 1) := by decide +kernel
theorem dX12_line_92 : decode cX12_line 92 = .ok (.iload_n 1, 1) := by decide +kernel
theorem dX12_line_93 : decode cX12_line 93 = .ok (.iload_n 2, 1) := by decide +kernel
theorem dX12_line_94 : decode cX12_line 94 = .ok (.iconst 3, 1) := by decide +kernel
theorem dX12_line_95 : decode cX12_line 95 = .ok (.invokevirtual 93, 3) := by decide +kernel
theorem dX12_line_98 : decode cX12_line 98 = .ok (.ireturn, 1) := by decide +kernel
theorem dX12_line_99 : decode cX12_line 99 = .ok (.aload_n 0, 1) := by decide +kernel
theorem dX12_line_100 : decode cX12_line 100 = .ok (.iload_n 1, 1) := by decide +kernel
theorem dX12_line_101 : decode cX12_line 101 = .ok (.iload_n 2, 1) := by decide +kernel
theorem dX12_line_102 : decode cX12_line 102 = .ok (.iconst 4, 1) := by decide +kernel
theorem dX12_line_103 : decode cX12_line 103 = .ok (.invokevirtual 93, 3) := by decide +kernel
theorem dX12_line_106 : decode cX12_line 106 = .ok (.ireturn, 1) := by decide +kernel
theorem dX12_line_107 : decode cX12_line 107 = .ok (.aload_n 0, 1) := by decide +kernel
theorem dX12_line_108 : decode cX12_line 108 = .ok (.iload_n 1, 1) := by decide +kernel
theorem dX12_line_109 : decode cX12_line 109 = .ok (.iload_n 2, 1) := by decide +kernel
theorem dX12_line_110 : decode cX12_line 110 = .ok (.invokevirtual 364, 3) := by decide +kernel
theorem dX12_line_113 : decode cX12_line 113 = .ok (.ireturn, 1) := by decide +kernel
theorem dX12_line_114 : decode cX12_line 114 = .ok (.aload_n 0, 1) := by decide +kernel
theorem dX12_line_115 : decode cX12_line 115 = .ok (.iconst 2, 1) := by decide +kernel
theorem dX12_line_116 : decode cX12_line 116 = .ok (.putfield 60, 3) := by decide +kernel
theorem dX12_line_119 : decode cX12_line 119 = .ok (.iconst 0, 1) := by decide +kernel
theorem dX12_line_120 : decode cX12_line 120 = .ok (.ireturn, 1) := by decide +kernel
theorem rX12_line_0 {G : kz_G} {d : Nat} {Qr : Option Value → kz_M → Prop} {Qx : String → kz_M → Prop} {a0 : Nat} {p1 : Int32} {p2 : Int32} {p3 : Int32}  {M : kz_M} (h : ∃ fs1, (M).1 a0 = some (.inl (11, fs1)) ∧ 9 < fs1.length ∧ ((∃ fs34, ((kz_up M a0 (.inl (11, fs1.set 9 (.int 0))))).1 a0 = some (.inl (11, fs34))) ∧ kz_C G (d + 3) 0 0 mX12_noLine [.ref a0, .int p1, .int p2] (kz_up M a0 (.inl (11, fs1.set 9 (.int 0)))) (fun v M2 => ∃ r3 : Int32, v = some (.int r3) ∧ ((r3 = 0 → (p3 = 0 → (∃ fs8, (M2).1 a0 = some (.inl (11, fs8))) ∧ kz_C G (d + 3) 0 0 mX12_ofLine [.ref a0, .int p1, .int p2, .int 0] M2 (fun v M5 => ∃ r6 : Int32, v = some (.int r6) ∧ (Qr (some (.int r6)) M5)) Qx) ∧ (p3 = 1 → (∃ fs12, (M2).1 a0 = some (.inl (11, fs12))) ∧ kz_C G (d + 3) 0 0 mX12_ofLine [.ref a0, .int p1, .int p2, .int 1] M2 (fun v M9 => ∃ r10 : Int32, v = some (.int r10) ∧ (Qr (some (.int r10)) M9)) Qx) ∧ (p3 = 2 → (∃ fs16, (M2).1 a0 = some (.inl (11, fs16))) ∧ kz_C G (d + 3) 0 0 mX12_widthOf [.ref a0, .int p1, .int p2] M2 (fun v M13 => ∃ r14 : Int32, v = some (.int r14) ∧ (Qr (some (.int r14)) M13)) Qx) ∧ (p3 = 3 → (∃ fs20, (M2).1 a0 = some (.inl (11, fs20))) ∧ kz_C G (d + 3) 0 0 mX12_ofLine [.ref a0, .int p1, .int p2, .int 2] M2 (fun v M17 => ∃ r18 : Int32, v = some (.int r18) ∧ (Qr (some (.int r18)) M17)) Qx) ∧ (p3 = 4 → (∃ fs24, (M2).1 a0 = some (.inl (11, fs24))) ∧ kz_C G (d + 3) 0 0 mX12_ofLine [.ref a0, .int p1, .int p2, .int 3] M2 (fun v M21 => ∃ r22 : Int32, v = some (.int r22) ∧ (Qr (some (.int r22)) M21)) Qx) ∧ (p3 = 5 → (∃ fs28, (M2).1 a0 = some (.inl (11, fs28))) ∧ kz_C G (d + 3) 0 0 mX12_ofLine [.ref a0, .int p1, .int p2, .int 4] M2 (fun v M25 => ∃ r26 : Int32, v = some (.int r26) ∧ (Qr (some (.int r26)) M25)) Qx) ∧ (p3 = 6 → (∃ fs32, (M2).1 a0 = some (.inl (11, fs32))) ∧ kz_C G (d + 3) 0 0 mX12_distinctOf [.ref a0, .int p1, .int p2] M2 (fun v M29 => ∃ r30 : Int32, v = some (.int r30) ∧ (Qr (some (.int r30)) M29)) Qx) ∧ (¬ p3 = 0 → ¬ p3 = 1 → ¬ p3 = 2 → ¬ p3 = 3 → ¬ p3 = 4 → ¬ p3 = 5 → ¬ p3 = 6 → ∃ fs33, (M2).1 a0 = some (.inl (11, fs33)) ∧ 9 < fs33.length ∧ (Qr (some (.int 0)) (kz_up M2 a0 (.inl (11, fs33.set 9 (.int 2))))))) ∧ (¬ r3 = 0 → Qr (some (.int 0)) M2))) Qx)) : kz_C G (d + 4) 0 0 mX12_line [.ref a0, .int p1, .int p2, .int p3] M Qr Qx := by
  refine kz_enter (n := 3) kmX12_line.1 (Nat.le_of_ble_eq_true rfl) (ls := [(0, .ref a0), (1, .int p1), (2, .int p2), (3, .int p3)]) rfl ?_
  refine kz_aload_n (pc := 0) 0 (v := .ref a0) (i := 0) rfl rfl rfl dX12_line_0 ?_
  refine kz_iconst (pc := 1) (v := 0) (by decide) dX12_line_1 ?_
  obtain ⟨fs1, hM, hlen, h⟩ := h
  refine kz_putf (pc := 2) (k := 9) kcX12 hM (by decide) hlen kw_1387 rfl rfl rfl dX12_line_2 ?_
  refine kz_aload_n (pc := 5) 0 (v := .ref a0) (i := 0) rfl rfl rfl dX12_line_5 ?_
  refine kz_iload_n (pc := 6) 1 (i := 1) rfl rfl dX12_line_6 ?_
  refine kz_iload_n (pc := 7) 2 (i := 2) rfl rfl dX12_line_7 ?_
  obtain ⟨⟨fs34, he⟩, h⟩ := h
  refine kz_callV (pc := 8) (μ' := mX12_noLine) (ci := 11) (q := (RX12, TX12, 32)) (b := a0) (d' := d + 3) (mc' := 0) (ms' := 0) (As := [.int p1, .int p2]) (st := []) (c := 0) (sl := 0) kmX12_noLine kw_1729 (by omega) rfl (Nat.le_of_ble_eq_true rfl) he rfl rfl (Nat.le_refl _) (Nat.le_refl _) dX12_line_8 (fun E M9 hx => kz_Tout rfl (Nat.le_refl _) (Nat.le_refl _) hx) (kz_Cmono (fun v M2 h => ?_) (fun _ _ h => h) h)
  obtain ⟨r3, rfl, h⟩ := h
  show kz_Z G (d + 4) 0 0 mX12_line Qr Qx 11 [(0, .ref a0), (1, .int p1), (2, .int p2), (3, .int p3)] [.int r3] M2 0 0
  refine kz_if_eq (pc := 11) (tgt := 16) (by decide) dX12_line_11 (fun hb => ?_) (fun hb => ?_)
  · replace h := h.1 hb
    refine kz_iload_n (pc := 16) 3 (i := 3) rfl rfl dX12_line_16 ?_
    by_cases hk0 : p3 = 0
    · replace h := h.1 hk0
      refine kz_tableIn (pc := 17) (off := 43) (tgt := 60) (by rw [hk0]; decide) (by rw [hk0]; decide) (by rw [hk0]; decide) (by decide) dX12_line_17 ?_
      refine kz_aload_n (pc := 60) 0 (v := .ref a0) (i := 0) rfl rfl rfl dX12_line_60 ?_
      refine kz_iload_n (pc := 61) 1 (i := 1) rfl rfl dX12_line_61 ?_
      refine kz_iload_n (pc := 62) 2 (i := 2) rfl rfl dX12_line_62 ?_
      refine kz_iconst (pc := 63) (v := 0) (by decide) dX12_line_63 ?_
      obtain ⟨⟨fs8, he⟩, h⟩ := h
      refine kz_callV (pc := 64) (μ' := mX12_ofLine) (ci := 11) (q := (RX12, TX12, 32)) (b := a0) (d' := d + 3) (mc' := 0) (ms' := 0) (As := [.int p1, .int p2, .int 0]) (st := []) (c := 0) (sl := 0) kmX12_ofLine kw_1636 (by omega) rfl (Nat.le_of_ble_eq_true rfl) he rfl rfl (Nat.le_refl _) (Nat.le_refl _) dX12_line_64 (fun E M9 hx => kz_Tout rfl (Nat.le_refl _) (Nat.le_refl _) hx) (kz_Cmono (fun v M5 h => ?_) (fun _ _ h => h) h)
      obtain ⟨r6, rfl, h⟩ := h
      show kz_Z G (d + 4) 0 0 mX12_line Qr Qx 67 [(0, .ref a0), (1, .int p1), (2, .int p2), (3, .int p3)] [.int r6] M5 0 0
      exact kz_iret (pc := 67) rfl (Nat.le_refl _) (Nat.le_refl _) dX12_line_67 h
    by_cases hk1 : p3 = 1
    · replace h := h.2.1 hk1
      refine kz_tableIn (pc := 17) (off := 51) (tgt := 68) (by rw [hk1]; decide) (by rw [hk1]; decide) (by rw [hk1]; decide) (by decide) dX12_line_17 ?_
      refine kz_aload_n (pc := 68) 0 (v := .ref a0) (i := 0) rfl rfl rfl dX12_line_68 ?_
      refine kz_iload_n (pc := 69) 1 (i := 1) rfl rfl dX12_line_69 ?_
      refine kz_iload_n (pc := 70) 2 (i := 2) rfl rfl dX12_line_70 ?_
      refine kz_iconst (pc := 71) (v := 1) (by decide) dX12_line_71 ?_
      obtain ⟨⟨fs12, he⟩, h⟩ := h
      refine kz_callV (pc := 72) (μ' := mX12_ofLine) (ci := 11) (q := (RX12, TX12, 32)) (b := a0) (d' := d + 3) (mc' := 0) (ms' := 0) (As := [.int p1, .int p2, .int 1]) (st := []) (c := 0) (sl := 0) kmX12_ofLine kw_1636 (by omega) rfl (Nat.le_of_ble_eq_true rfl) he rfl rfl (Nat.le_refl _) (Nat.le_refl _) dX12_line_72 (fun E M9 hx => kz_Tout rfl (Nat.le_refl _) (Nat.le_refl _) hx) (kz_Cmono (fun v M9 h => ?_) (fun _ _ h => h) h)
      obtain ⟨r10, rfl, h⟩ := h
      show kz_Z G (d + 4) 0 0 mX12_line Qr Qx 75 [(0, .ref a0), (1, .int p1), (2, .int p2), (3, .int p3)] [.int r10] M9 0 0
      exact kz_iret (pc := 75) rfl (Nat.le_refl _) (Nat.le_refl _) dX12_line_75 h
    by_cases hk2 : p3 = 2
    · replace h := h.2.2.1 hk2
      refine kz_tableIn (pc := 17) (off := 59) (tgt := 76) (by rw [hk2]; decide) (by rw [hk2]; decide) (by rw [hk2]; decide) (by decide) dX12_line_17 ?_
      refine kz_aload_n (pc := 76) 0 (v := .ref a0) (i := 0) rfl rfl rfl dX12_line_76 ?_
      refine kz_iload_n (pc := 77) 1 (i := 1) rfl rfl dX12_line_77 ?_
      refine kz_iload_n (pc := 78) 2 (i := 2) rfl rfl dX12_line_78 ?_
      obtain ⟨⟨fs16, he⟩, h⟩ := h
      refine kz_callV (pc := 79) (μ' := mX12_widthOf) (ci := 11) (q := (RX12, TX12, 32)) (b := a0) (d' := d + 3) (mc' := 0) (ms' := 0) (As := [.int p1, .int p2]) (st := []) (c := 0) (sl := 0) kmX12_widthOf kw_1733 (by omega) rfl (Nat.le_of_ble_eq_true rfl) he rfl rfl (Nat.le_refl _) (Nat.le_refl _) dX12_line_79 (fun E M9 hx => kz_Tout rfl (Nat.le_refl _) (Nat.le_refl _) hx) (kz_Cmono (fun v M13 h => ?_) (fun _ _ h => h) h)
      obtain ⟨r14, rfl, h⟩ := h
      show kz_Z G (d + 4) 0 0 mX12_line Qr Qx 82 [(0, .ref a0), (1, .int p1), (2, .int p2), (3, .int p3)] [.int r14] M13 0 0
      exact kz_iret (pc := 82) rfl (Nat.le_refl _) (Nat.le_refl _) dX12_line_82 h
    by_cases hk3 : p3 = 3
    · replace h := h.2.2.2.1 hk3
      refine kz_tableIn (pc := 17) (off := 66) (tgt := 83) (by rw [hk3]; decide) (by rw [hk3]; decide) (by rw [hk3]; decide) (by decide) dX12_line_17 ?_
      refine kz_aload_n (pc := 83) 0 (v := .ref a0) (i := 0) rfl rfl rfl dX12_line_83 ?_
      refine kz_iload_n (pc := 84) 1 (i := 1) rfl rfl dX12_line_84 ?_
      refine kz_iload_n (pc := 85) 2 (i := 2) rfl rfl dX12_line_85 ?_
      refine kz_iconst (pc := 86) (v := 2) (by decide) dX12_line_86 ?_
      obtain ⟨⟨fs20, he⟩, h⟩ := h
      refine kz_callV (pc := 87) (μ' := mX12_ofLine) (ci := 11) (q := (RX12, TX12, 32)) (b := a0) (d' := d + 3) (mc' := 0) (ms' := 0) (As := [.int p1, .int p2, .int 2]) (st := []) (c := 0) (sl := 0) kmX12_ofLine kw_1636 (by omega) rfl (Nat.le_of_ble_eq_true rfl) he rfl rfl (Nat.le_refl _) (Nat.le_refl _) dX12_line_87 (fun E M9 hx => kz_Tout rfl (Nat.le_refl _) (Nat.le_refl _) hx) (kz_Cmono (fun v M17 h => ?_) (fun _ _ h => h) h)
      obtain ⟨r18, rfl, h⟩ := h
      show kz_Z G (d + 4) 0 0 mX12_line Qr Qx 90 [(0, .ref a0), (1, .int p1), (2, .int p2), (3, .int p3)] [.int r18] M17 0 0
      exact kz_iret (pc := 90) rfl (Nat.le_refl _) (Nat.le_refl _) dX12_line_90 h
    by_cases hk4 : p3 = 4
    · replace h := h.2.2.2.2.1 hk4
      refine kz_tableIn (pc := 17) (off := 74) (tgt := 91) (by rw [hk4]; decide) (by rw [hk4]; decide) (by rw [hk4]; decide) (by decide) dX12_line_17 ?_
      refine kz_aload_n (pc := 91) 0 (v := .ref a0) (i := 0) rfl rfl rfl dX12_line_91 ?_
      refine kz_iload_n (pc := 92) 1 (i := 1) rfl rfl dX12_line_92 ?_
      refine kz_iload_n (pc := 93) 2 (i := 2) rfl rfl dX12_line_93 ?_
      refine kz_iconst (pc := 94) (v := 3) (by decide) dX12_line_94 ?_
      obtain ⟨⟨fs24, he⟩, h⟩ := h
      refine kz_callV (pc := 95) (μ' := mX12_ofLine) (ci := 11) (q := (RX12, TX12, 32)) (b := a0) (d' := d + 3) (mc' := 0) (ms' := 0) (As := [.int p1, .int p2, .int 3]) (st := []) (c := 0) (sl := 0) kmX12_ofLine kw_1636 (by omega) rfl (Nat.le_of_ble_eq_true rfl) he rfl rfl (Nat.le_refl _) (Nat.le_refl _) dX12_line_95 (fun E M9 hx => kz_Tout rfl (Nat.le_refl _) (Nat.le_refl _) hx) (kz_Cmono (fun v M21 h => ?_) (fun _ _ h => h) h)
      obtain ⟨r22, rfl, h⟩ := h
      show kz_Z G (d + 4) 0 0 mX12_line Qr Qx 98 [(0, .ref a0), (1, .int p1), (2, .int p2), (3, .int p3)] [.int r22] M21 0 0
      exact kz_iret (pc := 98) rfl (Nat.le_refl _) (Nat.le_refl _) dX12_line_98 h
    by_cases hk5 : p3 = 5
    · replace h := h.2.2.2.2.2.1 hk5
      refine kz_tableIn (pc := 17) (off := 82) (tgt := 99) (by rw [hk5]; decide) (by rw [hk5]; decide) (by rw [hk5]; decide) (by decide) dX12_line_17 ?_
      refine kz_aload_n (pc := 99) 0 (v := .ref a0) (i := 0) rfl rfl rfl dX12_line_99 ?_
      refine kz_iload_n (pc := 100) 1 (i := 1) rfl rfl dX12_line_100 ?_
      refine kz_iload_n (pc := 101) 2 (i := 2) rfl rfl dX12_line_101 ?_
      refine kz_iconst (pc := 102) (v := 4) (by decide) dX12_line_102 ?_
      obtain ⟨⟨fs28, he⟩, h⟩ := h
      refine kz_callV (pc := 103) (μ' := mX12_ofLine) (ci := 11) (q := (RX12, TX12, 32)) (b := a0) (d' := d + 3) (mc' := 0) (ms' := 0) (As := [.int p1, .int p2, .int 4]) (st := []) (c := 0) (sl := 0) kmX12_ofLine kw_1636 (by omega) rfl (Nat.le_of_ble_eq_true rfl) he rfl rfl (Nat.le_refl _) (Nat.le_refl _) dX12_line_103 (fun E M9 hx => kz_Tout rfl (Nat.le_refl _) (Nat.le_refl _) hx) (kz_Cmono (fun v M25 h => ?_) (fun _ _ h => h) h)
      obtain ⟨r26, rfl, h⟩ := h
      show kz_Z G (d + 4) 0 0 mX12_line Qr Qx 106 [(0, .ref a0), (1, .int p1), (2, .int p2), (3, .int p3)] [.int r26] M25 0 0
      exact kz_iret (pc := 106) rfl (Nat.le_refl _) (Nat.le_refl _) dX12_line_106 h
    by_cases hk6 : p3 = 6
    · replace h := h.2.2.2.2.2.2.1 hk6
      refine kz_tableIn (pc := 17) (off := 90) (tgt := 107) (by rw [hk6]; decide) (by rw [hk6]; decide) (by rw [hk6]; decide) (by decide) dX12_line_17 ?_
      refine kz_aload_n (pc := 107) 0 (v := .ref a0) (i := 0) rfl rfl rfl dX12_line_107 ?_
      refine kz_iload_n (pc := 108) 1 (i := 1) rfl rfl dX12_line_108 ?_
      refine kz_iload_n (pc := 109) 2 (i := 2) rfl rfl dX12_line_109 ?_
      obtain ⟨⟨fs32, he⟩, h⟩ := h
      refine kz_callV (pc := 110) (μ' := mX12_distinctOf) (ci := 11) (q := (RX12, TX12, 32)) (b := a0) (d' := d + 3) (mc' := 0) (ms' := 0) (As := [.int p1, .int p2]) (st := []) (c := 0) (sl := 0) kmX12_distinctOf kw_1740 (by omega) rfl (Nat.le_of_ble_eq_true rfl) he rfl rfl (Nat.le_refl _) (Nat.le_refl _) dX12_line_110 (fun E M9 hx => kz_Tout rfl (Nat.le_refl _) (Nat.le_refl _) hx) (kz_Cmono (fun v M29 h => ?_) (fun _ _ h => h) h)
      obtain ⟨r30, rfl, h⟩ := h
      show kz_Z G (d + 4) 0 0 mX12_line Qr Qx 113 [(0, .ref a0), (1, .int p1), (2, .int p2), (3, .int p3)] [.int r30] M29 0 0
      exact kz_iret (pc := 113) rfl (Nat.le_refl _) (Nat.le_refl _) dX12_line_113 h
    replace h := h.2.2.2.2.2.2.2 hk0 hk1 hk2 hk3 hk4 hk5 hk6
    refine kz_tableOut (pc := 17) (tgt := 114) (kz_swout (lo := 0) (n := 7) (by decide) (by decide) (kz_all7 (kz_swne (by decide) hk0) (kz_swne (by decide) hk1) (kz_swne (by decide) hk2) (kz_swne (by decide) hk3) (kz_swne (by decide) hk4) (kz_swne (by decide) hk5) (kz_swne (by decide) hk6))) (by decide) dX12_line_17 ?_
    refine kz_aload_n (pc := 114) 0 (v := .ref a0) (i := 0) rfl rfl rfl dX12_line_114 ?_
    refine kz_iconst (pc := 115) (v := 2) (by decide) dX12_line_115 ?_
    obtain ⟨fs33, hM, hlen, h⟩ := h
    refine kz_putf (pc := 116) (k := 9) kcX12 hM (by decide) hlen kw_1387 rfl rfl rfl dX12_line_116 ?_
    refine kz_iconst (pc := 119) (v := 0) (by decide) dX12_line_119 ?_
    exact kz_iret (pc := 120) rfl (Nat.le_refl _) (Nat.le_refl _) dX12_line_120 h
  · replace h := h.2 hb
    refine kz_iconst (pc := 14) (v := 0) (by decide) dX12_line_14 ?_
    exact kz_iret (pc := 15) rfl (Nat.le_refl _) (Nat.le_refl _) dX12_line_15 h
theorem dX12_likeLine_0 : decode cX12_likeLine 0 = .ok (.aload_n 0, 1) := by decide +kernel
theorem dX12_likeLine_1 : decode cX12_likeLine 1 = .ok (.iconst 0, 1) := by decide +kernel
theorem dX12_likeLine_2 : decode cX12_likeLine 2 = .ok (.putfield 60, 3) := by decide +kernel
theorem dX12_likeLine_5 : decode cX12_likeLine 5 = .ok (.aload_n 0, 1) := by decide +kernel
theorem dX12_likeLine_6 : decode cX12_likeLine 6 = .ok (.iload_n 1, 1) := by decide +kernel
theorem dX12_likeLine_7 : decode cX12_likeLine 7 = .ok (.iload_n 2, 1) := by decide +kernel
theorem dX12_likeLine_8 : decode cX12_likeLine 8 = .ok (.invokevirtual 358, 3) := by decide +kernel
theorem dX12_likeLine_11 : decode cX12_likeLine 11 = .ok (.ifCond .eq 5, 3) := by decide +kernel
theorem dX12_likeLine_14 : decode cX12_likeLine 14 = .ok (.iconst 0, 1) := by decide +kernel
theorem dX12_likeLine_15 : decode cX12_likeLine 15 = .ok (.ireturn, 1) := by decide +kernel
theorem dX12_likeLine_16 : decode cX12_likeLine 16 = .ok (.iconst 0, 1) := by decide +kernel
theorem dX12_likeLine_17 : decode cX12_likeLine 17 = .ok (.istore_n 3, 1) := by decide +kernel
theorem dX12_likeLine_18 : decode cX12_likeLine 18 = .ok (.iload_n 3, 1) := by decide +kernel
theorem dX12_likeLine_19 : decode cX12_likeLine 19 = .ok (.iload_n 1, 1) := by decide +kernel
theorem dX12_likeLine_20 : decode cX12_likeLine 20 = .ok (.if_icmp .gt 79, 3) := by decide +kernel
theorem dX12_likeLine_23 : decode cX12_likeLine 23 = .ok (.aload_n 0, 1) := by decide +kernel
theorem dX12_likeLine_24 : decode cX12_likeLine 24 = .ok (.iload_n 3, 1) := by decide +kernel
theorem dX12_likeLine_25 : decode cX12_likeLine 25 = .ok (.aload_n 0, 1) := by decide +kernel
theorem dX12_likeLine_26 : decode cX12_likeLine 26 = .ok (.iload_n 1, 1) := by decide +kernel
theorem dX12_likeLine_27 : decode cX12_likeLine 27 = .ok (.iconst 0, 1) := by decide +kernel
theorem dX12_likeLine_28 : decode cX12_likeLine 28 = .ok (.invokevirtual 101, 3) := by decide +kernel
theorem dX12_likeLine_31 : decode cX12_likeLine 31 = .ok (.invokevirtual 116, 3) := by decide +kernel
theorem dX12_likeLine_34 : decode cX12_likeLine 34 = .ok (.ifCond .ne 6, 3) := by decide +kernel
theorem dX12_likeLine_37 : decode cX12_likeLine 37 = .ok (.goto 56, 3) := by decide +kernel
theorem dX12_likeLine_40 : decode cX12_likeLine 40 = .ok (.iconst 0, 1) := by decide +kernel
theorem dX12_likeLine_41 : decode cX12_likeLine 41 = .ok (.istore 4, 2) := by decide +kernel
theorem dX12_likeLine_43 : decode cX12_likeLine 43 = .ok (.iload 4, 2) := by decide +kernel
theorem dX12_likeLine_45 : decode cX12_likeLine 45 = .ok (.aload_n 0, 1) := by decide +kernel
theorem dX12_likeLine_46 : decode cX12_likeLine 46 = .ok (.iload_n 3, 1) := by decide +kernel
theorem dX12_likeLine_47 : decode cX12_likeLine 47 = .ok (.iconst 4, 1) := by decide +kernel
theorem dX12_likeLine_48 : decode cX12_likeLine 48 = .ok (.invokevirtual 101, 3) := by decide +kernel
theorem dX12_likeLine_51 : decode cX12_likeLine 51 = .ok (.if_icmp .ge 42, 3) := by decide +kernel
theorem dX12_likeLine_54 : decode cX12_likeLine 54 = .ok (.iload_n 3, 1) := by decide +kernel
theorem dX12_likeLine_55 : decode cX12_likeLine 55 = .ok (.iload_n 1, 1) := by decide +kernel
theorem dX12_likeLine_56 : decode cX12_likeLine 56 = .ok (.if_icmp .ne 11, 3) := by decide +kernel
theorem dX12_likeLine_59 : decode cX12_likeLine 59 = .ok (.iload 4, 2) := by decide +kernel
theorem dX12_likeLine_61 : decode cX12_likeLine 61 = .ok (.iload_n 2, 1) := by decide +kernel
theorem dX12_likeLine_62 : decode cX12_likeLine 62 = .ok (.if_icmp .ne 5, 3) := by decide +kernel
theorem dX12_likeLine_65 : decode cX12_likeLine 65 = .ok (.iconst (-1), 1) := by decide +kernel
theorem dX12_likeLine_66 : decode cX12_likeLine 66 = .ok (.ireturn, 1) := by decide +kernel
theorem dX12_likeLine_67 : decode cX12_likeLine 67 = .ok (.aload_n 0, 1) := by decide +kernel
theorem dX12_likeLine_68 : decode cX12_likeLine 68 = .ok (.iload_n 1, 1) := by decide +kernel
theorem dX12_likeLine_69 : decode cX12_likeLine 69 = .ok (.iload_n 2, 1) := by decide +kernel
theorem dX12_likeLine_70 : decode cX12_likeLine 70 = .ok (.iload_n 3, 1) := by decide +kernel
theorem dX12_likeLine_71 : decode cX12_likeLine 71 = .ok (.iload 4, 2) := by decide +kernel
theorem dX12_likeLine_73 : decode cX12_likeLine 73 = .ok (.invokevirtual 367, 3) := by decide +kernel
theorem dX12_likeLine_76 : decode cX12_likeLine 76 = .ok (.ifCond .eq 11, 3) := by decide +kernel
theorem dX12_likeLine_79 : decode cX12_likeLine 79 = .ok (.bipush 100, 2) := by decide +kernel
theorem dX12_likeLine_81 : decode cX12_likeLine 81 = .ok (.iload_n 3, 1) := by decide +kernel
theorem dX12_likeLine_82 : decode cX12_likeLine 82 = .ok (.imul, 1) := by decide +kernel
theorem dX12_likeLine_83 : decode cX12_likeLine 83 = .ok (.iload 4, 2) := by decide +kernel
theorem dX12_likeLine_85 : decode cX12_likeLine 85 = .ok (.iadd, 1) := by decide +kernel
theorem dX12_likeLine_86 : decode cX12_likeLine 86 = .ok (.ireturn, 1) := by decide +kernel
theorem dX12_likeLine_87 : decode cX12_likeLine 87 = .ok (.iinc 4 1, 3) := by decide +kernel
theorem dX12_likeLine_90 : decode cX12_likeLine 90 = .ok (.goto (-47), 3) := by decide +kernel
theorem dX12_likeLine_93 : decode cX12_likeLine 93 = .ok (.iinc 3 1, 3) := by decide +kernel
theorem dX12_likeLine_96 : decode cX12_likeLine 96 = .ok (.goto (-78), 3) := by decide +kernel
theorem dX12_likeLine_99 : decode cX12_likeLine 99 = .ok (.iconst (-1), 1) := by decide +kernel
theorem dX12_likeLine_100 : decode cX12_likeLine 100 = .ok (.ireturn, 1) := by decide +kernel
def zX12_likeLine_18 (G : kz_G) (d : Nat) (Qr : Option Value → kz_M → Prop) (Qx : String → kz_M → Prop) (x0 : Nat) (x1 : Int32) (x2 : Int32) (x3 : Int32)  (M : kz_M) : Prop := kz_Z G (d + 4) 0 0 mX12_likeLine Qr Qx 18 [(0, .ref x0), (1, .int x1), (2, .int x2), (3, .int x3)] [] M 0 0
def zX12_likeLine_43 (G : kz_G) (d : Nat) (Qr : Option Value → kz_M → Prop) (Qx : String → kz_M → Prop) (x0 : Nat) (x1 : Int32) (x2 : Int32) (x3 : Int32) (x4 : Int32)  (M : kz_M) : Prop := kz_Z G (d + 4) 0 0 mX12_likeLine Qr Qx 43 [(0, .ref x0), (1, .int x1), (2, .int x2), (3, .int x3), (4, .int x4)] [] M 0 0
theorem rX12_likeLine_0 {G : kz_G} {d : Nat} {Qr : Option Value → kz_M → Prop} {Qx : String → kz_M → Prop} {a0 : Nat} {p1 : Int32} {p2 : Int32}  {M : kz_M} (h : ∃ fs1, (M).1 a0 = some (.inl (11, fs1)) ∧ 9 < fs1.length ∧ ((∃ fs5, ((kz_up M a0 (.inl (11, fs1.set 9 (.int 0))))).1 a0 = some (.inl (11, fs5))) ∧ kz_C G (d + 3) 0 0 mX12_noLine [.ref a0, .int p1, .int p2] (kz_up M a0 (.inl (11, fs1.set 9 (.int 0)))) (fun v M2 => ∃ r3 : Int32, v = some (.int r3) ∧ ((r3 = 0 → zX12_likeLine_18 G d Qr Qx a0 p1 p2 0 M2) ∧ (¬ r3 = 0 → Qr (some (.int 0)) M2))) Qx)) : kz_C G (d + 4) 0 0 mX12_likeLine [.ref a0, .int p1, .int p2] M Qr Qx := by
  refine kz_enter (n := 2) kmX12_likeLine.1 (Nat.le_of_ble_eq_true rfl) (ls := [(0, .ref a0), (1, .int p1), (2, .int p2)]) rfl ?_
  refine kz_aload_n (pc := 0) 0 (v := .ref a0) (i := 0) rfl rfl rfl dX12_likeLine_0 ?_
  refine kz_iconst (pc := 1) (v := 0) (by decide) dX12_likeLine_1 ?_
  obtain ⟨fs1, hM, hlen, h⟩ := h
  refine kz_putf (pc := 2) (k := 9) kcX12 hM (by decide) hlen kw_1387 rfl rfl rfl dX12_likeLine_2 ?_
  refine kz_aload_n (pc := 5) 0 (v := .ref a0) (i := 0) rfl rfl rfl dX12_likeLine_5 ?_
  refine kz_iload_n (pc := 6) 1 (i := 1) rfl rfl dX12_likeLine_6 ?_
  refine kz_iload_n (pc := 7) 2 (i := 2) rfl rfl dX12_likeLine_7 ?_
  obtain ⟨⟨fs5, he⟩, h⟩ := h
  refine kz_callV (pc := 8) (μ' := mX12_noLine) (ci := 11) (q := (RX12, TX12, 32)) (b := a0) (d' := d + 3) (mc' := 0) (ms' := 0) (As := [.int p1, .int p2]) (st := []) (c := 0) (sl := 0) kmX12_noLine kw_1729 (by omega) rfl (Nat.le_of_ble_eq_true rfl) he rfl rfl (Nat.le_refl _) (Nat.le_refl _) dX12_likeLine_8 (fun E M9 hx => kz_Tout rfl (Nat.le_refl _) (Nat.le_refl _) hx) (kz_Cmono (fun v M2 h => ?_) (fun _ _ h => h) h)
  obtain ⟨r3, rfl, h⟩ := h
  show kz_Z G (d + 4) 0 0 mX12_likeLine Qr Qx 11 [(0, .ref a0), (1, .int p1), (2, .int p2)] [.int r3] M2 0 0
  refine kz_if_eq (pc := 11) (tgt := 16) (by decide) dX12_likeLine_11 (fun hb => ?_) (fun hb => ?_)
  · replace h := h.1 hb
    refine kz_iconst (pc := 16) (v := 0) (by decide) dX12_likeLine_16 ?_
    refine kz_istore_n (pc := 17) (i := 3) (ls' := [(0, .ref a0), (1, .int p1), (2, .int p2)]) rfl (by decide) rfl dX12_likeLine_17 ?_
    refine kz_sub [1, 2, 3, 0] rfl ?_
    exact h
  · replace h := h.2 hb
    refine kz_iconst (pc := 14) (v := 0) (by decide) dX12_likeLine_14 ?_
    exact kz_iret (pc := 15) rfl (Nat.le_refl _) (Nat.le_refl _) dX12_likeLine_15 h
theorem rX12_likeLine_18 {G : kz_G} {d : Nat} {Qr : Option Value → kz_M → Prop} {Qx : String → kz_M → Prop} {x0 : Nat} {x1 : Int32} {x2 : Int32} {x3 : Int32}  {M : kz_M} (h : (x1 < x3 → Qr (some (.int ((-1)))) M) ∧ (¬ x1 < x3 → (∃ fs8, (M).1 x0 = some (.inl (11, fs8))) ∧ kz_C G (d + 3) 0 0 mX12_of [.ref x0, .int x1, .int 0] M (fun v M1 => ∃ r2 : Int32, v = some (.int r2) ∧ ((∃ fs7, (M1).1 x0 = some (.inl (11, fs7))) ∧ kz_C G (d + 3) 0 0 mX12_isBy [.ref x0, .int x3, .int r2] M1 (fun v M4 => ∃ r5 : Int32, v = some (.int r5) ∧ ((¬ r5 = 0 → zX12_likeLine_43 G d Qr Qx x0 x1 x2 x3 0 M4) ∧ (r5 = 0 → zX12_likeLine_18 G d Qr Qx x0 x1 x2 (x3 + 1) M4))) Qx)) Qx)) : zX12_likeLine_18 G d Qr Qx x0 x1 x2 x3  M := by
  show kz_Z G (d + 4) 0 0 mX12_likeLine Qr Qx 18 [(0, .ref x0), (1, .int x1), (2, .int x2), (3, .int x3)] [] M 0 0
  refine kz_iload_n (pc := 18) 3 (i := 3) rfl rfl dX12_likeLine_18 ?_
  refine kz_iload_n (pc := 19) 1 (i := 1) rfl rfl dX12_likeLine_19 ?_
  refine kz_icmp_gt (pc := 20) (tgt := 99) (by decide) dX12_likeLine_20 (fun hb => ?_) (fun hb => ?_)
  · replace h := h.1 hb
    refine kz_iconst (pc := 99) (v := (-1)) (by decide) dX12_likeLine_99 ?_
    exact kz_iret (pc := 100) rfl (Nat.le_refl _) (Nat.le_refl _) dX12_likeLine_100 h
  · replace h := h.2 hb
    refine kz_aload_n (pc := 23) 0 (v := .ref x0) (i := 0) rfl rfl rfl dX12_likeLine_23 ?_
    refine kz_iload_n (pc := 24) 3 (i := 3) rfl rfl dX12_likeLine_24 ?_
    refine kz_aload_n (pc := 25) 0 (v := .ref x0) (i := 0) rfl rfl rfl dX12_likeLine_25 ?_
    refine kz_iload_n (pc := 26) 1 (i := 1) rfl rfl dX12_likeLine_26 ?_
    refine kz_iconst (pc := 27) (v := 0) (by decide) dX12_likeLine_27 ?_
    obtain ⟨⟨fs8, he⟩, h⟩ := h
    refine kz_callV (pc := 28) (μ' := mX12_of) (ci := 11) (q := (RX12, TX12, 32)) (b := x0) (d' := d + 3) (mc' := 0) (ms' := 0) (As := [.int x1, .int 0]) (st := [.int x3, .ref x0]) (c := 0) (sl := 0) kmX12_of kw_1620 (by omega) rfl (Nat.le_of_ble_eq_true rfl) he rfl rfl (Nat.le_refl _) (Nat.le_refl _) dX12_likeLine_28 (fun E M9 hx => kz_Tout rfl (Nat.le_refl _) (Nat.le_refl _) hx) (kz_Cmono (fun v M1 h => ?_) (fun _ _ h => h) h)
    obtain ⟨r2, rfl, h⟩ := h
    show kz_Z G (d + 4) 0 0 mX12_likeLine Qr Qx 31 [(0, .ref x0), (1, .int x1), (2, .int x2), (3, .int x3)] [.int r2, .int x3, .ref x0] M1 0 0
    obtain ⟨⟨fs7, he⟩, h⟩ := h
    refine kz_callV (pc := 31) (μ' := mX12_isBy) (ci := 11) (q := (RX12, TX12, 32)) (b := x0) (d' := d + 3) (mc' := 0) (ms' := 0) (As := [.int x3, .int r2]) (st := []) (c := 0) (sl := 0) kmX12_isBy kw_1616 (by omega) rfl (Nat.le_of_ble_eq_true rfl) he rfl rfl (Nat.le_refl _) (Nat.le_refl _) dX12_likeLine_31 (fun E M9 hx => kz_Tout rfl (Nat.le_refl _) (Nat.le_refl _) hx) (kz_Cmono (fun v M4 h => ?_) (fun _ _ h => h) h)
    obtain ⟨r5, rfl, h⟩ := h
    show kz_Z G (d + 4) 0 0 mX12_likeLine Qr Qx 34 [(0, .ref x0), (1, .int x1), (2, .int x2), (3, .int x3)] [.int r5] M4 0 0
    refine kz_if_ne (pc := 34) (tgt := 40) (by decide) dX12_likeLine_34 (fun hb => ?_) (fun hb => ?_)
    · replace h := h.1 hb
      refine kz_iconst (pc := 40) (v := 0) (by decide) dX12_likeLine_40 ?_
      refine kz_istore (pc := 41) (i := 4) (ls' := [(0, .ref x0), (1, .int x1), (2, .int x2), (3, .int x3)]) (by decide) rfl dX12_likeLine_41 ?_
      refine kz_sub [1, 2, 3, 4, 0] rfl ?_
      exact h
    · replace h := h.2 hb
      refine kz_goto (pc := 37) (tgt := 93) (by decide) dX12_likeLine_37 ?_
      refine kz_iinc (pc := 93) 3 (i := 3) (v := x3 + 1) (ls' := [(0, .ref x0), (1, .int x1), (2, .int x2)]) rfl (congrArg (fun z => x3 + z) (by decide)) (by decide) rfl dX12_likeLine_93 ?_
      refine kz_goto (pc := 96) (tgt := 18) (by decide) dX12_likeLine_96 ?_
      refine kz_sub [1, 2, 3, 0] rfl ?_
      exact h
theorem rX12_likeLine_43 {G : kz_G} {d : Nat} {Qr : Option Value → kz_M → Prop} {Qx : String → kz_M → Prop} {x0 : Nat} {x1 : Int32} {x2 : Int32} {x3 : Int32} {x4 : Int32}  {M : kz_M} (h : (∃ fs12, (M).1 x0 = some (.inl (11, fs12))) ∧ kz_C G (d + 3) 0 0 mX12_of [.ref x0, .int x3, .int 4] M (fun v M1 => ∃ r2 : Int32, v = some (.int r2) ∧ ((r2 ≤ x4 → zX12_likeLine_18 G d Qr Qx x0 x1 x2 (x3 + 1) M1) ∧ (¬ r2 ≤ x4 → (¬ x3 = x1 → (∃ fs7, (M1).1 x0 = some (.inl (11, fs7))) ∧ kz_C G (d + 3) 0 0 mX12_areAlike [.ref x0, .int x1, .int x2, .int x3, .int x4] M1 (fun v M4 => ∃ r5 : Int32, v = some (.int r5) ∧ ((r5 = 0 → zX12_likeLine_43 G d Qr Qx x0 x1 x2 x3 (x4 + 1) M4) ∧ (¬ r5 = 0 → Qr (some (.int ((100 * x3) + x4))) M4))) Qx) ∧ (x3 = x1 → (¬ x4 = x2 → (∃ fs11, (M1).1 x0 = some (.inl (11, fs11))) ∧ kz_C G (d + 3) 0 0 mX12_areAlike [.ref x0, .int x1, .int x2, .int x3, .int x4] M1 (fun v M8 => ∃ r9 : Int32, v = some (.int r9) ∧ ((r9 = 0 → zX12_likeLine_43 G d Qr Qx x0 x1 x2 x3 (x4 + 1) M8) ∧ (¬ r9 = 0 → Qr (some (.int ((100 * x3) + x4))) M8))) Qx) ∧ (x4 = x2 → Qr (some (.int ((-1)))) M1))))) Qx) : zX12_likeLine_43 G d Qr Qx x0 x1 x2 x3 x4  M := by
  show kz_Z G (d + 4) 0 0 mX12_likeLine Qr Qx 43 [(0, .ref x0), (1, .int x1), (2, .int x2), (3, .int x3), (4, .int x4)] [] M 0 0
  refine kz_iload (pc := 43) 4 (i := 4) rfl dX12_likeLine_43 ?_
  refine kz_aload_n (pc := 45) 0 (v := .ref x0) (i := 0) rfl rfl rfl dX12_likeLine_45 ?_
  refine kz_iload_n (pc := 46) 3 (i := 3) rfl rfl dX12_likeLine_46 ?_
  refine kz_iconst (pc := 47) (v := 4) (by decide) dX12_likeLine_47 ?_
  obtain ⟨⟨fs12, he⟩, h⟩ := h
  refine kz_callV (pc := 48) (μ' := mX12_of) (ci := 11) (q := (RX12, TX12, 32)) (b := x0) (d' := d + 3) (mc' := 0) (ms' := 0) (As := [.int x3, .int 4]) (st := [.int x4]) (c := 0) (sl := 0) kmX12_of kw_1620 (by omega) rfl (Nat.le_of_ble_eq_true rfl) he rfl rfl (Nat.le_refl _) (Nat.le_refl _) dX12_likeLine_48 (fun E M9 hx => kz_Tout rfl (Nat.le_refl _) (Nat.le_refl _) hx) (kz_Cmono (fun v M1 h => ?_) (fun _ _ h => h) h)
  obtain ⟨r2, rfl, h⟩ := h
  show kz_Z G (d + 4) 0 0 mX12_likeLine Qr Qx 51 [(0, .ref x0), (1, .int x1), (2, .int x2), (3, .int x3), (4, .int x4)] [.int r2, .int x4] M1 0 0
  refine kz_icmp_ge (pc := 51) (tgt := 93) (by decide) dX12_likeLine_51 (fun hb => ?_) (fun hb => ?_)
  · replace h := h.1 hb
    refine kz_iinc (pc := 93) 3 (i := 3) (v := x3 + 1) (ls' := [(0, .ref x0), (1, .int x1), (2, .int x2), (4, .int x4)]) rfl (congrArg (fun z => x3 + z) (by decide)) (by decide) rfl dX12_likeLine_93 ?_
    refine kz_goto (pc := 96) (tgt := 18) (by decide) dX12_likeLine_96 ?_
    refine kz_sub [1, 2, 3, 0] rfl ?_
    exact h
  · replace h := h.2 hb
    refine kz_iload_n (pc := 54) 3 (i := 3) rfl rfl dX12_likeLine_54 ?_
    refine kz_iload_n (pc := 55) 1 (i := 1) rfl rfl dX12_likeLine_55 ?_
    refine kz_icmp_ne (pc := 56) (tgt := 67) (by decide) dX12_likeLine_56 (fun hb => ?_) (fun hb => ?_)
    · replace h := h.1 hb
      refine kz_aload_n (pc := 67) 0 (v := .ref x0) (i := 0) rfl rfl rfl dX12_likeLine_67 ?_
      refine kz_iload_n (pc := 68) 1 (i := 1) rfl rfl dX12_likeLine_68 ?_
      refine kz_iload_n (pc := 69) 2 (i := 2) rfl rfl dX12_likeLine_69 ?_
      refine kz_iload_n (pc := 70) 3 (i := 3) rfl rfl dX12_likeLine_70 ?_
      refine kz_iload (pc := 71) 4 (i := 4) rfl dX12_likeLine_71 ?_
      obtain ⟨⟨fs7, he⟩, h⟩ := h
      refine kz_callV (pc := 73) (μ' := mX12_areAlike) (ci := 11) (q := (RX12, TX12, 32)) (b := x0) (d' := d + 3) (mc' := 0) (ms' := 0) (As := [.int x1, .int x2, .int x3, .int x4]) (st := []) (c := 0) (sl := 0) kmX12_areAlike kw_1748 (by omega) rfl (Nat.le_of_ble_eq_true rfl) he rfl rfl (Nat.le_refl _) (Nat.le_refl _) dX12_likeLine_73 (fun E M9 hx => kz_Tout rfl (Nat.le_refl _) (Nat.le_refl _) hx) (kz_Cmono (fun v M4 h => ?_) (fun _ _ h => h) h)
      obtain ⟨r5, rfl, h⟩ := h
      show kz_Z G (d + 4) 0 0 mX12_likeLine Qr Qx 76 [(0, .ref x0), (1, .int x1), (2, .int x2), (3, .int x3), (4, .int x4)] [.int r5] M4 0 0
      refine kz_if_eq (pc := 76) (tgt := 87) (by decide) dX12_likeLine_76 (fun hb => ?_) (fun hb => ?_)
      · replace h := h.1 hb
        refine kz_iinc (pc := 87) 4 (i := 4) (v := x4 + 1) (ls' := [(0, .ref x0), (1, .int x1), (2, .int x2), (3, .int x3)]) rfl (congrArg (fun z => x4 + z) (by decide)) (by decide) rfl dX12_likeLine_87 ?_
        refine kz_goto (pc := 90) (tgt := 43) (by decide) dX12_likeLine_90 ?_
        refine kz_sub [1, 2, 3, 4, 0] rfl ?_
        exact h
      · replace h := h.2 hb
        refine kz_bipush (pc := 79) (v := 100) (by decide) dX12_likeLine_79 ?_
        refine kz_iload_n (pc := 81) 3 (i := 3) rfl rfl dX12_likeLine_81 ?_
        refine kz_imul (pc := 82) dX12_likeLine_82 ?_
        refine kz_iload (pc := 83) 4 (i := 4) rfl dX12_likeLine_83 ?_
        refine kz_iadd (pc := 85) dX12_likeLine_85 ?_
        exact kz_iret (pc := 86) rfl (Nat.le_refl _) (Nat.le_refl _) dX12_likeLine_86 h
    · replace h := h.2 hb
      refine kz_iload (pc := 59) 4 (i := 4) rfl dX12_likeLine_59 ?_
      refine kz_iload_n (pc := 61) 2 (i := 2) rfl rfl dX12_likeLine_61 ?_
      refine kz_icmp_ne (pc := 62) (tgt := 67) (by decide) dX12_likeLine_62 (fun hb => ?_) (fun hb => ?_)
      · replace h := h.1 hb
        refine kz_aload_n (pc := 67) 0 (v := .ref x0) (i := 0) rfl rfl rfl dX12_likeLine_67 ?_
        refine kz_iload_n (pc := 68) 1 (i := 1) rfl rfl dX12_likeLine_68 ?_
        refine kz_iload_n (pc := 69) 2 (i := 2) rfl rfl dX12_likeLine_69 ?_
        refine kz_iload_n (pc := 70) 3 (i := 3) rfl rfl dX12_likeLine_70 ?_
        refine kz_iload (pc := 71) 4 (i := 4) rfl dX12_likeLine_71 ?_
        obtain ⟨⟨fs11, he⟩, h⟩ := h
        refine kz_callV (pc := 73) (μ' := mX12_areAlike) (ci := 11) (q := (RX12, TX12, 32)) (b := x0) (d' := d + 3) (mc' := 0) (ms' := 0) (As := [.int x1, .int x2, .int x3, .int x4]) (st := []) (c := 0) (sl := 0) kmX12_areAlike kw_1748 (by omega) rfl (Nat.le_of_ble_eq_true rfl) he rfl rfl (Nat.le_refl _) (Nat.le_refl _) dX12_likeLine_73 (fun E M9 hx => kz_Tout rfl (Nat.le_refl _) (Nat.le_refl _) hx) (kz_Cmono (fun v M8 h => ?_) (fun _ _ h => h) h)
        obtain ⟨r9, rfl, h⟩ := h
        show kz_Z G (d + 4) 0 0 mX12_likeLine Qr Qx 76 [(0, .ref x0), (1, .int x1), (2, .int x2), (3, .int x3), (4, .int x4)] [.int r9] M8 0 0
        refine kz_if_eq (pc := 76) (tgt := 87) (by decide) dX12_likeLine_76 (fun hb => ?_) (fun hb => ?_)
        · replace h := h.1 hb
          refine kz_iinc (pc := 87) 4 (i := 4) (v := x4 + 1) (ls' := [(0, .ref x0), (1, .int x1), (2, .int x2), (3, .int x3)]) rfl (congrArg (fun z => x4 + z) (by decide)) (by decide) rfl dX12_likeLine_87 ?_
          refine kz_goto (pc := 90) (tgt := 43) (by decide) dX12_likeLine_90 ?_
          refine kz_sub [1, 2, 3, 4, 0] rfl ?_
          exact h
        · replace h := h.2 hb
          refine kz_bipush (pc := 79) (v := 100) (by decide) dX12_likeLine_79 ?_
          refine kz_iload_n (pc := 81) 3 (i := 3) rfl rfl dX12_likeLine_81 ?_
          refine kz_imul (pc := 82) dX12_likeLine_82 ?_
          refine kz_iload (pc := 83) 4 (i := 4) rfl dX12_likeLine_83 ?_
          refine kz_iadd (pc := 85) dX12_likeLine_85 ?_
          exact kz_iret (pc := 86) rfl (Nat.le_refl _) (Nat.le_refl _) dX12_likeLine_86 h
      · replace h := h.2 hb
        refine kz_iconst (pc := 65) (v := (-1)) (by decide) dX12_likeLine_65 ?_
        exact kz_iret (pc := 66) rfl (Nat.le_refl _) (Nat.le_refl _) dX12_likeLine_66 h
theorem dX12_letters_0 : decode cX12_letters 0 = .ok (.aload_n 0, 1) := by decide +kernel
theorem dX12_letters_1 : decode cX12_letters 1 = .ok (.iconst 0, 1) := by decide +kernel
theorem dX12_letters_2 : decode cX12_letters 2 = .ok (.putfield 60, 3) := by decide +kernel
theorem dX12_letters_5 : decode cX12_letters 5 = .ok (.aload_n 0, 1) := by decide +kernel
theorem dX12_letters_6 : decode cX12_letters 6 = .ok (.iload_n 1, 1) := by decide +kernel
theorem dX12_letters_7 : decode cX12_letters 7 = .ok (.invokevirtual 314, 3) := by decide +kernel
theorem dX12_letters_10 : decode cX12_letters 10 = .ok (.ifCond .ne 32, 3) := by decide +kernel
theorem dX12_letters_13 : decode cX12_letters 13 = .ok (.aload_n 0, 1) := by decide +kernel
theorem dX12_letters_14 : decode cX12_letters 14 = .ok (.iload_n 2, 1) := by decide +kernel
theorem dX12_letters_15 : decode cX12_letters 15 = .ok (.iconst 0, 1) := by decide +kernel
theorem dX12_letters_16 : decode cX12_letters 16 = .ok (.aload_n 0, 1) := by decide +kernel
theorem dX12_letters_17 : decode cX12_letters 17 = .ok (.iload_n 1, 1) := by decide +kernel
theorem dX12_letters_18 : decode cX12_letters 18 = .ok (.iconst 3, 1) := by decide +kernel
theorem dX12_letters_19 : decode cX12_letters 19 = .ok (.invokevirtual 101, 3) := by decide +kernel
theorem dX12_letters_22 : decode cX12_letters 22 = .ok (.iconst 1, 1) := by decide +kernel
theorem dX12_letters_23 : decode cX12_letters 23 = .ok (.isub, 1) := by decide +kernel
theorem dX12_letters_24 : decode cX12_letters 24 = .ok (.invokestatic 67, 3) := by decide +kernel
theorem dX12_letters_27 : decode cX12_letters 27 = .ok (.ifCond .ne 7, 3) := by decide +kernel
theorem dX12_letters_30 : decode cX12_letters 30 = .ok (.iconst 1, 1) := by decide +kernel
theorem dX12_letters_31 : decode cX12_letters 31 = .ok (.goto 4, 3) := by decide +kernel
theorem dX12_letters_34 : decode cX12_letters 34 = .ok (.iconst 0, 1) := by decide +kernel
theorem dX12_letters_35 : decode cX12_letters 35 = .ok (.iconst 1, 1) := by decide +kernel
theorem dX12_letters_36 : decode cX12_letters 36 = .ok (.invokevirtual 310, 3) := by decide +kernel
theorem dX12_letters_39 : decode cX12_letters 39 = .ok (.ifCond .eq 7, 3) := by decide +kernel
theorem dX12_letters_42 : decode cX12_letters 42 = .ok (.iconst 0, 1) := by decide +kernel
theorem dX12_letters_43 : decode cX12_letters 43 = .ok (.goto 12, 3) := by decide +kernel
theorem dX12_letters_46 : decode cX12_letters 46 = .ok (.aload_n 0, 1) := by decide +kernel
theorem dX12_letters_47 : decode cX12_letters 47 = .ok (.iload_n 1, 1) := by decide +kernel
theorem dX12_letters_48 : decode cX12_letters 48 = .ok (.iload_n 2, 1) := by decide +kernel
theorem dX12_letters_49 : decode cX12_letters 49 = .ok (.invokevirtual 97, 3) := by decide +kernel
theorem dX12_letters_52 : decode cX12_letters 52 = .ok (.invokestatic 108, 3) := by decide +kernel
theorem dX12_letters_55 : decode cX12_letters 55 = .ok (.ireturn, 1) := by decide +kernel
theorem rX12_letters_0 {G : kz_G} {d : Nat} {Qr : Option Value → kz_M → Prop} {Qx : String → kz_M → Prop} {a0 : Nat} {p1 : Int32} {p2 : Int32}  {M : kz_M} (h : ∃ fs1, (M).1 a0 = some (.inl (11, fs1)) ∧ 9 < fs1.length ∧ ((∃ fs37, ((kz_up M a0 (.inl (11, fs1.set 9 (.int 0))))).1 a0 = some (.inl (11, fs37))) ∧ kz_C G (d + 1) 0 0 mX12_noWork [.ref a0, .int p1] (kz_up M a0 (.inl (11, fs1.set 9 (.int 0)))) (fun v M2 => ∃ r3 : Int32, v = some (.int r3) ∧ ((¬ r3 = 0 → Qr (some (.int 0)) M2) ∧ (r3 = 0 → (∃ fs36, (M2).1 a0 = some (.inl (11, fs36))) ∧ kz_C G (d + 1) 0 0 mX12_of [.ref a0, .int p1, .int 3] M2 (fun v M5 => ∃ r6 : Int32, v = some (.int r6) ∧ (kz_C G (d + 1) 0 0 mX12_inRange [.int p2, .int 0, .int (r6 - 1)] M5 (fun v M8 => ∃ r9 : Int32, v = some (.int r9) ∧ ((¬ r9 = 0 → (∃ fs22, (M8).1 a0 = some (.inl (11, fs22))) ∧ kz_C G (d + 1) 0 0 mX12_fails [.ref a0, .int 0, .int 1] M8 (fun v M11 => ∃ r12 : Int32, v = some (.int r12) ∧ ((r12 = 0 → (∃ fs21, (M11).1 a0 = some (.inl (11, fs21))) ∧ kz_C G (d + 1) 0 0 mX12_word [.ref a0, .int p1, .int p2] M11 (fun v M14 => ∃ r15 : Int64, v = some (.long r15) ∧ (kz_C G (d + 1) 0 0 mX12_lettersOf [.long r15] M14 (fun v M17 => ∃ r18 : Int32, v = some (.int r18) ∧ (Qr (some (.int r18)) M17)) Qx)) Qx) ∧ (¬ r12 = 0 → Qr (some (.int 0)) M11))) Qx) ∧ (r9 = 0 → (∃ fs34, (M8).1 a0 = some (.inl (11, fs34))) ∧ kz_C G (d + 1) 0 0 mX12_fails [.ref a0, .int 1, .int 1] M8 (fun v M23 => ∃ r24 : Int32, v = some (.int r24) ∧ ((r24 = 0 → (∃ fs33, (M23).1 a0 = some (.inl (11, fs33))) ∧ kz_C G (d + 1) 0 0 mX12_word [.ref a0, .int p1, .int p2] M23 (fun v M26 => ∃ r27 : Int64, v = some (.long r27) ∧ (kz_C G (d + 1) 0 0 mX12_lettersOf [.long r27] M26 (fun v M29 => ∃ r30 : Int32, v = some (.int r30) ∧ (Qr (some (.int r30)) M29)) Qx)) Qx) ∧ (¬ r24 = 0 → Qr (some (.int 0)) M23))) Qx))) Qx)) Qx))) Qx)) : kz_C G (d + 2) 0 0 mX12_letters [.ref a0, .int p1, .int p2] M Qr Qx := by
  refine kz_enter (n := 2) kmX12_letters.1 (Nat.le_of_ble_eq_true rfl) (ls := [(0, .ref a0), (1, .int p1), (2, .int p2)]) rfl ?_
  refine kz_aload_n (pc := 0) 0 (v := .ref a0) (i := 0) rfl rfl rfl dX12_letters_0 ?_
  refine kz_iconst (pc := 1) (v := 0) (by decide) dX12_letters_1 ?_
  obtain ⟨fs1, hM, hlen, h⟩ := h
  refine kz_putf (pc := 2) (k := 9) kcX12 hM (by decide) hlen kw_1387 rfl rfl rfl dX12_letters_2 ?_
  refine kz_aload_n (pc := 5) 0 (v := .ref a0) (i := 0) rfl rfl rfl dX12_letters_5 ?_
  refine kz_iload_n (pc := 6) 1 (i := 1) rfl rfl dX12_letters_6 ?_
  obtain ⟨⟨fs37, he⟩, h⟩ := h
  refine kz_callV (pc := 7) (μ' := mX12_noWork) (ci := 11) (q := (RX12, TX12, 32)) (b := a0) (d' := d + 1) (mc' := 0) (ms' := 0) (As := [.int p1]) (st := []) (c := 0) (sl := 0) kmX12_noWork kw_1713 (by omega) rfl (Nat.le_of_ble_eq_true rfl) he rfl rfl (Nat.le_refl _) (Nat.le_refl _) dX12_letters_7 (fun E M9 hx => kz_Tout rfl (Nat.le_refl _) (Nat.le_refl _) hx) (kz_Cmono (fun v M2 h => ?_) (fun _ _ h => h) h)
  obtain ⟨r3, rfl, h⟩ := h
  show kz_Z G (d + 2) 0 0 mX12_letters Qr Qx 10 [(0, .ref a0), (1, .int p1), (2, .int p2)] [.int r3] M2 0 0
  refine kz_if_ne (pc := 10) (tgt := 42) (by decide) dX12_letters_10 (fun hb => ?_) (fun hb => ?_)
  · replace h := h.1 hb
    refine kz_iconst (pc := 42) (v := 0) (by decide) dX12_letters_42 ?_
    refine kz_goto (pc := 43) (tgt := 55) (by decide) dX12_letters_43 ?_
    exact kz_iret (pc := 55) rfl (Nat.le_refl _) (Nat.le_refl _) dX12_letters_55 h
  · replace h := h.2 hb
    refine kz_aload_n (pc := 13) 0 (v := .ref a0) (i := 0) rfl rfl rfl dX12_letters_13 ?_
    refine kz_iload_n (pc := 14) 2 (i := 2) rfl rfl dX12_letters_14 ?_
    refine kz_iconst (pc := 15) (v := 0) (by decide) dX12_letters_15 ?_
    refine kz_aload_n (pc := 16) 0 (v := .ref a0) (i := 0) rfl rfl rfl dX12_letters_16 ?_
    refine kz_iload_n (pc := 17) 1 (i := 1) rfl rfl dX12_letters_17 ?_
    refine kz_iconst (pc := 18) (v := 3) (by decide) dX12_letters_18 ?_
    obtain ⟨⟨fs36, he⟩, h⟩ := h
    refine kz_callV (pc := 19) (μ' := mX12_of) (ci := 11) (q := (RX12, TX12, 32)) (b := a0) (d' := d + 1) (mc' := 0) (ms' := 0) (As := [.int p1, .int 3]) (st := [.int 0, .int p2, .ref a0]) (c := 0) (sl := 0) kmX12_of kw_1620 (by omega) rfl (Nat.le_of_ble_eq_true rfl) he rfl rfl (Nat.le_refl _) (Nat.le_refl _) dX12_letters_19 (fun E M9 hx => kz_Tout rfl (Nat.le_refl _) (Nat.le_refl _) hx) (kz_Cmono (fun v M5 h => ?_) (fun _ _ h => h) h)
    obtain ⟨r6, rfl, h⟩ := h
    show kz_Z G (d + 2) 0 0 mX12_letters Qr Qx 22 [(0, .ref a0), (1, .int p1), (2, .int p2)] [.int r6, .int 0, .int p2, .ref a0] M5 0 0
    refine kz_iconst (pc := 22) (v := 1) (by decide) dX12_letters_22 ?_
    refine kz_isub (pc := 23) dX12_letters_23 ?_
    refine kz_callS (pc := 24) (μ' := mX12_inRange) (d' := d + 1) (mc' := 0) (ms' := 0) (As := [.int p2, .int 0, .int (r6 - 1)]) (st := [.ref a0]) (c := 0) (sl := 0) kmX12_inRange kw_1491 (by omega) rfl (Nat.le_of_ble_eq_true rfl) (Nat.le_refl _) (Nat.le_refl _) dX12_letters_24 (fun E M9 hx => kz_Tout rfl (Nat.le_refl _) (Nat.le_refl _) hx) (kz_Cmono (fun v M8 h => ?_) (fun _ _ h => h) h)
    obtain ⟨r9, rfl, h⟩ := h
    show kz_Z G (d + 2) 0 0 mX12_letters Qr Qx 27 [(0, .ref a0), (1, .int p1), (2, .int p2)] [.int r9, .ref a0] M8 0 0
    refine kz_if_ne (pc := 27) (tgt := 34) (by decide) dX12_letters_27 (fun hb => ?_) (fun hb => ?_)
    · replace h := h.1 hb
      refine kz_iconst (pc := 34) (v := 0) (by decide) dX12_letters_34 ?_
      refine kz_iconst (pc := 35) (v := 1) (by decide) dX12_letters_35 ?_
      obtain ⟨⟨fs22, he⟩, h⟩ := h
      refine kz_callV (pc := 36) (μ' := mX12_fails) (ci := 11) (q := (RX12, TX12, 32)) (b := a0) (d' := d + 1) (mc' := 0) (ms' := 0) (As := [.int 0, .int 1]) (st := []) (c := 0) (sl := 0) kmX12_fails kw_1653 (by omega) rfl (Nat.le_of_ble_eq_true rfl) he rfl rfl (Nat.le_refl _) (Nat.le_refl _) dX12_letters_36 (fun E M9 hx => kz_Tout rfl (Nat.le_refl _) (Nat.le_refl _) hx) (kz_Cmono (fun v M11 h => ?_) (fun _ _ h => h) h)
      obtain ⟨r12, rfl, h⟩ := h
      show kz_Z G (d + 2) 0 0 mX12_letters Qr Qx 39 [(0, .ref a0), (1, .int p1), (2, .int p2)] [.int r12] M11 0 0
      refine kz_if_eq (pc := 39) (tgt := 46) (by decide) dX12_letters_39 (fun hb => ?_) (fun hb => ?_)
      · replace h := h.1 hb
        refine kz_aload_n (pc := 46) 0 (v := .ref a0) (i := 0) rfl rfl rfl dX12_letters_46 ?_
        refine kz_iload_n (pc := 47) 1 (i := 1) rfl rfl dX12_letters_47 ?_
        refine kz_iload_n (pc := 48) 2 (i := 2) rfl rfl dX12_letters_48 ?_
        obtain ⟨⟨fs21, he⟩, h⟩ := h
        refine kz_callV (pc := 49) (μ' := mX12_word) (ci := 11) (q := (RX12, TX12, 32)) (b := a0) (d' := d + 1) (mc' := 0) (ms' := 0) (As := [.int p1, .int p2]) (st := []) (c := 0) (sl := 0) kmX12_word kw_1689 (by omega) rfl (Nat.le_of_ble_eq_true rfl) he rfl rfl (Nat.le_refl _) (Nat.le_refl _) dX12_letters_49 (fun E M9 hx => kz_Tout rfl (Nat.le_refl _) (Nat.le_refl _) hx) (kz_Cmono (fun v M14 h => ?_) (fun _ _ h => h) h)
        obtain ⟨r15, rfl, h⟩ := h
        show kz_Z G (d + 2) 0 0 mX12_letters Qr Qx 52 [(0, .ref a0), (1, .int p1), (2, .int p2)] [.long r15] M14 0 0
        refine kz_callS (pc := 52) (μ' := mX12_lettersOf) (d' := d + 1) (mc' := 0) (ms' := 0) (As := [.long r15]) (st := []) (c := 0) (sl := 0) kmX12_lettersOf kw_1737 (by omega) rfl (Nat.le_of_ble_eq_true rfl) (Nat.le_refl _) (Nat.le_refl _) dX12_letters_52 (fun E M9 hx => kz_Tout rfl (Nat.le_refl _) (Nat.le_refl _) hx) (kz_Cmono (fun v M17 h => ?_) (fun _ _ h => h) h)
        obtain ⟨r18, rfl, h⟩ := h
        show kz_Z G (d + 2) 0 0 mX12_letters Qr Qx 55 [(0, .ref a0), (1, .int p1), (2, .int p2)] [.int r18] M17 0 0
        exact kz_iret (pc := 55) rfl (Nat.le_refl _) (Nat.le_refl _) dX12_letters_55 h
      · replace h := h.2 hb
        refine kz_iconst (pc := 42) (v := 0) (by decide) dX12_letters_42 ?_
        refine kz_goto (pc := 43) (tgt := 55) (by decide) dX12_letters_43 ?_
        exact kz_iret (pc := 55) rfl (Nat.le_refl _) (Nat.le_refl _) dX12_letters_55 h
    · replace h := h.2 hb
      refine kz_iconst (pc := 30) (v := 1) (by decide) dX12_letters_30 ?_
      refine kz_goto (pc := 31) (tgt := 35) (by decide) dX12_letters_31 ?_
      refine kz_iconst (pc := 35) (v := 1) (by decide) dX12_letters_35 ?_
      obtain ⟨⟨fs34, he⟩, h⟩ := h
      refine kz_callV (pc := 36) (μ' := mX12_fails) (ci := 11) (q := (RX12, TX12, 32)) (b := a0) (d' := d + 1) (mc' := 0) (ms' := 0) (As := [.int 1, .int 1]) (st := []) (c := 0) (sl := 0) kmX12_fails kw_1653 (by omega) rfl (Nat.le_of_ble_eq_true rfl) he rfl rfl (Nat.le_refl _) (Nat.le_refl _) dX12_letters_36 (fun E M9 hx => kz_Tout rfl (Nat.le_refl _) (Nat.le_refl _) hx) (kz_Cmono (fun v M23 h => ?_) (fun _ _ h => h) h)
      obtain ⟨r24, rfl, h⟩ := h
      show kz_Z G (d + 2) 0 0 mX12_letters Qr Qx 39 [(0, .ref a0), (1, .int p1), (2, .int p2)] [.int r24] M23 0 0
      refine kz_if_eq (pc := 39) (tgt := 46) (by decide) dX12_letters_39 (fun hb => ?_) (fun hb => ?_)
      · replace h := h.1 hb
        refine kz_aload_n (pc := 46) 0 (v := .ref a0) (i := 0) rfl rfl rfl dX12_letters_46 ?_
        refine kz_iload_n (pc := 47) 1 (i := 1) rfl rfl dX12_letters_47 ?_
        refine kz_iload_n (pc := 48) 2 (i := 2) rfl rfl dX12_letters_48 ?_
        obtain ⟨⟨fs33, he⟩, h⟩ := h
        refine kz_callV (pc := 49) (μ' := mX12_word) (ci := 11) (q := (RX12, TX12, 32)) (b := a0) (d' := d + 1) (mc' := 0) (ms' := 0) (As := [.int p1, .int p2]) (st := []) (c := 0) (sl := 0) kmX12_word kw_1689 (by omega) rfl (Nat.le_of_ble_eq_true rfl) he rfl rfl (Nat.le_refl _) (Nat.le_refl _) dX12_letters_49 (fun E M9 hx => kz_Tout rfl (Nat.le_refl _) (Nat.le_refl _) hx) (kz_Cmono (fun v M26 h => ?_) (fun _ _ h => h) h)
        obtain ⟨r27, rfl, h⟩ := h
        show kz_Z G (d + 2) 0 0 mX12_letters Qr Qx 52 [(0, .ref a0), (1, .int p1), (2, .int p2)] [.long r27] M26 0 0
        refine kz_callS (pc := 52) (μ' := mX12_lettersOf) (d' := d + 1) (mc' := 0) (ms' := 0) (As := [.long r27]) (st := []) (c := 0) (sl := 0) kmX12_lettersOf kw_1737 (by omega) rfl (Nat.le_of_ble_eq_true rfl) (Nat.le_refl _) (Nat.le_refl _) dX12_letters_52 (fun E M9 hx => kz_Tout rfl (Nat.le_refl _) (Nat.le_refl _) hx) (kz_Cmono (fun v M29 h => ?_) (fun _ _ h => h) h)
        obtain ⟨r30, rfl, h⟩ := h
        show kz_Z G (d + 2) 0 0 mX12_letters Qr Qx 55 [(0, .ref a0), (1, .int p1), (2, .int p2)] [.int r30] M29 0 0
        exact kz_iret (pc := 55) rfl (Nat.le_refl _) (Nat.le_refl _) dX12_letters_55 h
      · replace h := h.2 hb
        refine kz_iconst (pc := 42) (v := 0) (by decide) dX12_letters_42 ?_
        refine kz_goto (pc := 43) (tgt := 55) (by decide) dX12_letters_43 ?_
        exact kz_iret (pc := 55) rfl (Nat.le_refl _) (Nat.le_refl _) dX12_letters_55 h
theorem dX12_uses_0 : decode cX12_uses 0 = .ok (.aload_n 0, 1) := by decide +kernel
theorem dX12_uses_1 : decode cX12_uses 1 = .ok (.iconst 0, 1) := by decide +kernel
theorem dX12_uses_2 : decode cX12_uses 2 = .ok (.putfield 60, 3) := by decide +kernel
theorem dX12_uses_5 : decode cX12_uses 5 = .ok (.aload_n 0, 1) := by decide +kernel
theorem dX12_uses_6 : decode cX12_uses 6 = .ok (.iload_n 1, 1) := by decide +kernel
theorem dX12_uses_7 : decode cX12_uses 7 = .ok (.invokevirtual 340, 3) := by decide +kernel
theorem dX12_uses_10 : decode cX12_uses 10 = .ok (.ifCond .eq 5, 3) := by decide +kernel
theorem dX12_uses_13 : decode cX12_uses 13 = .ok (.iconst 0, 1) := by decide +kernel
theorem dX12_uses_14 : decode cX12_uses 14 = .ok (.ireturn, 1) := by decide +kernel
theorem dX12_uses_15 : decode cX12_uses 15 = .ok (.aload_n 0, 1) := by decide +kernel
theorem dX12_uses_16 : decode cX12_uses 16 = .ok (.getfield 177, 3) := by decide +kernel
theorem dX12_uses_19 : decode cX12_uses 19 = .ok (.istore_n 2, 1) := by decide +kernel
theorem dX12_uses_20 : decode cX12_uses 20 = .ok (.aload_n 0, 1) := by decide +kernel
theorem dX12_uses_21 : decode cX12_uses 21 = .ok (.iconst 0, 1) := by decide +kernel
theorem dX12_uses_22 : decode cX12_uses 22 = .ok (.putfield 177, 3) := by decide +kernel
theorem dX12_uses_25 : decode cX12_uses 25 = .ok (.iload_n 2, 1) := by decide +kernel
theorem dX12_uses_26 : decode cX12_uses 26 = .ok (.iconst 1, 1) := by decide +kernel
theorem dX12_uses_27 : decode cX12_uses 27 = .ok (.bipush 12, 2) := by decide +kernel
theorem dX12_uses_29 : decode cX12_uses 29 = .ok (.invokestatic 67, 3) := by decide +kernel
theorem dX12_uses_32 : decode cX12_uses 32 = .ok (.ifCond .ne 5, 3) := by decide +kernel
theorem dX12_uses_35 : decode cX12_uses 35 = .ok (.iconst 0, 1) := by decide +kernel
theorem dX12_uses_36 : decode cX12_uses 36 = .ok (.ireturn, 1) := by decide +kernel
theorem dX12_uses_37 : decode cX12_uses 37 = .ok (.lconst 0, 1) := by decide +kernel
theorem dX12_uses_38 : decode cX12_uses 38 = .ok (.lstore_n 3, 1) := by decide +kernel
theorem dX12_uses_39 : decode cX12_uses 39 = .ok (.iconst 0, 1) := by decide +kernel
theorem dX12_uses_40 : decode cX12_uses 40 = .ok (.istore 5, 2) := by decide +kernel
theorem dX12_uses_42 : decode cX12_uses 42 = .ok (.iload 5, 2) := by decide +kernel
theorem dX12_uses_44 : decode cX12_uses 44 = .ok (.iload_n 2, 1) := by decide +kernel
theorem dX12_uses_45 : decode cX12_uses 45 = .ok (.if_icmp .ge 40, 3) := by decide +kernel
theorem dX12_uses_48 : decode cX12_uses 48 = .ok (.aload_n 0, 1) := by decide +kernel
theorem dX12_uses_49 : decode cX12_uses 49 = .ok (.getfield 47, 3) := by decide +kernel
theorem dX12_uses_52 : decode cX12_uses 52 = .ok (.iload 5, 2) := by decide +kernel
theorem dX12_uses_54 : decode cX12_uses 54 = .ok (.iaload, 1) := by decide +kernel
theorem dX12_uses_55 : decode cX12_uses 55 = .ok (.invokestatic 174, 3) := by decide +kernel
theorem dX12_uses_58 : decode cX12_uses 58 = .ok (.ifCond .ne 5, 3) := by decide +kernel
theorem dX12_uses_61 : decode cX12_uses 61 = .ok (.iconst 0, 1) := by decide +kernel
theorem dX12_uses_62 : decode cX12_uses 62 = .ok (.ireturn, 1) := by decide +kernel
theorem dX12_uses_63 : decode cX12_uses 63 = .ok (.lload_n 3, 1) := by decide +kernel
theorem dX12_uses_64 : decode cX12_uses 64 = .ok (.iconst 5, 1) := by decide +kernel
theorem dX12_uses_65 : decode cX12_uses 65 = .ok (.lshl, 1) := by decide +kernel
theorem dX12_uses_66 : decode cX12_uses 66 = .ok (.aload_n 0, 1) := by decide +kernel
theorem dX12_uses_67 : decode cX12_uses 67 = .ok (.getfield 47, 3) := by decide +kernel
theorem dX12_uses_70 : decode cX12_uses 70 = .ok (.iload 5, 2) := by decide +kernel
theorem dX12_uses_72 : decode cX12_uses 72 = .ok (.iaload, 1) := by decide +kernel
theorem dX12_uses_73 : decode cX12_uses 73 = .ok (.bipush 96, 2) := by decide +kernel
theorem dX12_uses_75 : decode cX12_uses 75 = .ok (.isub, 1) := by decide +kernel
theorem dX12_uses_76 : decode cX12_uses 76 = .ok (.i2l, 1) := by decide +kernel
theorem dX12_uses_77 : decode cX12_uses 77 = .ok (.lor, 1) := by decide +kernel
theorem dX12_uses_78 : decode cX12_uses 78 = .ok (.lstore_n 3, 1) := by decide +kernel
theorem dX12_uses_79 : decode cX12_uses 79 = .ok (.iinc 5 1, 3) := by decide +kernel
theorem dX12_uses_82 : decode cX12_uses 82 = .ok (.goto (-40), 3) := by decide +kernel
theorem dX12_uses_85 : decode cX12_uses 85 = .ok (.aload_n 0, 1) := by decide +kernel
theorem dX12_uses_86 : decode cX12_uses 86 = .ok (.lload_n 3, 1) := by decide +kernel
theorem dX12_uses_87 : decode cX12_uses 87 = .ok (.iload_n 1, 1) := by decide +kernel
theorem dX12_uses_88 : decode cX12_uses 88 = .ok (.aload_n 0, 1) := by decide +kernel
theorem dX12_uses_89 : decode cX12_uses 89 = .ok (.getfield 7, 3) := by decide +kernel
theorem dX12_uses_92 : decode cX12_uses 92 = .ok (.iconst 1, 1) := by decide +kernel
theorem dX12_uses_93 : decode cX12_uses 93 = .ok (.iaload, 1) := by decide +kernel
theorem dX12_uses_94 : decode cX12_uses 94 = .ok (.invokevirtual 153, 3) := by decide +kernel
theorem dX12_uses_97 : decode cX12_uses 97 = .ok (.ireturn, 1) := by decide +kernel
def zX12_uses_42 (G : kz_G) (d : Nat) (Qr : Option Value → kz_M → Prop) (Qx : String → kz_M → Prop) (x0 : Nat) (x1 : Int32) (x2 : Int32) (x3 : Int64) (x5 : Int32)  (M : kz_M) : Prop := kz_Z G (d + 5) 0 0 mX12_uses Qr Qx 42 [(0, .ref x0), (1, .int x1), (2, .int x2), (3, .long x3), (5, .int x5)] [] M 0 0
theorem rX12_uses_0 {G : kz_G} {d : Nat} {Qr : Option Value → kz_M → Prop} {Qx : String → kz_M → Prop} {a0 : Nat} {p1 : Int32}  {M : kz_M} (h : ∃ fs1, (M).1 a0 = some (.inl (11, fs1)) ∧ 9 < fs1.length ∧ ((∃ fs12, ((kz_up M a0 (.inl (11, fs1.set 9 (.int 0))))).1 a0 = some (.inl (11, fs12))) ∧ kz_C G (d + 4) 0 0 mX12_noWriter [.ref a0, .int p1] (kz_up M a0 (.inl (11, fs1.set 9 (.int 0)))) (fun v M2 => ∃ r3 : Int32, v = some (.int r3) ∧ ((r3 = 0 → ∃ fs5 v6, (M2).1 a0 = some (.inl (11, fs5)) ∧ fs5[19]? = some (.int v6) ∧ (∃ fs7, (M2).1 a0 = some (.inl (11, fs7)) ∧ 19 < fs7.length ∧ (kz_C G (d + 4) 0 0 mX12_inRange [.int v6, .int 1, .int 12] (kz_up M2 a0 (.inl (11, fs7.set 19 (.int 0)))) (fun v M8 => ∃ r9 : Int32, v = some (.int r9) ∧ ((¬ r9 = 0 → zX12_uses_42 G d Qr Qx a0 p1 v6 0 0 M8) ∧ (r9 = 0 → Qr (some (.int 0)) M8))) Qx))) ∧ (¬ r3 = 0 → Qr (some (.int 0)) M2))) Qx)) : kz_C G (d + 5) 0 0 mX12_uses [.ref a0, .int p1] M Qr Qx := by
  refine kz_enter (n := 1) kmX12_uses.1 (Nat.le_of_ble_eq_true rfl) (ls := [(0, .ref a0), (1, .int p1)]) rfl ?_
  refine kz_aload_n (pc := 0) 0 (v := .ref a0) (i := 0) rfl rfl rfl dX12_uses_0 ?_
  refine kz_iconst (pc := 1) (v := 0) (by decide) dX12_uses_1 ?_
  obtain ⟨fs1, hM, hlen, h⟩ := h
  refine kz_putf (pc := 2) (k := 9) kcX12 hM (by decide) hlen kw_1387 rfl rfl rfl dX12_uses_2 ?_
  refine kz_aload_n (pc := 5) 0 (v := .ref a0) (i := 0) rfl rfl rfl dX12_uses_5 ?_
  refine kz_iload_n (pc := 6) 1 (i := 1) rfl rfl dX12_uses_6 ?_
  obtain ⟨⟨fs12, he⟩, h⟩ := h
  refine kz_callV (pc := 7) (μ' := mX12_noWriter) (ci := 11) (q := (RX12, TX12, 32)) (b := a0) (d' := d + 4) (mc' := 0) (ms' := 0) (As := [.int p1]) (st := []) (c := 0) (sl := 0) kmX12_noWriter kw_1665 (by omega) rfl (Nat.le_of_ble_eq_true rfl) he rfl rfl (Nat.le_refl _) (Nat.le_refl _) dX12_uses_7 (fun E M9 hx => kz_Tout rfl (Nat.le_refl _) (Nat.le_refl _) hx) (kz_Cmono (fun v M2 h => ?_) (fun _ _ h => h) h)
  obtain ⟨r3, rfl, h⟩ := h
  show kz_Z G (d + 5) 0 0 mX12_uses Qr Qx 10 [(0, .ref a0), (1, .int p1)] [.int r3] M2 0 0
  refine kz_if_eq (pc := 10) (tgt := 15) (by decide) dX12_uses_10 (fun hb => ?_) (fun hb => ?_)
  · replace h := h.1 hb
    refine kz_aload_n (pc := 15) 0 (v := .ref a0) (i := 0) rfl rfl rfl dX12_uses_15 ?_
    obtain ⟨fs5, v6, hM, hv, h⟩ := h
    refine kz_getf (pc := 16) (k := 19) kcX12 hM hv (by decide) kw_1397 dX12_uses_16 ?_
    refine kz_istore_n (pc := 19) (i := 2) (ls' := [(0, .ref a0), (1, .int p1)]) rfl (by decide) rfl dX12_uses_19 ?_
    refine kz_aload_n (pc := 20) 1 (v := .ref a0) (i := 0) rfl rfl rfl dX12_uses_20 ?_
    refine kz_iconst (pc := 21) (v := 0) (by decide) dX12_uses_21 ?_
    obtain ⟨fs7, hM, hlen, h⟩ := h
    refine kz_putf (pc := 22) (k := 19) kcX12 hM (by decide) hlen kw_1397 rfl rfl rfl dX12_uses_22 ?_
    refine kz_iload_n (pc := 25) 0 (i := 2) rfl rfl dX12_uses_25 ?_
    refine kz_iconst (pc := 26) (v := 1) (by decide) dX12_uses_26 ?_
    refine kz_bipush (pc := 27) (v := 12) (by decide) dX12_uses_27 ?_
    refine kz_callS (pc := 29) (μ' := mX12_inRange) (d' := d + 4) (mc' := 0) (ms' := 0) (As := [.int v6, .int 1, .int 12]) (st := []) (c := 0) (sl := 0) kmX12_inRange kw_1491 (by omega) rfl (Nat.le_of_ble_eq_true rfl) (Nat.le_refl _) (Nat.le_refl _) dX12_uses_29 (fun E M9 hx => kz_Tout rfl (Nat.le_refl _) (Nat.le_refl _) hx) (kz_Cmono (fun v M8 h => ?_) (fun _ _ h => h) h)
    obtain ⟨r9, rfl, h⟩ := h
    show kz_Z G (d + 5) 0 0 mX12_uses Qr Qx 32 [(2, .int v6), (0, .ref a0), (1, .int p1)] [.int r9] M8 0 0
    refine kz_if_ne (pc := 32) (tgt := 37) (by decide) dX12_uses_32 (fun hb => ?_) (fun hb => ?_)
    · replace h := h.1 hb
      refine kz_lconst (pc := 37) (v := 0) (by decide) dX12_uses_37 ?_
      refine kz_lstore_n (pc := 38) (i := 3) (ls' := [(2, .int v6), (0, .ref a0), (1, .int p1)]) rfl (by decide) rfl dX12_uses_38 ?_
      refine kz_iconst (pc := 39) (v := 0) (by decide) dX12_uses_39 ?_
      refine kz_istore (pc := 40) (i := 5) (ls' := [(3, .long 0), (2, .int v6), (0, .ref a0), (1, .int p1)]) (by decide) rfl dX12_uses_40 ?_
      refine kz_sub [3, 4, 2, 1, 0] rfl ?_
      exact h
    · replace h := h.2 hb
      refine kz_iconst (pc := 35) (v := 0) (by decide) dX12_uses_35 ?_
      exact kz_iret (pc := 36) rfl (Nat.le_refl _) (Nat.le_refl _) dX12_uses_36 h
  · replace h := h.2 hb
    refine kz_iconst (pc := 13) (v := 0) (by decide) dX12_uses_13 ?_
    exact kz_iret (pc := 14) rfl (Nat.le_refl _) (Nat.le_refl _) dX12_uses_14 h
theorem rX12_uses_42 {G : kz_G} {d : Nat} {Qr : Option Value → kz_M → Prop} {Qx : String → kz_M → Prop} {x0 : Nat} {x1 : Int32} {x2 : Int32} {x3 : Int64} {x5 : Int32}  {M : kz_M} (h : (x2 ≤ x5 → ∃ fs1 v2, (M).1 x0 = some (.inl (11, fs1)) ∧ fs1[0]? = some (.ref v2) ∧ (∃ n3 f4, (M).1 v2 = some (.inr (.int, n3, .inl f4)) ∧ vp_in (1 : Int32) n3 ∧ ((∃ fs8, (M).1 x0 = some (.inl (11, fs8))) ∧ kz_C G (d + 4) 0 0 mX12_usesOf [.ref x0, .long x3, .int x1, .int (f4 (1 : Int32).toNatClampNeg)] M (fun v M5 => ∃ r6 : Int32, v = some (.int r6) ∧ (Qr (some (.int r6)) M5)) Qx))) ∧ (¬ x2 ≤ x5 → ∃ fs9 v10, (M).1 x0 = some (.inl (11, fs9)) ∧ fs9[18]? = some (.ref v10) ∧ (∃ n11 f12, (M).1 v10 = some (.inr (.int, n11, .inl f12)) ∧ vp_in x5 n11 ∧ (kz_C G (d + 4) 0 0 mX12_isLetter [.int (f12 x5.toNatClampNeg)] M (fun v M13 => ∃ r14 : Int32, v = some (.int r14) ∧ ((¬ r14 = 0 → ∃ fs16 v17, (M13).1 x0 = some (.inl (11, fs16)) ∧ fs16[18]? = some (.ref v17) ∧ (∃ n18 f19, (M13).1 v17 = some (.inr (.int, n18, .inl f19)) ∧ vp_in x5 n18 ∧ (zX12_uses_42 G d Qr Qx x0 x1 x2 ((x3 <<< (((5 : Int32)).toInt64 &&& 63)) ||| (((f19 x5.toNatClampNeg) - 96 : Int32).toInt64)) (x5 + 1) M13))) ∧ (r14 = 0 → Qr (some (.int 0)) M13))) Qx)))) : zX12_uses_42 G d Qr Qx x0 x1 x2 x3 x5  M := by
  show kz_Z G (d + 5) 0 0 mX12_uses Qr Qx 42 [(0, .ref x0), (1, .int x1), (2, .int x2), (3, .long x3), (5, .int x5)] [] M 0 0
  refine kz_iload (pc := 42) 4 (i := 5) rfl dX12_uses_42 ?_
  refine kz_iload_n (pc := 44) 2 (i := 2) rfl rfl dX12_uses_44 ?_
  refine kz_icmp_ge (pc := 45) (tgt := 85) (by decide) dX12_uses_45 (fun hb => ?_) (fun hb => ?_)
  · replace h := h.1 hb
    refine kz_aload_n (pc := 85) 0 (v := .ref x0) (i := 0) rfl rfl rfl dX12_uses_85 ?_
    refine kz_lload_n (pc := 86) 3 (i := 3) rfl rfl dX12_uses_86 ?_
    refine kz_iload_n (pc := 87) 1 (i := 1) rfl rfl dX12_uses_87 ?_
    refine kz_aload_n (pc := 88) 0 (v := .ref x0) (i := 0) rfl rfl rfl dX12_uses_88 ?_
    obtain ⟨fs1, v2, hM, hv, h⟩ := h
    refine kz_getf (pc := 89) (k := 0) kcX12 hM hv (by decide) kw_1378 dX12_uses_89 ?_
    refine kz_iconst (pc := 92) (v := 1) (by decide) dX12_uses_92 ?_
    obtain ⟨n3, f4, hM, hi, h⟩ := h
    refine kz_iald (pc := 93) hM hi dX12_uses_93 ?_
    obtain ⟨⟨fs8, he⟩, h⟩ := h
    refine kz_callV (pc := 94) (μ' := mX12_usesOf) (ci := 11) (q := (RX12, TX12, 32)) (b := x0) (d' := d + 4) (mc' := 0) (ms' := 0) (As := [.long x3, .int x1, .int (f4 (1 : Int32).toNatClampNeg)]) (st := []) (c := 0) (sl := 0) kmX12_usesOf kw_1697 (by omega) rfl (Nat.le_of_ble_eq_true rfl) he rfl rfl (Nat.le_refl _) (Nat.le_refl _) dX12_uses_94 (fun E M9 hx => kz_Tout rfl (Nat.le_refl _) (Nat.le_refl _) hx) (kz_Cmono (fun v M5 h => ?_) (fun _ _ h => h) h)
    obtain ⟨r6, rfl, h⟩ := h
    show kz_Z G (d + 5) 0 0 mX12_uses Qr Qx 97 [(0, .ref x0), (1, .int x1), (2, .int x2), (3, .long x3), (5, .int x5)] [.int r6] M5 0 0
    exact kz_iret (pc := 97) rfl (Nat.le_refl _) (Nat.le_refl _) dX12_uses_97 h
  · replace h := h.2 hb
    refine kz_aload_n (pc := 48) 0 (v := .ref x0) (i := 0) rfl rfl rfl dX12_uses_48 ?_
    obtain ⟨fs9, v10, hM, hv, h⟩ := h
    refine kz_getf (pc := 49) (k := 18) kcX12 hM hv (by decide) kw_1396 dX12_uses_49 ?_
    refine kz_iload (pc := 52) 4 (i := 5) rfl dX12_uses_52 ?_
    obtain ⟨n11, f12, hM, hi, h⟩ := h
    refine kz_iald (pc := 54) hM hi dX12_uses_54 ?_
    refine kz_callS (pc := 55) (μ' := mX12_isLetter) (d' := d + 4) (mc' := 0) (ms' := 0) (As := [.int (f12 x5.toNatClampNeg)]) (st := []) (c := 0) (sl := 0) kmX12_isLetter kw_1509 (by omega) rfl (Nat.le_of_ble_eq_true rfl) (Nat.le_refl _) (Nat.le_refl _) dX12_uses_55 (fun E M9 hx => kz_Tout rfl (Nat.le_refl _) (Nat.le_refl _) hx) (kz_Cmono (fun v M13 h => ?_) (fun _ _ h => h) h)
    obtain ⟨r14, rfl, h⟩ := h
    show kz_Z G (d + 5) 0 0 mX12_uses Qr Qx 58 [(0, .ref x0), (1, .int x1), (2, .int x2), (3, .long x3), (5, .int x5)] [.int r14] M13 0 0
    refine kz_if_ne (pc := 58) (tgt := 63) (by decide) dX12_uses_58 (fun hb => ?_) (fun hb => ?_)
    · replace h := h.1 hb
      refine kz_lload_n (pc := 63) 3 (i := 3) rfl rfl dX12_uses_63 ?_
      refine kz_iconst (pc := 64) (v := 5) (by decide) dX12_uses_64 ?_
      refine kz_lshl (pc := 65) dX12_uses_65 ?_
      refine kz_aload_n (pc := 66) 0 (v := .ref x0) (i := 0) rfl rfl rfl dX12_uses_66 ?_
      obtain ⟨fs16, v17, hM, hv, h⟩ := h
      refine kz_getf (pc := 67) (k := 18) kcX12 hM hv (by decide) kw_1396 dX12_uses_67 ?_
      refine kz_iload (pc := 70) 4 (i := 5) rfl dX12_uses_70 ?_
      obtain ⟨n18, f19, hM, hi, h⟩ := h
      refine kz_iald (pc := 72) hM hi dX12_uses_72 ?_
      refine kz_bipush (pc := 73) (v := 96) (by decide) dX12_uses_73 ?_
      refine kz_isub (pc := 75) dX12_uses_75 ?_
      refine kz_i2l (pc := 76) dX12_uses_76 ?_
      refine kz_lor (pc := 77) dX12_uses_77 ?_
      refine kz_lstore_n (pc := 78) (i := 3) (ls' := [(0, .ref x0), (1, .int x1), (2, .int x2), (5, .int x5)]) rfl (by decide) rfl dX12_uses_78 ?_
      refine kz_iinc (pc := 79) 4 (i := 5) (v := x5 + 1) (ls' := [(3, .long ((x3 <<< (((5 : Int32)).toInt64 &&& 63)) ||| (((f19 x5.toNatClampNeg) - 96 : Int32).toInt64))), (0, .ref x0), (1, .int x1), (2, .int x2)]) rfl (congrArg (fun z => x5 + z) (by decide)) (by decide) rfl dX12_uses_79 ?_
      refine kz_goto (pc := 82) (tgt := 42) (by decide) dX12_uses_82 ?_
      refine kz_sub [2, 3, 4, 1, 0] rfl ?_
      exact h
    · replace h := h.2 hb
      refine kz_iconst (pc := 61) (v := 0) (by decide) dX12_uses_61 ?_
      exact kz_iret (pc := 62) rfl (Nat.le_refl _) (Nat.le_refl _) dX12_uses_62 h
theorem dX12_favourite_0 : decode cX12_favourite 0 = .ok (.aload_n 0, 1) := by decide +kernel
theorem dX12_favourite_1 : decode cX12_favourite 1 = .ok (.iconst 0, 1) := by decide +kernel
theorem dX12_favourite_2 : decode cX12_favourite 2 = .ok (.putfield 60, 3) := by decide +kernel
theorem dX12_favourite_5 : decode cX12_favourite 5 = .ok (.aload_n 0, 1) := by decide +kernel
theorem dX12_favourite_6 : decode cX12_favourite 6 = .ok (.iload_n 1, 1) := by decide +kernel
theorem dX12_favourite_7 : decode cX12_favourite 7 = .ok (.invokevirtual 340, 3) := by decide +kernel
theorem dX12_favourite_10 : decode cX12_favourite 10 = .ok (.ifCond .eq 5, 3) := by decide +kernel
theorem dX12_favourite_13 : decode cX12_favourite 13 = .ok (.iconst 0, 1) := by decide +kernel
theorem dX12_favourite_14 : decode cX12_favourite 14 = .ok (.ireturn, 1) := by decide +kernel
theorem dX12_favourite_15 : decode cX12_favourite 15 = .ok (.iconst (-1), 1) := by decide +kernel
theorem dX12_favourite_16 : decode cX12_favourite 16 = .ok (.istore_n 2, 1) := by decide +kernel
theorem dX12_favourite_17 : decode cX12_favourite 17 = .ok (.iconst 0, 1) := by decide +kernel
theorem dX12_favourite_18 : decode cX12_favourite 18 = .ok (.istore_n 3, 1) := by decide +kernel
theorem dX12_favourite_19 : decode cX12_favourite 19 = .ok (.iconst 0, 1) := by decide +kernel
theorem dX12_favourite_20 : decode cX12_favourite 20 = .ok (.istore 4, 2) := by decide +kernel
theorem dX12_favourite_22 : decode cX12_favourite 22 = .ok (.iload 4, 2) := by decide +kernel
theorem dX12_favourite_24 : decode cX12_favourite 24 = .ok (.aload_n 0, 1) := by decide +kernel
theorem dX12_favourite_25 : decode cX12_favourite 25 = .ok (.getfield 7, 3) := by decide +kernel
theorem dX12_favourite_28 : decode cX12_favourite 28 = .ok (.iconst 1, 1) := by decide +kernel
theorem dX12_favourite_29 : decode cX12_favourite 29 = .ok (.iaload, 1) := by decide +kernel
theorem dX12_favourite_30 : decode cX12_favourite 30 = .ok (.if_icmp .ge 85, 3) := by decide +kernel
theorem dX12_favourite_33 : decode cX12_favourite 33 = .ok (.aload_n 0, 1) := by decide +kernel
theorem dX12_favourite_34 : decode cX12_favourite 34 = .ok (.iload 4, 2) := by decide +kernel
theorem dX12_favourite_36 : decode cX12_favourite 36 = .ok (.iload_n 1, 1) := by decide +kernel
theorem dX12_favourite_37 : decode cX12_favourite 37 = .ok (.invokevirtual 116, 3) := by decide +kernel
theorem dX12_favourite_40 : decode cX12_favourite 40 = .ok (.ifCond .ne 6, 3) := by decide +kernel
theorem dX12_favourite_43 : decode cX12_favourite 43 = .ok (.goto 66, 3) := by decide +kernel
theorem dX12_favourite_46 : decode cX12_favourite 46 = .ok (.iconst 0, 1) := by decide +kernel
theorem dX12_favourite_47 : decode cX12_favourite 47 = .ok (.istore 5, 2) := by decide +kernel
theorem dX12_favourite_49 : decode cX12_favourite 49 = .ok (.iload 5, 2) := by decide +kernel
theorem dX12_favourite_51 : decode cX12_favourite 51 = .ok (.aload_n 0, 1) := by decide +kernel
theorem dX12_favourite_52 : decode cX12_favourite 52 = .ok (.iload 4, 2) := by decide +kernel
theorem dX12_favourite_54 : decode cX12_favourite 54 = .ok (.iconst 3, 1) := by decide +kernel
theorem dX12_favourite_55 : decode cX12_favourite 55 = .ok (.invokevirtual 101, 3) := by decide +kernel
theorem dX12_favourite_58 : decode cX12_favourite 58 = .ok (.if_icmp .ge 51, 3) := by decide +kernel
theorem dX12_favourite_61 : decode cX12_favourite 61 = .ok (.aload_n 0, 1) := by decide +kernel
theorem dX12_favourite_62 : decode cX12_favourite 62 = .ok (.aload_n 0, 1) := by decide +kernel
theorem dX12_favourite_63 : decode cX12_favourite 63 = .ok (.iload 4, 2) := by decide +kernel
theorem dX12_favourite_65 : decode cX12_favourite 65 = .ok (.iload 5, 2) := by decide +kernel
theorem dX12_favourite_67 : decode cX12_favourite 67 = .ok (.invokevirtual 97, 3) := by decide +kernel
theorem dX12_favourite_70 : decode cX12_favourite 70 = .ok (.iload_n 1, 1) := by decide +kernel
theorem dX12_favourite_71 : decode cX12_favourite 71 = .ok (.aload_n 0, 1) := by decide +kernel
theorem dX12_favourite_72 : decode cX12_favourite 72 = .ok (.getfield 7, 3) := by decide +kernel
theorem dX12_favourite_75 : decode cX12_favourite 75 = .ok (.iconst 1, 1) := by decide +kernel
theorem dX12_favourite_76 : decode cX12_favourite 76 = .ok (.iaload, 1) := by decide +kernel
theorem dX12_favourite_77 : decode cX12_favourite 77 = .ok (.invokevirtual 153, 3) := by decide +kernel
theorem dX12_favourite_80 : decode cX12_favourite 80 = .ok (.istore 6, 2) := by decide +kernel
theorem dX12_favourite_82 : decode cX12_favourite 82 = .ok (.iload 6, 2) := by decide +kernel
theorem dX12_favourite_84 : decode cX12_favourite 84 = .ok (.iload_n 3, 1) := by decide +kernel
theorem dX12_favourite_85 : decode cX12_favourite 85 = .ok (.if_icmp .gt 6, 3) := by decide +kernel
theorem dX12_favourite_88 : decode cX12_favourite 88 = .ok (.goto 15, 3) := by decide +kernel
theorem dX12_favourite_91 : decode cX12_favourite 91 = .ok (.bipush 100, 2) := by decide +kernel
theorem dX12_favourite_93 : decode cX12_favourite 93 = .ok (.iload 4, 2) := by decide +kernel
theorem dX12_favourite_95 : decode cX12_favourite 95 = .ok (.imul, 1) := by decide +kernel
theorem dX12_favourite_96 : decode cX12_favourite 96 = .ok (.iload 5, 2) := by decide +kernel
theorem dX12_favourite_98 : decode cX12_favourite 98 = .ok (.iadd, 1) := by decide +kernel
theorem dX12_favourite_99 : decode cX12_favourite 99 = .ok (.istore_n 2, 1) := by decide +kernel
theorem dX12_favourite_100 : decode cX12_favourite 100 = .ok (.iload 6, 2) := by decide +kernel
theorem dX12_favourite_102 : decode cX12_favourite 102 = .ok (.istore_n 3, 1) := by decide +kernel
theorem dX12_favourite_103 : decode cX12_favourite 103 = .ok (.iinc 5 1, 3) := by decide +kernel
theorem dX12_favourite_106 : decode cX12_favourite 106 = .ok (.goto (-57), 3) := by decide +kernel
theorem dX12_favourite_109 : decode cX12_favourite 109 = .ok (.iinc 4 1, 3) := by decide +kernel
theorem dX12_favourite_112 : decode cX12_favourite 112 = .ok (.goto (-90), 3) := by decide +kernel
theorem dX12_favourite_115 : decode cX12_favourite 115 = .ok (.iload_n 2, 1) := by decide +kernel
theorem dX12_favourite_116 : decode cX12_favourite 116 = .ok (.ireturn, 1) := by decide +kernel
def zX12_favourite_22 (G : kz_G) (d : Nat) (Qr : Option Value → kz_M → Prop) (Qx : String → kz_M → Prop) (x0 : Nat) (x1 : Int32) (x2 : Int32) (x3 : Int32) (x4 : Int32)  (M : kz_M) : Prop := kz_Z G (d + 5) 0 0 mX12_favourite Qr Qx 22 [(0, .ref x0), (1, .int x1), (2, .int x2), (3, .int x3), (4, .int x4)] [] M 0 0
def zX12_favourite_49 (G : kz_G) (d : Nat) (Qr : Option Value → kz_M → Prop) (Qx : String → kz_M → Prop) (x0 : Nat) (x1 : Int32) (x2 : Int32) (x3 : Int32) (x4 : Int32) (x5 : Int32)  (M : kz_M) : Prop := kz_Z G (d + 5) 0 0 mX12_favourite Qr Qx 49 [(0, .ref x0), (1, .int x1), (2, .int x2), (3, .int x3), (4, .int x4), (5, .int x5)] [] M 0 0
theorem rX12_favourite_0 {G : kz_G} {d : Nat} {Qr : Option Value → kz_M → Prop} {Qx : String → kz_M → Prop} {a0 : Nat} {p1 : Int32}  {M : kz_M} (h : ∃ fs1, (M).1 a0 = some (.inl (11, fs1)) ∧ 9 < fs1.length ∧ ((∃ fs5, ((kz_up M a0 (.inl (11, fs1.set 9 (.int 0))))).1 a0 = some (.inl (11, fs5))) ∧ kz_C G (d + 4) 0 0 mX12_noWriter [.ref a0, .int p1] (kz_up M a0 (.inl (11, fs1.set 9 (.int 0)))) (fun v M2 => ∃ r3 : Int32, v = some (.int r3) ∧ ((r3 = 0 → zX12_favourite_22 G d Qr Qx a0 p1 ((-1)) 0 0 M2) ∧ (¬ r3 = 0 → Qr (some (.int 0)) M2))) Qx)) : kz_C G (d + 5) 0 0 mX12_favourite [.ref a0, .int p1] M Qr Qx := by
  refine kz_enter (n := 1) kmX12_favourite.1 (Nat.le_of_ble_eq_true rfl) (ls := [(0, .ref a0), (1, .int p1)]) rfl ?_
  refine kz_aload_n (pc := 0) 0 (v := .ref a0) (i := 0) rfl rfl rfl dX12_favourite_0 ?_
  refine kz_iconst (pc := 1) (v := 0) (by decide) dX12_favourite_1 ?_
  obtain ⟨fs1, hM, hlen, h⟩ := h
  refine kz_putf (pc := 2) (k := 9) kcX12 hM (by decide) hlen kw_1387 rfl rfl rfl dX12_favourite_2 ?_
  refine kz_aload_n (pc := 5) 0 (v := .ref a0) (i := 0) rfl rfl rfl dX12_favourite_5 ?_
  refine kz_iload_n (pc := 6) 1 (i := 1) rfl rfl dX12_favourite_6 ?_
  obtain ⟨⟨fs5, he⟩, h⟩ := h
  refine kz_callV (pc := 7) (μ' := mX12_noWriter) (ci := 11) (q := (RX12, TX12, 32)) (b := a0) (d' := d + 4) (mc' := 0) (ms' := 0) (As := [.int p1]) (st := []) (c := 0) (sl := 0) kmX12_noWriter kw_1665 (by omega) rfl (Nat.le_of_ble_eq_true rfl) he rfl rfl (Nat.le_refl _) (Nat.le_refl _) dX12_favourite_7 (fun E M9 hx => kz_Tout rfl (Nat.le_refl _) (Nat.le_refl _) hx) (kz_Cmono (fun v M2 h => ?_) (fun _ _ h => h) h)
  obtain ⟨r3, rfl, h⟩ := h
  show kz_Z G (d + 5) 0 0 mX12_favourite Qr Qx 10 [(0, .ref a0), (1, .int p1)] [.int r3] M2 0 0
  refine kz_if_eq (pc := 10) (tgt := 15) (by decide) dX12_favourite_10 (fun hb => ?_) (fun hb => ?_)
  · replace h := h.1 hb
    refine kz_iconst (pc := 15) (v := (-1)) (by decide) dX12_favourite_15 ?_
    refine kz_istore_n (pc := 16) (i := 2) (ls' := [(0, .ref a0), (1, .int p1)]) rfl (by decide) rfl dX12_favourite_16 ?_
    refine kz_iconst (pc := 17) (v := 0) (by decide) dX12_favourite_17 ?_
    refine kz_istore_n (pc := 18) (i := 3) (ls' := [(2, .int ((-1))), (0, .ref a0), (1, .int p1)]) rfl (by decide) rfl dX12_favourite_18 ?_
    refine kz_iconst (pc := 19) (v := 0) (by decide) dX12_favourite_19 ?_
    refine kz_istore (pc := 20) (i := 4) (ls' := [(3, .int 0), (2, .int ((-1))), (0, .ref a0), (1, .int p1)]) (by decide) rfl dX12_favourite_20 ?_
    refine kz_sub [3, 4, 2, 1, 0] rfl ?_
    exact h
  · replace h := h.2 hb
    refine kz_iconst (pc := 13) (v := 0) (by decide) dX12_favourite_13 ?_
    exact kz_iret (pc := 14) rfl (Nat.le_refl _) (Nat.le_refl _) dX12_favourite_14 h
theorem rX12_favourite_22 {G : kz_G} {d : Nat} {Qr : Option Value → kz_M → Prop} {Qx : String → kz_M → Prop} {x0 : Nat} {x1 : Int32} {x2 : Int32} {x3 : Int32} {x4 : Int32}  {M : kz_M} (h : ∃ fs1 v2, (M).1 x0 = some (.inl (11, fs1)) ∧ fs1[0]? = some (.ref v2) ∧ (∃ n3 f4, (M).1 v2 = some (.inr (.int, n3, .inl f4)) ∧ vp_in (1 : Int32) n3 ∧ (((f4 (1 : Int32).toNatClampNeg) ≤ x4 → Qr (some (.int x2)) M) ∧ (¬ (f4 (1 : Int32).toNatClampNeg) ≤ x4 → (∃ fs8, (M).1 x0 = some (.inl (11, fs8))) ∧ kz_C G (d + 4) 0 0 mX12_isBy [.ref x0, .int x4, .int x1] M (fun v M5 => ∃ r6 : Int32, v = some (.int r6) ∧ ((¬ r6 = 0 → zX12_favourite_49 G d Qr Qx x0 x1 x2 x3 x4 0 M5) ∧ (r6 = 0 → zX12_favourite_22 G d Qr Qx x0 x1 x2 x3 (x4 + 1) M5))) Qx)))) : zX12_favourite_22 G d Qr Qx x0 x1 x2 x3 x4  M := by
  show kz_Z G (d + 5) 0 0 mX12_favourite Qr Qx 22 [(0, .ref x0), (1, .int x1), (2, .int x2), (3, .int x3), (4, .int x4)] [] M 0 0
  refine kz_iload (pc := 22) 4 (i := 4) rfl dX12_favourite_22 ?_
  refine kz_aload_n (pc := 24) 0 (v := .ref x0) (i := 0) rfl rfl rfl dX12_favourite_24 ?_
  obtain ⟨fs1, v2, hM, hv, h⟩ := h
  refine kz_getf (pc := 25) (k := 0) kcX12 hM hv (by decide) kw_1378 dX12_favourite_25 ?_
  refine kz_iconst (pc := 28) (v := 1) (by decide) dX12_favourite_28 ?_
  obtain ⟨n3, f4, hM, hi, h⟩ := h
  refine kz_iald (pc := 29) hM hi dX12_favourite_29 ?_
  refine kz_icmp_ge (pc := 30) (tgt := 115) (by decide) dX12_favourite_30 (fun hb => ?_) (fun hb => ?_)
  · replace h := h.1 hb
    refine kz_iload_n (pc := 115) 2 (i := 2) rfl rfl dX12_favourite_115 ?_
    exact kz_iret (pc := 116) rfl (Nat.le_refl _) (Nat.le_refl _) dX12_favourite_116 h
  · replace h := h.2 hb
    refine kz_aload_n (pc := 33) 0 (v := .ref x0) (i := 0) rfl rfl rfl dX12_favourite_33 ?_
    refine kz_iload (pc := 34) 4 (i := 4) rfl dX12_favourite_34 ?_
    refine kz_iload_n (pc := 36) 1 (i := 1) rfl rfl dX12_favourite_36 ?_
    obtain ⟨⟨fs8, he⟩, h⟩ := h
    refine kz_callV (pc := 37) (μ' := mX12_isBy) (ci := 11) (q := (RX12, TX12, 32)) (b := x0) (d' := d + 4) (mc' := 0) (ms' := 0) (As := [.int x4, .int x1]) (st := []) (c := 0) (sl := 0) kmX12_isBy kw_1616 (by omega) rfl (Nat.le_of_ble_eq_true rfl) he rfl rfl (Nat.le_refl _) (Nat.le_refl _) dX12_favourite_37 (fun E M9 hx => kz_Tout rfl (Nat.le_refl _) (Nat.le_refl _) hx) (kz_Cmono (fun v M5 h => ?_) (fun _ _ h => h) h)
    obtain ⟨r6, rfl, h⟩ := h
    show kz_Z G (d + 5) 0 0 mX12_favourite Qr Qx 40 [(0, .ref x0), (1, .int x1), (2, .int x2), (3, .int x3), (4, .int x4)] [.int r6] M5 0 0
    refine kz_if_ne (pc := 40) (tgt := 46) (by decide) dX12_favourite_40 (fun hb => ?_) (fun hb => ?_)
    · replace h := h.1 hb
      refine kz_iconst (pc := 46) (v := 0) (by decide) dX12_favourite_46 ?_
      refine kz_istore (pc := 47) (i := 5) (ls' := [(0, .ref x0), (1, .int x1), (2, .int x2), (3, .int x3), (4, .int x4)]) (by decide) rfl dX12_favourite_47 ?_
      refine kz_sub [1, 2, 3, 4, 5, 0] rfl ?_
      exact h
    · replace h := h.2 hb
      refine kz_goto (pc := 43) (tgt := 109) (by decide) dX12_favourite_43 ?_
      refine kz_iinc (pc := 109) 4 (i := 4) (v := x4 + 1) (ls' := [(0, .ref x0), (1, .int x1), (2, .int x2), (3, .int x3)]) rfl (congrArg (fun z => x4 + z) (by decide)) (by decide) rfl dX12_favourite_109 ?_
      refine kz_goto (pc := 112) (tgt := 22) (by decide) dX12_favourite_112 ?_
      refine kz_sub [1, 2, 3, 4, 0] rfl ?_
      exact h
theorem rX12_favourite_49 {G : kz_G} {d : Nat} {Qr : Option Value → kz_M → Prop} {Qx : String → kz_M → Prop} {x0 : Nat} {x1 : Int32} {x2 : Int32} {x3 : Int32} {x4 : Int32} {x5 : Int32}  {M : kz_M} (h : (∃ fs16, (M).1 x0 = some (.inl (11, fs16))) ∧ kz_C G (d + 4) 0 0 mX12_of [.ref x0, .int x4, .int 3] M (fun v M1 => ∃ r2 : Int32, v = some (.int r2) ∧ ((r2 ≤ x5 → zX12_favourite_22 G d Qr Qx x0 x1 x2 x3 (x4 + 1) M1) ∧ (¬ r2 ≤ x5 → (∃ fs15, (M1).1 x0 = some (.inl (11, fs15))) ∧ kz_C G (d + 4) 0 0 mX12_word [.ref x0, .int x4, .int x5] M1 (fun v M4 => ∃ r5 : Int64, v = some (.long r5) ∧ (∃ fs7 v8, (M4).1 x0 = some (.inl (11, fs7)) ∧ fs7[0]? = some (.ref v8) ∧ (∃ n9 f10, (M4).1 v8 = some (.inr (.int, n9, .inl f10)) ∧ vp_in (1 : Int32) n9 ∧ ((∃ fs14, (M4).1 x0 = some (.inl (11, fs14))) ∧ kz_C G (d + 4) 0 0 mX12_usesOf [.ref x0, .long r5, .int x1, .int (f10 (1 : Int32).toNatClampNeg)] M4 (fun v M11 => ∃ r12 : Int32, v = some (.int r12) ∧ ((x3 < r12 → zX12_favourite_49 G d Qr Qx x0 x1 ((100 * x4) + x5) r12 x4 (x5 + 1) M11) ∧ (¬ x3 < r12 → zX12_favourite_49 G d Qr Qx x0 x1 x2 x3 x4 (x5 + 1) M11))) Qx)))) Qx))) Qx) : zX12_favourite_49 G d Qr Qx x0 x1 x2 x3 x4 x5  M := by
  show kz_Z G (d + 5) 0 0 mX12_favourite Qr Qx 49 [(0, .ref x0), (1, .int x1), (2, .int x2), (3, .int x3), (4, .int x4), (5, .int x5)] [] M 0 0
  refine kz_iload (pc := 49) 5 (i := 5) rfl dX12_favourite_49 ?_
  refine kz_aload_n (pc := 51) 0 (v := .ref x0) (i := 0) rfl rfl rfl dX12_favourite_51 ?_
  refine kz_iload (pc := 52) 4 (i := 4) rfl dX12_favourite_52 ?_
  refine kz_iconst (pc := 54) (v := 3) (by decide) dX12_favourite_54 ?_
  obtain ⟨⟨fs16, he⟩, h⟩ := h
  refine kz_callV (pc := 55) (μ' := mX12_of) (ci := 11) (q := (RX12, TX12, 32)) (b := x0) (d' := d + 4) (mc' := 0) (ms' := 0) (As := [.int x4, .int 3]) (st := [.int x5]) (c := 0) (sl := 0) kmX12_of kw_1620 (by omega) rfl (Nat.le_of_ble_eq_true rfl) he rfl rfl (Nat.le_refl _) (Nat.le_refl _) dX12_favourite_55 (fun E M9 hx => kz_Tout rfl (Nat.le_refl _) (Nat.le_refl _) hx) (kz_Cmono (fun v M1 h => ?_) (fun _ _ h => h) h)
  obtain ⟨r2, rfl, h⟩ := h
  show kz_Z G (d + 5) 0 0 mX12_favourite Qr Qx 58 [(0, .ref x0), (1, .int x1), (2, .int x2), (3, .int x3), (4, .int x4), (5, .int x5)] [.int r2, .int x5] M1 0 0
  refine kz_icmp_ge (pc := 58) (tgt := 109) (by decide) dX12_favourite_58 (fun hb => ?_) (fun hb => ?_)
  · replace h := h.1 hb
    refine kz_iinc (pc := 109) 4 (i := 4) (v := x4 + 1) (ls' := [(0, .ref x0), (1, .int x1), (2, .int x2), (3, .int x3), (5, .int x5)]) rfl (congrArg (fun z => x4 + z) (by decide)) (by decide) rfl dX12_favourite_109 ?_
    refine kz_goto (pc := 112) (tgt := 22) (by decide) dX12_favourite_112 ?_
    refine kz_sub [1, 2, 3, 4, 0] rfl ?_
    exact h
  · replace h := h.2 hb
    refine kz_aload_n (pc := 61) 0 (v := .ref x0) (i := 0) rfl rfl rfl dX12_favourite_61 ?_
    refine kz_aload_n (pc := 62) 0 (v := .ref x0) (i := 0) rfl rfl rfl dX12_favourite_62 ?_
    refine kz_iload (pc := 63) 4 (i := 4) rfl dX12_favourite_63 ?_
    refine kz_iload (pc := 65) 5 (i := 5) rfl dX12_favourite_65 ?_
    obtain ⟨⟨fs15, he⟩, h⟩ := h
    refine kz_callV (pc := 67) (μ' := mX12_word) (ci := 11) (q := (RX12, TX12, 32)) (b := x0) (d' := d + 4) (mc' := 0) (ms' := 0) (As := [.int x4, .int x5]) (st := [.ref x0]) (c := 0) (sl := 0) kmX12_word kw_1689 (by omega) rfl (Nat.le_of_ble_eq_true rfl) he rfl rfl (Nat.le_refl _) (Nat.le_refl _) dX12_favourite_67 (fun E M9 hx => kz_Tout rfl (Nat.le_refl _) (Nat.le_refl _) hx) (kz_Cmono (fun v M4 h => ?_) (fun _ _ h => h) h)
    obtain ⟨r5, rfl, h⟩ := h
    show kz_Z G (d + 5) 0 0 mX12_favourite Qr Qx 70 [(0, .ref x0), (1, .int x1), (2, .int x2), (3, .int x3), (4, .int x4), (5, .int x5)] [.long r5, .ref x0] M4 0 0
    refine kz_iload_n (pc := 70) 1 (i := 1) rfl rfl dX12_favourite_70 ?_
    refine kz_aload_n (pc := 71) 0 (v := .ref x0) (i := 0) rfl rfl rfl dX12_favourite_71 ?_
    obtain ⟨fs7, v8, hM, hv, h⟩ := h
    refine kz_getf (pc := 72) (k := 0) kcX12 hM hv (by decide) kw_1378 dX12_favourite_72 ?_
    refine kz_iconst (pc := 75) (v := 1) (by decide) dX12_favourite_75 ?_
    obtain ⟨n9, f10, hM, hi, h⟩ := h
    refine kz_iald (pc := 76) hM hi dX12_favourite_76 ?_
    obtain ⟨⟨fs14, he⟩, h⟩ := h
    refine kz_callV (pc := 77) (μ' := mX12_usesOf) (ci := 11) (q := (RX12, TX12, 32)) (b := x0) (d' := d + 4) (mc' := 0) (ms' := 0) (As := [.long r5, .int x1, .int (f10 (1 : Int32).toNatClampNeg)]) (st := []) (c := 0) (sl := 0) kmX12_usesOf kw_1697 (by omega) rfl (Nat.le_of_ble_eq_true rfl) he rfl rfl (Nat.le_refl _) (Nat.le_refl _) dX12_favourite_77 (fun E M9 hx => kz_Tout rfl (Nat.le_refl _) (Nat.le_refl _) hx) (kz_Cmono (fun v M11 h => ?_) (fun _ _ h => h) h)
    obtain ⟨r12, rfl, h⟩ := h
    show kz_Z G (d + 5) 0 0 mX12_favourite Qr Qx 80 [(0, .ref x0), (1, .int x1), (2, .int x2), (3, .int x3), (4, .int x4), (5, .int x5)] [.int r12] M11 0 0
    refine kz_istore (pc := 80) (i := 6) (ls' := [(0, .ref x0), (1, .int x1), (2, .int x2), (3, .int x3), (4, .int x4), (5, .int x5)]) (by decide) rfl dX12_favourite_80 ?_
    refine kz_iload (pc := 82) 0 (i := 6) rfl dX12_favourite_82 ?_
    refine kz_iload_n (pc := 84) 4 (i := 3) rfl rfl dX12_favourite_84 ?_
    refine kz_icmp_gt (pc := 85) (tgt := 91) (by decide) dX12_favourite_85 (fun hb => ?_) (fun hb => ?_)
    · replace h := h.1 hb
      refine kz_bipush (pc := 91) (v := 100) (by decide) dX12_favourite_91 ?_
      refine kz_iload (pc := 93) 5 (i := 4) rfl dX12_favourite_93 ?_
      refine kz_imul (pc := 95) dX12_favourite_95 ?_
      refine kz_iload (pc := 96) 6 (i := 5) rfl dX12_favourite_96 ?_
      refine kz_iadd (pc := 98) dX12_favourite_98 ?_
      refine kz_istore_n (pc := 99) (i := 2) (ls' := [(6, .int r12), (0, .ref x0), (1, .int x1), (3, .int x3), (4, .int x4), (5, .int x5)]) rfl (by decide) rfl dX12_favourite_99 ?_
      refine kz_iload (pc := 100) 1 (i := 6) rfl dX12_favourite_100 ?_
      refine kz_istore_n (pc := 102) (i := 3) (ls' := [(2, .int ((100 * x4) + x5)), (6, .int r12), (0, .ref x0), (1, .int x1), (4, .int x4), (5, .int x5)]) rfl (by decide) rfl dX12_favourite_102 ?_
      refine kz_iinc (pc := 103) 6 (i := 5) (v := x5 + 1) (ls' := [(3, .int r12), (2, .int ((100 * x4) + x5)), (6, .int r12), (0, .ref x0), (1, .int x1), (4, .int x4)]) rfl (congrArg (fun z => x5 + z) (by decide)) (by decide) rfl dX12_favourite_103 ?_
      refine kz_goto (pc := 106) (tgt := 49) (by decide) dX12_favourite_106 ?_
      refine kz_sub [4, 5, 2, 1, 6, 0] rfl ?_
      exact h
    · replace h := h.2 hb
      refine kz_goto (pc := 88) (tgt := 103) (by decide) dX12_favourite_88 ?_
      refine kz_iinc (pc := 103) 6 (i := 5) (v := x5 + 1) (ls' := [(6, .int r12), (0, .ref x0), (1, .int x1), (2, .int x2), (3, .int x3), (4, .int x4)]) rfl (congrArg (fun z => x5 + z) (by decide)) (by decide) rfl dX12_favourite_103 ?_
      refine kz_goto (pc := 106) (tgt := 49) (by decide) dX12_favourite_106 ?_
      refine kz_sub [2, 3, 4, 5, 6, 0] rfl ?_
      exact h
theorem dX12_common_0 : decode cX12_common 0 = .ok (.aload_n 0, 1) := by decide +kernel
theorem dX12_common_1 : decode cX12_common 1 = .ok (.iconst 0, 1) := by decide +kernel
theorem dX12_common_2 : decode cX12_common 2 = .ok (.putfield 60, 3) := by decide +kernel
theorem dX12_common_5 : decode cX12_common 5 = .ok (.aload_n 0, 1) := by decide +kernel
theorem dX12_common_6 : decode cX12_common 6 = .ok (.iload_n 1, 1) := by decide +kernel
theorem dX12_common_7 : decode cX12_common 7 = .ok (.invokevirtual 314, 3) := by decide +kernel
theorem dX12_common_10 : decode cX12_common 10 = .ok (.ifCond .ne 11, 3) := by decide +kernel
theorem dX12_common_13 : decode cX12_common 13 = .ok (.aload_n 0, 1) := by decide +kernel
theorem dX12_common_14 : decode cX12_common 14 = .ok (.iload_n 2, 1) := by decide +kernel
theorem dX12_common_15 : decode cX12_common 15 = .ok (.invokevirtual 314, 3) := by decide +kernel
theorem dX12_common_18 : decode cX12_common 18 = .ok (.ifCond .eq 5, 3) := by decide +kernel
theorem dX12_common_21 : decode cX12_common 21 = .ok (.iconst 0, 1) := by decide +kernel
theorem dX12_common_22 : decode cX12_common 22 = .ok (.ireturn, 1) := by decide +kernel
theorem dX12_common_23 : decode cX12_common 23 = .ok (.iconst 0, 1) := by decide +kernel
theorem dX12_common_24 : decode cX12_common 24 = .ok (.istore_n 3, 1) := by decide +kernel
theorem dX12_common_25 : decode cX12_common 25 = .ok (.iconst 0, 1) := by decide +kernel
theorem dX12_common_26 : decode cX12_common 26 = .ok (.istore 4, 2) := by decide +kernel
theorem dX12_common_28 : decode cX12_common 28 = .ok (.iload 4, 2) := by decide +kernel
theorem dX12_common_30 : decode cX12_common 30 = .ok (.aload_n 0, 1) := by decide +kernel
theorem dX12_common_31 : decode cX12_common 31 = .ok (.iload_n 1, 1) := by decide +kernel
theorem dX12_common_32 : decode cX12_common 32 = .ok (.iconst 3, 1) := by decide +kernel
theorem dX12_common_33 : decode cX12_common 33 = .ok (.invokevirtual 101, 3) := by decide +kernel
theorem dX12_common_36 : decode cX12_common 36 = .ok (.if_icmp .ge 50, 3) := by decide +kernel
theorem dX12_common_39 : decode cX12_common 39 = .ok (.iload_n 3, 1) := by decide +kernel
theorem dX12_common_40 : decode cX12_common 40 = .ok (.aload_n 0, 1) := by decide +kernel
theorem dX12_common_41 : decode cX12_common 41 = .ok (.iload_n 1, 1) := by decide +kernel
theorem dX12_common_42 : decode cX12_common 42 = .ok (.aload_n 0, 1) := by decide +kernel
theorem dX12_common_43 : decode cX12_common 43 = .ok (.iload_n 1, 1) := by decide +kernel
theorem dX12_common_44 : decode cX12_common 44 = .ok (.iload 4, 2) := by decide +kernel
theorem dX12_common_46 : decode cX12_common 46 = .ok (.invokevirtual 97, 3) := by decide +kernel
theorem dX12_common_49 : decode cX12_common 49 = .ok (.invokevirtual 112, 3) := by decide +kernel
theorem dX12_common_52 : decode cX12_common 52 = .ok (.iload 4, 2) := by decide +kernel
theorem dX12_common_54 : decode cX12_common 54 = .ok (.if_icmp .ne 23, 3) := by decide +kernel
theorem dX12_common_57 : decode cX12_common 57 = .ok (.aload_n 0, 1) := by decide +kernel
theorem dX12_common_58 : decode cX12_common 58 = .ok (.iload_n 2, 1) := by decide +kernel
theorem dX12_common_59 : decode cX12_common 59 = .ok (.aload_n 0, 1) := by decide +kernel
theorem dX12_common_60 : decode cX12_common 60 = .ok (.iload_n 1, 1) := by decide +kernel
theorem dX12_common_61 : decode cX12_common 61 = .ok (.iload 4, 2) := by decide +kernel
theorem dX12_common_63 : decode cX12_common 63 = .ok (.invokevirtual 97, 3) := by decide +kernel
theorem dX12_common_66 : decode cX12_common 66 = .ok (.invokevirtual 112, 3) := by decide +kernel
theorem dX12_common_69 : decode cX12_common 69 = .ok (.iconst (-1), 1) := by decide +kernel
theorem dX12_common_70 : decode cX12_common 70 = .ok (.if_icmp .eq 7, 3) := by decide +kernel
theorem dX12_common_73 : decode cX12_common 73 = .ok (.iconst 1, 1) := by decide +kernel
theorem dX12_common_74 : decode cX12_common 74 = .ok (.goto 4, 3) := by decide +kernel
theorem dX12_common_77 : decode cX12_common 77 = .ok (.iconst 0, 1) := by decide +kernel
theorem dX12_common_78 : decode cX12_common 78 = .ok (.iadd, 1) := by decide +kernel
theorem dX12_common_79 : decode cX12_common 79 = .ok (.istore_n 3, 1) := by decide +kernel
theorem dX12_common_80 : decode cX12_common 80 = .ok (.iinc 4 1, 3) := by decide +kernel
theorem dX12_common_83 : decode cX12_common 83 = .ok (.goto (-55), 3) := by decide +kernel
theorem dX12_common_86 : decode cX12_common 86 = .ok (.iload_n 3, 1) := by decide +kernel
theorem dX12_common_87 : decode cX12_common 87 = .ok (.ireturn, 1) := by decide +kernel
def zX12_common_28 (G : kz_G) (d : Nat) (Qr : Option Value → kz_M → Prop) (Qx : String → kz_M → Prop) (x0 : Nat) (x1 : Int32) (x2 : Int32) (x3 : Int32) (x4 : Int32)  (M : kz_M) : Prop := kz_Z G (d + 2) 0 0 mX12_common Qr Qx 28 [(0, .ref x0), (1, .int x1), (2, .int x2), (3, .int x3), (4, .int x4)] [] M 0 0
theorem rX12_common_0 {G : kz_G} {d : Nat} {Qr : Option Value → kz_M → Prop} {Qx : String → kz_M → Prop} {a0 : Nat} {p1 : Int32} {p2 : Int32}  {M : kz_M} (h : ∃ fs1, (M).1 a0 = some (.inl (11, fs1)) ∧ 9 < fs1.length ∧ ((∃ fs9, ((kz_up M a0 (.inl (11, fs1.set 9 (.int 0))))).1 a0 = some (.inl (11, fs9))) ∧ kz_C G (d + 1) 0 0 mX12_noWork [.ref a0, .int p1] (kz_up M a0 (.inl (11, fs1.set 9 (.int 0)))) (fun v M2 => ∃ r3 : Int32, v = some (.int r3) ∧ ((¬ r3 = 0 → Qr (some (.int 0)) M2) ∧ (r3 = 0 → (∃ fs8, (M2).1 a0 = some (.inl (11, fs8))) ∧ kz_C G (d + 1) 0 0 mX12_noWork [.ref a0, .int p2] M2 (fun v M5 => ∃ r6 : Int32, v = some (.int r6) ∧ ((r6 = 0 → zX12_common_28 G d Qr Qx a0 p1 p2 0 0 M5) ∧ (¬ r6 = 0 → Qr (some (.int 0)) M5))) Qx))) Qx)) : kz_C G (d + 2) 0 0 mX12_common [.ref a0, .int p1, .int p2] M Qr Qx := by
  refine kz_enter (n := 2) kmX12_common.1 (Nat.le_of_ble_eq_true rfl) (ls := [(0, .ref a0), (1, .int p1), (2, .int p2)]) rfl ?_
  refine kz_aload_n (pc := 0) 0 (v := .ref a0) (i := 0) rfl rfl rfl dX12_common_0 ?_
  refine kz_iconst (pc := 1) (v := 0) (by decide) dX12_common_1 ?_
  obtain ⟨fs1, hM, hlen, h⟩ := h
  refine kz_putf (pc := 2) (k := 9) kcX12 hM (by decide) hlen kw_1387 rfl rfl rfl dX12_common_2 ?_
  refine kz_aload_n (pc := 5) 0 (v := .ref a0) (i := 0) rfl rfl rfl dX12_common_5 ?_
  refine kz_iload_n (pc := 6) 1 (i := 1) rfl rfl dX12_common_6 ?_
  obtain ⟨⟨fs9, he⟩, h⟩ := h
  refine kz_callV (pc := 7) (μ' := mX12_noWork) (ci := 11) (q := (RX12, TX12, 32)) (b := a0) (d' := d + 1) (mc' := 0) (ms' := 0) (As := [.int p1]) (st := []) (c := 0) (sl := 0) kmX12_noWork kw_1713 (by omega) rfl (Nat.le_of_ble_eq_true rfl) he rfl rfl (Nat.le_refl _) (Nat.le_refl _) dX12_common_7 (fun E M9 hx => kz_Tout rfl (Nat.le_refl _) (Nat.le_refl _) hx) (kz_Cmono (fun v M2 h => ?_) (fun _ _ h => h) h)
  obtain ⟨r3, rfl, h⟩ := h
  show kz_Z G (d + 2) 0 0 mX12_common Qr Qx 10 [(0, .ref a0), (1, .int p1), (2, .int p2)] [.int r3] M2 0 0
  refine kz_if_ne (pc := 10) (tgt := 21) (by decide) dX12_common_10 (fun hb => ?_) (fun hb => ?_)
  · replace h := h.1 hb
    refine kz_iconst (pc := 21) (v := 0) (by decide) dX12_common_21 ?_
    exact kz_iret (pc := 22) rfl (Nat.le_refl _) (Nat.le_refl _) dX12_common_22 h
  · replace h := h.2 hb
    refine kz_aload_n (pc := 13) 0 (v := .ref a0) (i := 0) rfl rfl rfl dX12_common_13 ?_
    refine kz_iload_n (pc := 14) 2 (i := 2) rfl rfl dX12_common_14 ?_
    obtain ⟨⟨fs8, he⟩, h⟩ := h
    refine kz_callV (pc := 15) (μ' := mX12_noWork) (ci := 11) (q := (RX12, TX12, 32)) (b := a0) (d' := d + 1) (mc' := 0) (ms' := 0) (As := [.int p2]) (st := []) (c := 0) (sl := 0) kmX12_noWork kw_1713 (by omega) rfl (Nat.le_of_ble_eq_true rfl) he rfl rfl (Nat.le_refl _) (Nat.le_refl _) dX12_common_15 (fun E M9 hx => kz_Tout rfl (Nat.le_refl _) (Nat.le_refl _) hx) (kz_Cmono (fun v M5 h => ?_) (fun _ _ h => h) h)
    obtain ⟨r6, rfl, h⟩ := h
    show kz_Z G (d + 2) 0 0 mX12_common Qr Qx 18 [(0, .ref a0), (1, .int p1), (2, .int p2)] [.int r6] M5 0 0
    refine kz_if_eq (pc := 18) (tgt := 23) (by decide) dX12_common_18 (fun hb => ?_) (fun hb => ?_)
    · replace h := h.1 hb
      refine kz_iconst (pc := 23) (v := 0) (by decide) dX12_common_23 ?_
      refine kz_istore_n (pc := 24) (i := 3) (ls' := [(0, .ref a0), (1, .int p1), (2, .int p2)]) rfl (by decide) rfl dX12_common_24 ?_
      refine kz_iconst (pc := 25) (v := 0) (by decide) dX12_common_25 ?_
      refine kz_istore (pc := 26) (i := 4) (ls' := [(3, .int 0), (0, .ref a0), (1, .int p1), (2, .int p2)]) (by decide) rfl dX12_common_26 ?_
      refine kz_sub [2, 3, 4, 1, 0] rfl ?_
      exact h
    · replace h := h.2 hb
      refine kz_iconst (pc := 21) (v := 0) (by decide) dX12_common_21 ?_
      exact kz_iret (pc := 22) rfl (Nat.le_refl _) (Nat.le_refl _) dX12_common_22 h
theorem rX12_common_28 {G : kz_G} {d : Nat} {Qr : Option Value → kz_M → Prop} {Qx : String → kz_M → Prop} {x0 : Nat} {x1 : Int32} {x2 : Int32} {x3 : Int32} {x4 : Int32}  {M : kz_M} (h : (∃ fs20, (M).1 x0 = some (.inl (11, fs20))) ∧ kz_C G (d + 1) 0 0 mX12_of [.ref x0, .int x1, .int 3] M (fun v M1 => ∃ r2 : Int32, v = some (.int r2) ∧ ((r2 ≤ x4 → Qr (some (.int x3)) M1) ∧ (¬ r2 ≤ x4 → (∃ fs19, (M1).1 x0 = some (.inl (11, fs19))) ∧ kz_C G (d + 1) 0 0 mX12_word [.ref x0, .int x1, .int x4] M1 (fun v M4 => ∃ r5 : Int64, v = some (.long r5) ∧ ((∃ fs18, (M4).1 x0 = some (.inl (11, fs18))) ∧ kz_C G (d + 1) 0 0 mX12_placeIn [.ref x0, .int x1, .long r5] M4 (fun v M7 => ∃ r8 : Int32, v = some (.int r8) ∧ ((¬ r8 = x4 → zX12_common_28 G d Qr Qx x0 x1 x2 (x3 + 0) (x4 + 1) M7) ∧ (r8 = x4 → (∃ fs17, (M7).1 x0 = some (.inl (11, fs17))) ∧ kz_C G (d + 1) 0 0 mX12_word [.ref x0, .int x1, .int x4] M7 (fun v M10 => ∃ r11 : Int64, v = some (.long r11) ∧ ((∃ fs16, (M10).1 x0 = some (.inl (11, fs16))) ∧ kz_C G (d + 1) 0 0 mX12_placeIn [.ref x0, .int x2, .long r11] M10 (fun v M13 => ∃ r14 : Int32, v = some (.int r14) ∧ ((r14 = ((-1) : Int32) → zX12_common_28 G d Qr Qx x0 x1 x2 (x3 + 0) (x4 + 1) M13) ∧ (¬ r14 = ((-1) : Int32) → zX12_common_28 G d Qr Qx x0 x1 x2 (x3 + 1) (x4 + 1) M13))) Qx)) Qx))) Qx)) Qx))) Qx) : zX12_common_28 G d Qr Qx x0 x1 x2 x3 x4  M := by
  show kz_Z G (d + 2) 0 0 mX12_common Qr Qx 28 [(0, .ref x0), (1, .int x1), (2, .int x2), (3, .int x3), (4, .int x4)] [] M 0 0
  refine kz_iload (pc := 28) 4 (i := 4) rfl dX12_common_28 ?_
  refine kz_aload_n (pc := 30) 0 (v := .ref x0) (i := 0) rfl rfl rfl dX12_common_30 ?_
  refine kz_iload_n (pc := 31) 1 (i := 1) rfl rfl dX12_common_31 ?_
  refine kz_iconst (pc := 32) (v := 3) (by decide) dX12_common_32 ?_
  obtain ⟨⟨fs20, he⟩, h⟩ := h
  refine kz_callV (pc := 33) (μ' := mX12_of) (ci := 11) (q := (RX12, TX12, 32)) (b := x0) (d' := d + 1) (mc' := 0) (ms' := 0) (As := [.int x1, .int 3]) (st := [.int x4]) (c := 0) (sl := 0) kmX12_of kw_1620 (by omega) rfl (Nat.le_of_ble_eq_true rfl) he rfl rfl (Nat.le_refl _) (Nat.le_refl _) dX12_common_33 (fun E M9 hx => kz_Tout rfl (Nat.le_refl _) (Nat.le_refl _) hx) (kz_Cmono (fun v M1 h => ?_) (fun _ _ h => h) h)
  obtain ⟨r2, rfl, h⟩ := h
  show kz_Z G (d + 2) 0 0 mX12_common Qr Qx 36 [(0, .ref x0), (1, .int x1), (2, .int x2), (3, .int x3), (4, .int x4)] [.int r2, .int x4] M1 0 0
  refine kz_icmp_ge (pc := 36) (tgt := 86) (by decide) dX12_common_36 (fun hb => ?_) (fun hb => ?_)
  · replace h := h.1 hb
    refine kz_iload_n (pc := 86) 3 (i := 3) rfl rfl dX12_common_86 ?_
    exact kz_iret (pc := 87) rfl (Nat.le_refl _) (Nat.le_refl _) dX12_common_87 h
  · replace h := h.2 hb
    refine kz_iload_n (pc := 39) 3 (i := 3) rfl rfl dX12_common_39 ?_
    refine kz_aload_n (pc := 40) 0 (v := .ref x0) (i := 0) rfl rfl rfl dX12_common_40 ?_
    refine kz_iload_n (pc := 41) 1 (i := 1) rfl rfl dX12_common_41 ?_
    refine kz_aload_n (pc := 42) 0 (v := .ref x0) (i := 0) rfl rfl rfl dX12_common_42 ?_
    refine kz_iload_n (pc := 43) 1 (i := 1) rfl rfl dX12_common_43 ?_
    refine kz_iload (pc := 44) 4 (i := 4) rfl dX12_common_44 ?_
    obtain ⟨⟨fs19, he⟩, h⟩ := h
    refine kz_callV (pc := 46) (μ' := mX12_word) (ci := 11) (q := (RX12, TX12, 32)) (b := x0) (d' := d + 1) (mc' := 0) (ms' := 0) (As := [.int x1, .int x4]) (st := [.int x1, .ref x0, .int x3]) (c := 0) (sl := 0) kmX12_word kw_1689 (by omega) rfl (Nat.le_of_ble_eq_true rfl) he rfl rfl (Nat.le_refl _) (Nat.le_refl _) dX12_common_46 (fun E M9 hx => kz_Tout rfl (Nat.le_refl _) (Nat.le_refl _) hx) (kz_Cmono (fun v M4 h => ?_) (fun _ _ h => h) h)
    obtain ⟨r5, rfl, h⟩ := h
    show kz_Z G (d + 2) 0 0 mX12_common Qr Qx 49 [(0, .ref x0), (1, .int x1), (2, .int x2), (3, .int x3), (4, .int x4)] [.long r5, .int x1, .ref x0, .int x3] M4 0 0
    obtain ⟨⟨fs18, he⟩, h⟩ := h
    refine kz_callV (pc := 49) (μ' := mX12_placeIn) (ci := 11) (q := (RX12, TX12, 32)) (b := x0) (d' := d + 1) (mc' := 0) (ms' := 0) (As := [.int x1, .long r5]) (st := [.int x3]) (c := 0) (sl := 0) kmX12_placeIn kw_1693 (by omega) rfl (Nat.le_of_ble_eq_true rfl) he rfl rfl (Nat.le_refl _) (Nat.le_refl _) dX12_common_49 (fun E M9 hx => kz_Tout rfl (Nat.le_refl _) (Nat.le_refl _) hx) (kz_Cmono (fun v M7 h => ?_) (fun _ _ h => h) h)
    obtain ⟨r8, rfl, h⟩ := h
    show kz_Z G (d + 2) 0 0 mX12_common Qr Qx 52 [(0, .ref x0), (1, .int x1), (2, .int x2), (3, .int x3), (4, .int x4)] [.int r8, .int x3] M7 0 0
    refine kz_iload (pc := 52) 4 (i := 4) rfl dX12_common_52 ?_
    refine kz_icmp_ne (pc := 54) (tgt := 77) (by decide) dX12_common_54 (fun hb => ?_) (fun hb => ?_)
    · replace h := h.1 hb
      refine kz_iconst (pc := 77) (v := 0) (by decide) dX12_common_77 ?_
      refine kz_iadd (pc := 78) dX12_common_78 ?_
      refine kz_istore_n (pc := 79) (i := 3) (ls' := [(0, .ref x0), (1, .int x1), (2, .int x2), (4, .int x4)]) rfl (by decide) rfl dX12_common_79 ?_
      refine kz_iinc (pc := 80) 4 (i := 4) (v := x4 + 1) (ls' := [(3, .int (x3 + 0)), (0, .ref x0), (1, .int x1), (2, .int x2)]) rfl (congrArg (fun z => x4 + z) (by decide)) (by decide) rfl dX12_common_80 ?_
      refine kz_goto (pc := 83) (tgt := 28) (by decide) dX12_common_83 ?_
      refine kz_sub [2, 3, 4, 1, 0] rfl ?_
      exact h
    · replace h := h.2 hb
      refine kz_aload_n (pc := 57) 0 (v := .ref x0) (i := 0) rfl rfl rfl dX12_common_57 ?_
      refine kz_iload_n (pc := 58) 2 (i := 2) rfl rfl dX12_common_58 ?_
      refine kz_aload_n (pc := 59) 0 (v := .ref x0) (i := 0) rfl rfl rfl dX12_common_59 ?_
      refine kz_iload_n (pc := 60) 1 (i := 1) rfl rfl dX12_common_60 ?_
      refine kz_iload (pc := 61) 4 (i := 4) rfl dX12_common_61 ?_
      obtain ⟨⟨fs17, he⟩, h⟩ := h
      refine kz_callV (pc := 63) (μ' := mX12_word) (ci := 11) (q := (RX12, TX12, 32)) (b := x0) (d' := d + 1) (mc' := 0) (ms' := 0) (As := [.int x1, .int x4]) (st := [.int x2, .ref x0, .int x3]) (c := 0) (sl := 0) kmX12_word kw_1689 (by omega) rfl (Nat.le_of_ble_eq_true rfl) he rfl rfl (Nat.le_refl _) (Nat.le_refl _) dX12_common_63 (fun E M9 hx => kz_Tout rfl (Nat.le_refl _) (Nat.le_refl _) hx) (kz_Cmono (fun v M10 h => ?_) (fun _ _ h => h) h)
      obtain ⟨r11, rfl, h⟩ := h
      show kz_Z G (d + 2) 0 0 mX12_common Qr Qx 66 [(0, .ref x0), (1, .int x1), (2, .int x2), (3, .int x3), (4, .int x4)] [.long r11, .int x2, .ref x0, .int x3] M10 0 0
      obtain ⟨⟨fs16, he⟩, h⟩ := h
      refine kz_callV (pc := 66) (μ' := mX12_placeIn) (ci := 11) (q := (RX12, TX12, 32)) (b := x0) (d' := d + 1) (mc' := 0) (ms' := 0) (As := [.int x2, .long r11]) (st := [.int x3]) (c := 0) (sl := 0) kmX12_placeIn kw_1693 (by omega) rfl (Nat.le_of_ble_eq_true rfl) he rfl rfl (Nat.le_refl _) (Nat.le_refl _) dX12_common_66 (fun E M9 hx => kz_Tout rfl (Nat.le_refl _) (Nat.le_refl _) hx) (kz_Cmono (fun v M13 h => ?_) (fun _ _ h => h) h)
      obtain ⟨r14, rfl, h⟩ := h
      show kz_Z G (d + 2) 0 0 mX12_common Qr Qx 69 [(0, .ref x0), (1, .int x1), (2, .int x2), (3, .int x3), (4, .int x4)] [.int r14, .int x3] M13 0 0
      refine kz_iconst (pc := 69) (v := (-1)) (by decide) dX12_common_69 ?_
      refine kz_icmp_eq (pc := 70) (tgt := 77) (by decide) dX12_common_70 (fun hb => ?_) (fun hb => ?_)
      · replace h := h.1 hb
        refine kz_iconst (pc := 77) (v := 0) (by decide) dX12_common_77 ?_
        refine kz_iadd (pc := 78) dX12_common_78 ?_
        refine kz_istore_n (pc := 79) (i := 3) (ls' := [(0, .ref x0), (1, .int x1), (2, .int x2), (4, .int x4)]) rfl (by decide) rfl dX12_common_79 ?_
        refine kz_iinc (pc := 80) 4 (i := 4) (v := x4 + 1) (ls' := [(3, .int (x3 + 0)), (0, .ref x0), (1, .int x1), (2, .int x2)]) rfl (congrArg (fun z => x4 + z) (by decide)) (by decide) rfl dX12_common_80 ?_
        refine kz_goto (pc := 83) (tgt := 28) (by decide) dX12_common_83 ?_
        refine kz_sub [2, 3, 4, 1, 0] rfl ?_
        exact h
      · replace h := h.2 hb
        refine kz_iconst (pc := 73) (v := 1) (by decide) dX12_common_73 ?_
        refine kz_goto (pc := 74) (tgt := 78) (by decide) dX12_common_74 ?_
        refine kz_iadd (pc := 78) dX12_common_78 ?_
        refine kz_istore_n (pc := 79) (i := 3) (ls' := [(0, .ref x0), (1, .int x1), (2, .int x2), (4, .int x4)]) rfl (by decide) rfl dX12_common_79 ?_
        refine kz_iinc (pc := 80) 4 (i := 4) (v := x4 + 1) (ls' := [(3, .int (x3 + 1)), (0, .ref x0), (1, .int x1), (2, .int x2)]) rfl (congrArg (fun z => x4 + z) (by decide)) (by decide) rfl dX12_common_80 ?_
        refine kz_goto (pc := 83) (tgt := 28) (by decide) dX12_common_83 ?_
        refine kz_sub [2, 3, 4, 1, 0] rfl ?_
        exact h
theorem dX12_newWords_0 : decode cX12_newWords 0 = .ok (.aload_n 0, 1) := by decide +kernel
theorem dX12_newWords_1 : decode cX12_newWords 1 = .ok (.iconst 0, 1) := by decide +kernel
theorem dX12_newWords_2 : decode cX12_newWords 2 = .ok (.putfield 60, 3) := by decide +kernel
theorem dX12_newWords_5 : decode cX12_newWords 5 = .ok (.aload_n 0, 1) := by decide +kernel
theorem dX12_newWords_6 : decode cX12_newWords 6 = .ok (.iload_n 1, 1) := by decide +kernel
theorem dX12_newWords_7 : decode cX12_newWords 7 = .ok (.invokevirtual 314, 3) := by decide +kernel
theorem dX12_newWords_10 : decode cX12_newWords 10 = .ok (.ifCond .eq 5, 3) := by decide +kernel
theorem dX12_newWords_13 : decode cX12_newWords 13 = .ok (.iconst 0, 1) := by decide +kernel
theorem dX12_newWords_14 : decode cX12_newWords 14 = .ok (.ireturn, 1) := by decide +kernel
theorem dX12_newWords_15 : decode cX12_newWords 15 = .ok (.iconst 0, 1) := by decide +kernel
theorem dX12_newWords_16 : decode cX12_newWords 16 = .ok (.istore_n 2, 1) := by decide +kernel
theorem dX12_newWords_17 : decode cX12_newWords 17 = .ok (.iconst 0, 1) := by decide +kernel
theorem dX12_newWords_18 : decode cX12_newWords 18 = .ok (.istore_n 3, 1) := by decide +kernel
theorem dX12_newWords_19 : decode cX12_newWords 19 = .ok (.iload_n 3, 1) := by decide +kernel
theorem dX12_newWords_20 : decode cX12_newWords 20 = .ok (.aload_n 0, 1) := by decide +kernel
theorem dX12_newWords_21 : decode cX12_newWords 21 = .ok (.iload_n 1, 1) := by decide +kernel
theorem dX12_newWords_22 : decode cX12_newWords 22 = .ok (.iconst 3, 1) := by decide +kernel
theorem dX12_newWords_23 : decode cX12_newWords 23 = .ok (.invokevirtual 101, 3) := by decide +kernel
theorem dX12_newWords_26 : decode cX12_newWords 26 = .ok (.if_icmp .ge 32, 3) := by decide +kernel
theorem dX12_newWords_29 : decode cX12_newWords 29 = .ok (.iload_n 2, 1) := by decide +kernel
theorem dX12_newWords_30 : decode cX12_newWords 30 = .ok (.aload_n 0, 1) := by decide +kernel
theorem dX12_newWords_31 : decode cX12_newWords 31 = .ok (.aload_n 0, 1) := by decide +kernel
theorem dX12_newWords_32 : decode cX12_newWords 32 = .ok (.iload_n 1, 1) := by decide +kernel
theorem dX12_newWords_33 : decode cX12_newWords 33 = .ok (.iconst 0, 1) := by decide +kernel
theorem dX12_newWords_34 : decode cX12_newWords 34 = .ok (.invokevirtual 101, 3) := by decide +kernel
theorem dX12_newWords_37 : decode cX12_newWords 37 = .ok (.iload_n 1, 1) := by decide +kernel
theorem dX12_newWords_38 : decode cX12_newWords 38 = .ok (.iload_n 3, 1) := by decide +kernel
theorem dX12_newWords_39 : decode cX12_newWords 39 = .ok (.invokevirtual 337, 3) := by decide +kernel
theorem dX12_newWords_42 : decode cX12_newWords 42 = .ok (.ifCond .eq 7, 3) := by decide +kernel
theorem dX12_newWords_45 : decode cX12_newWords 45 = .ok (.iconst 0, 1) := by decide +kernel
theorem dX12_newWords_46 : decode cX12_newWords 46 = .ok (.goto 4, 3) := by decide +kernel
theorem dX12_newWords_49 : decode cX12_newWords 49 = .ok (.iconst 1, 1) := by decide +kernel
theorem dX12_newWords_50 : decode cX12_newWords 50 = .ok (.iadd, 1) := by decide +kernel
theorem dX12_newWords_51 : decode cX12_newWords 51 = .ok (.istore_n 2, 1) := by decide +kernel
theorem dX12_newWords_52 : decode cX12_newWords 52 = .ok (.iinc 3 1, 3) := by decide +kernel
theorem dX12_newWords_55 : decode cX12_newWords 55 = .ok (.goto (-36), 3) := by decide +kernel
theorem dX12_newWords_58 : decode cX12_newWords 58 = .ok (.iload_n 2, 1) := by decide +kernel
theorem dX12_newWords_59 : decode cX12_newWords 59 = .ok (.ireturn, 1) := by decide +kernel
def zX12_newWords_19 (G : kz_G) (d : Nat) (Qr : Option Value → kz_M → Prop) (Qx : String → kz_M → Prop) (x0 : Nat) (x1 : Int32) (x2 : Int32) (x3 : Int32)  (M : kz_M) : Prop := kz_Z G (d + 3) 0 0 mX12_newWords Qr Qx 19 [(0, .ref x0), (1, .int x1), (2, .int x2), (3, .int x3)] [] M 0 0
theorem rX12_newWords_0 {G : kz_G} {d : Nat} {Qr : Option Value → kz_M → Prop} {Qx : String → kz_M → Prop} {a0 : Nat} {p1 : Int32}  {M : kz_M} (h : ∃ fs1, (M).1 a0 = some (.inl (11, fs1)) ∧ 9 < fs1.length ∧ ((∃ fs5, ((kz_up M a0 (.inl (11, fs1.set 9 (.int 0))))).1 a0 = some (.inl (11, fs5))) ∧ kz_C G (d + 2) 0 0 mX12_noWork [.ref a0, .int p1] (kz_up M a0 (.inl (11, fs1.set 9 (.int 0)))) (fun v M2 => ∃ r3 : Int32, v = some (.int r3) ∧ ((r3 = 0 → zX12_newWords_19 G d Qr Qx a0 p1 0 0 M2) ∧ (¬ r3 = 0 → Qr (some (.int 0)) M2))) Qx)) : kz_C G (d + 3) 0 0 mX12_newWords [.ref a0, .int p1] M Qr Qx := by
  refine kz_enter (n := 1) kmX12_newWords.1 (Nat.le_of_ble_eq_true rfl) (ls := [(0, .ref a0), (1, .int p1)]) rfl ?_
  refine kz_aload_n (pc := 0) 0 (v := .ref a0) (i := 0) rfl rfl rfl dX12_newWords_0 ?_
  refine kz_iconst (pc := 1) (v := 0) (by decide) dX12_newWords_1 ?_
  obtain ⟨fs1, hM, hlen, h⟩ := h
  refine kz_putf (pc := 2) (k := 9) kcX12 hM (by decide) hlen kw_1387 rfl rfl rfl dX12_newWords_2 ?_
  refine kz_aload_n (pc := 5) 0 (v := .ref a0) (i := 0) rfl rfl rfl dX12_newWords_5 ?_
  refine kz_iload_n (pc := 6) 1 (i := 1) rfl rfl dX12_newWords_6 ?_
  obtain ⟨⟨fs5, he⟩, h⟩ := h
  refine kz_callV (pc := 7) (μ' := mX12_noWork) (ci := 11) (q := (RX12, TX12, 32)) (b := a0) (d' := d + 2) (mc' := 0) (ms' := 0) (As := [.int p1]) (st := []) (c := 0) (sl := 0) kmX12_noWork kw_1713 (by omega) rfl (Nat.le_of_ble_eq_true rfl) he rfl rfl (Nat.le_refl _) (Nat.le_refl _) dX12_newWords_7 (fun E M9 hx => kz_Tout rfl (Nat.le_refl _) (Nat.le_refl _) hx) (kz_Cmono (fun v M2 h => ?_) (fun _ _ h => h) h)
  obtain ⟨r3, rfl, h⟩ := h
  show kz_Z G (d + 3) 0 0 mX12_newWords Qr Qx 10 [(0, .ref a0), (1, .int p1)] [.int r3] M2 0 0
  refine kz_if_eq (pc := 10) (tgt := 15) (by decide) dX12_newWords_10 (fun hb => ?_) (fun hb => ?_)
  · replace h := h.1 hb
    refine kz_iconst (pc := 15) (v := 0) (by decide) dX12_newWords_15 ?_
    refine kz_istore_n (pc := 16) (i := 2) (ls' := [(0, .ref a0), (1, .int p1)]) rfl (by decide) rfl dX12_newWords_16 ?_
    refine kz_iconst (pc := 17) (v := 0) (by decide) dX12_newWords_17 ?_
    refine kz_istore_n (pc := 18) (i := 3) (ls' := [(2, .int 0), (0, .ref a0), (1, .int p1)]) rfl (by decide) rfl dX12_newWords_18 ?_
    refine kz_sub [2, 3, 1, 0] rfl ?_
    exact h
  · replace h := h.2 hb
    refine kz_iconst (pc := 13) (v := 0) (by decide) dX12_newWords_13 ?_
    exact kz_iret (pc := 14) rfl (Nat.le_refl _) (Nat.le_refl _) dX12_newWords_14 h
theorem rX12_newWords_19 {G : kz_G} {d : Nat} {Qr : Option Value → kz_M → Prop} {Qx : String → kz_M → Prop} {x0 : Nat} {x1 : Int32} {x2 : Int32} {x3 : Int32}  {M : kz_M} (h : (∃ fs12, (M).1 x0 = some (.inl (11, fs12))) ∧ kz_C G (d + 2) 0 0 mX12_of [.ref x0, .int x1, .int 3] M (fun v M1 => ∃ r2 : Int32, v = some (.int r2) ∧ ((r2 ≤ x3 → Qr (some (.int x2)) M1) ∧ (¬ r2 ≤ x3 → (∃ fs11, (M1).1 x0 = some (.inl (11, fs11))) ∧ kz_C G (d + 2) 0 0 mX12_of [.ref x0, .int x1, .int 0] M1 (fun v M4 => ∃ r5 : Int32, v = some (.int r5) ∧ ((∃ fs10, (M4).1 x0 = some (.inl (11, fs10))) ∧ kz_C G (d + 2) 0 0 mX12_stoodAhead [.ref x0, .int r5, .int x1, .int x3] M4 (fun v M7 => ∃ r8 : Int32, v = some (.int r8) ∧ ((r8 = 0 → zX12_newWords_19 G d Qr Qx x0 x1 (x2 + 1) (x3 + 1) M7) ∧ (¬ r8 = 0 → zX12_newWords_19 G d Qr Qx x0 x1 (x2 + 0) (x3 + 1) M7))) Qx)) Qx))) Qx) : zX12_newWords_19 G d Qr Qx x0 x1 x2 x3  M := by
  show kz_Z G (d + 3) 0 0 mX12_newWords Qr Qx 19 [(0, .ref x0), (1, .int x1), (2, .int x2), (3, .int x3)] [] M 0 0
  refine kz_iload_n (pc := 19) 3 (i := 3) rfl rfl dX12_newWords_19 ?_
  refine kz_aload_n (pc := 20) 0 (v := .ref x0) (i := 0) rfl rfl rfl dX12_newWords_20 ?_
  refine kz_iload_n (pc := 21) 1 (i := 1) rfl rfl dX12_newWords_21 ?_
  refine kz_iconst (pc := 22) (v := 3) (by decide) dX12_newWords_22 ?_
  obtain ⟨⟨fs12, he⟩, h⟩ := h
  refine kz_callV (pc := 23) (μ' := mX12_of) (ci := 11) (q := (RX12, TX12, 32)) (b := x0) (d' := d + 2) (mc' := 0) (ms' := 0) (As := [.int x1, .int 3]) (st := [.int x3]) (c := 0) (sl := 0) kmX12_of kw_1620 (by omega) rfl (Nat.le_of_ble_eq_true rfl) he rfl rfl (Nat.le_refl _) (Nat.le_refl _) dX12_newWords_23 (fun E M9 hx => kz_Tout rfl (Nat.le_refl _) (Nat.le_refl _) hx) (kz_Cmono (fun v M1 h => ?_) (fun _ _ h => h) h)
  obtain ⟨r2, rfl, h⟩ := h
  show kz_Z G (d + 3) 0 0 mX12_newWords Qr Qx 26 [(0, .ref x0), (1, .int x1), (2, .int x2), (3, .int x3)] [.int r2, .int x3] M1 0 0
  refine kz_icmp_ge (pc := 26) (tgt := 58) (by decide) dX12_newWords_26 (fun hb => ?_) (fun hb => ?_)
  · replace h := h.1 hb
    refine kz_iload_n (pc := 58) 2 (i := 2) rfl rfl dX12_newWords_58 ?_
    exact kz_iret (pc := 59) rfl (Nat.le_refl _) (Nat.le_refl _) dX12_newWords_59 h
  · replace h := h.2 hb
    refine kz_iload_n (pc := 29) 2 (i := 2) rfl rfl dX12_newWords_29 ?_
    refine kz_aload_n (pc := 30) 0 (v := .ref x0) (i := 0) rfl rfl rfl dX12_newWords_30 ?_
    refine kz_aload_n (pc := 31) 0 (v := .ref x0) (i := 0) rfl rfl rfl dX12_newWords_31 ?_
    refine kz_iload_n (pc := 32) 1 (i := 1) rfl rfl dX12_newWords_32 ?_
    refine kz_iconst (pc := 33) (v := 0) (by decide) dX12_newWords_33 ?_
    obtain ⟨⟨fs11, he⟩, h⟩ := h
    refine kz_callV (pc := 34) (μ' := mX12_of) (ci := 11) (q := (RX12, TX12, 32)) (b := x0) (d' := d + 2) (mc' := 0) (ms' := 0) (As := [.int x1, .int 0]) (st := [.ref x0, .int x2]) (c := 0) (sl := 0) kmX12_of kw_1620 (by omega) rfl (Nat.le_of_ble_eq_true rfl) he rfl rfl (Nat.le_refl _) (Nat.le_refl _) dX12_newWords_34 (fun E M9 hx => kz_Tout rfl (Nat.le_refl _) (Nat.le_refl _) hx) (kz_Cmono (fun v M4 h => ?_) (fun _ _ h => h) h)
    obtain ⟨r5, rfl, h⟩ := h
    show kz_Z G (d + 3) 0 0 mX12_newWords Qr Qx 37 [(0, .ref x0), (1, .int x1), (2, .int x2), (3, .int x3)] [.int r5, .ref x0, .int x2] M4 0 0
    refine kz_iload_n (pc := 37) 1 (i := 1) rfl rfl dX12_newWords_37 ?_
    refine kz_iload_n (pc := 38) 3 (i := 3) rfl rfl dX12_newWords_38 ?_
    obtain ⟨⟨fs10, he⟩, h⟩ := h
    refine kz_callV (pc := 39) (μ' := mX12_stoodAhead) (ci := 11) (q := (RX12, TX12, 32)) (b := x0) (d' := d + 2) (mc' := 0) (ms' := 0) (As := [.int r5, .int x1, .int x3]) (st := [.int x2]) (c := 0) (sl := 0) kmX12_stoodAhead kw_1685 (by omega) rfl (Nat.le_of_ble_eq_true rfl) he rfl rfl (Nat.le_refl _) (Nat.le_refl _) dX12_newWords_39 (fun E M9 hx => kz_Tout rfl (Nat.le_refl _) (Nat.le_refl _) hx) (kz_Cmono (fun v M7 h => ?_) (fun _ _ h => h) h)
    obtain ⟨r8, rfl, h⟩ := h
    show kz_Z G (d + 3) 0 0 mX12_newWords Qr Qx 42 [(0, .ref x0), (1, .int x1), (2, .int x2), (3, .int x3)] [.int r8, .int x2] M7 0 0
    refine kz_if_eq (pc := 42) (tgt := 49) (by decide) dX12_newWords_42 (fun hb => ?_) (fun hb => ?_)
    · replace h := h.1 hb
      refine kz_iconst (pc := 49) (v := 1) (by decide) dX12_newWords_49 ?_
      refine kz_iadd (pc := 50) dX12_newWords_50 ?_
      refine kz_istore_n (pc := 51) (i := 2) (ls' := [(0, .ref x0), (1, .int x1), (3, .int x3)]) rfl (by decide) rfl dX12_newWords_51 ?_
      refine kz_iinc (pc := 52) 3 (i := 3) (v := x3 + 1) (ls' := [(2, .int (x2 + 1)), (0, .ref x0), (1, .int x1)]) rfl (congrArg (fun z => x3 + z) (by decide)) (by decide) rfl dX12_newWords_52 ?_
      refine kz_goto (pc := 55) (tgt := 19) (by decide) dX12_newWords_55 ?_
      refine kz_sub [2, 3, 1, 0] rfl ?_
      exact h
    · replace h := h.2 hb
      refine kz_iconst (pc := 45) (v := 0) (by decide) dX12_newWords_45 ?_
      refine kz_goto (pc := 46) (tgt := 50) (by decide) dX12_newWords_46 ?_
      refine kz_iadd (pc := 50) dX12_newWords_50 ?_
      refine kz_istore_n (pc := 51) (i := 2) (ls' := [(0, .ref x0), (1, .int x1), (3, .int x3)]) rfl (by decide) rfl dX12_newWords_51 ?_
      refine kz_iinc (pc := 52) 3 (i := 3) (v := x3 + 1) (ls' := [(2, .int (x2 + 0)), (0, .ref x0), (1, .int x1)]) rfl (congrArg (fun z => x3 + z) (by decide)) (by decide) rfl dX12_newWords_52 ?_
      refine kz_goto (pc := 55) (tgt := 19) (by decide) dX12_newWords_55 ?_
      refine kz_sub [2, 3, 1, 0] rfl ?_
      exact h
theorem dX12_widest_0 : decode cX12_widest 0 = .ok (.aload_n 0, 1) := by decide +kernel
theorem dX12_widest_1 : decode cX12_widest 1 = .ok (.iconst 0, 1) := by decide +kernel
theorem dX12_widest_2 : decode cX12_widest 2 = .ok (.putfield 60, 3) := by decide +kernel
theorem dX12_widest_5 : decode cX12_widest 5 = .ok (.aload_n 0, 1) := by decide +kernel
theorem dX12_widest_6 : decode cX12_widest 6 = .ok (.iload_n 1, 1) := by decide +kernel
theorem dX12_widest_7 : decode cX12_widest 7 = .ok (.invokevirtual 314, 3) := by decide +kernel
theorem dX12_widest_10 : decode cX12_widest 10 = .ok (.ifCond .eq 5, 3) := by decide +kernel
theorem dX12_widest_13 : decode cX12_widest 13 = .ok (.iconst 0, 1) := by decide +kernel
theorem dX12_widest_14 : decode cX12_widest 14 = .ok (.ireturn, 1) := by decide +kernel
theorem dX12_widest_15 : decode cX12_widest 15 = .ok (.iconst 0, 1) := by decide +kernel
theorem dX12_widest_16 : decode cX12_widest 16 = .ok (.istore_n 2, 1) := by decide +kernel
theorem dX12_widest_17 : decode cX12_widest 17 = .ok (.iconst 1, 1) := by decide +kernel
theorem dX12_widest_18 : decode cX12_widest 18 = .ok (.istore_n 3, 1) := by decide +kernel
theorem dX12_widest_19 : decode cX12_widest 19 = .ok (.iload_n 3, 1) := by decide +kernel
theorem dX12_widest_20 : decode cX12_widest 20 = .ok (.aload_n 0, 1) := by decide +kernel
theorem dX12_widest_21 : decode cX12_widest 21 = .ok (.iload_n 1, 1) := by decide +kernel
theorem dX12_widest_22 : decode cX12_widest 22 = .ok (.iconst 4, 1) := by decide +kernel
theorem dX12_widest_23 : decode cX12_widest 23 = .ok (.invokevirtual 101, 3) := by decide +kernel
theorem dX12_widest_26 : decode cX12_widest 26 = .ok (.if_icmp .ge 26, 3) := by decide +kernel
theorem dX12_widest_29 : decode cX12_widest 29 = .ok (.aload_n 0, 1) := by decide +kernel
theorem dX12_widest_30 : decode cX12_widest 30 = .ok (.iload_n 1, 1) := by decide +kernel
theorem dX12_widest_31 : decode cX12_widest 31 = .ok (.iload_n 3, 1) := by decide +kernel
theorem dX12_widest_32 : decode cX12_widest 32 = .ok (.invokevirtual 361, 3) := by decide +kernel
theorem dX12_widest_35 : decode cX12_widest 35 = .ok (.aload_n 0, 1) := by decide +kernel
theorem dX12_widest_36 : decode cX12_widest 36 = .ok (.iload_n 1, 1) := by decide +kernel
theorem dX12_widest_37 : decode cX12_widest 37 = .ok (.iload_n 2, 1) := by decide +kernel
theorem dX12_widest_38 : decode cX12_widest 38 = .ok (.invokevirtual 361, 3) := by decide +kernel
theorem dX12_widest_41 : decode cX12_widest 41 = .ok (.if_icmp .le 5, 3) := by decide +kernel
theorem dX12_widest_44 : decode cX12_widest 44 = .ok (.iload_n 3, 1) := by decide +kernel
theorem dX12_widest_45 : decode cX12_widest 45 = .ok (.istore_n 2, 1) := by decide +kernel
theorem dX12_widest_46 : decode cX12_widest 46 = .ok (.iinc 3 1, 3) := by decide +kernel
theorem dX12_widest_49 : decode cX12_widest 49 = .ok (.goto (-30), 3) := by decide +kernel
theorem dX12_widest_52 : decode cX12_widest 52 = .ok (.iload_n 2, 1) := by decide +kernel
theorem dX12_widest_53 : decode cX12_widest 53 = .ok (.ireturn, 1) := by decide +kernel
def zX12_widest_19 (G : kz_G) (d : Nat) (Qr : Option Value → kz_M → Prop) (Qx : String → kz_M → Prop) (x0 : Nat) (x1 : Int32) (x2 : Int32) (x3 : Int32)  (M : kz_M) : Prop := kz_Z G (d + 4) 0 0 mX12_widest Qr Qx 19 [(0, .ref x0), (1, .int x1), (2, .int x2), (3, .int x3)] [] M 0 0
theorem rX12_widest_0 {G : kz_G} {d : Nat} {Qr : Option Value → kz_M → Prop} {Qx : String → kz_M → Prop} {a0 : Nat} {p1 : Int32}  {M : kz_M} (h : ∃ fs1, (M).1 a0 = some (.inl (11, fs1)) ∧ 9 < fs1.length ∧ ((∃ fs5, ((kz_up M a0 (.inl (11, fs1.set 9 (.int 0))))).1 a0 = some (.inl (11, fs5))) ∧ kz_C G (d + 3) 0 0 mX12_noWork [.ref a0, .int p1] (kz_up M a0 (.inl (11, fs1.set 9 (.int 0)))) (fun v M2 => ∃ r3 : Int32, v = some (.int r3) ∧ ((r3 = 0 → zX12_widest_19 G d Qr Qx a0 p1 0 1 M2) ∧ (¬ r3 = 0 → Qr (some (.int 0)) M2))) Qx)) : kz_C G (d + 4) 0 0 mX12_widest [.ref a0, .int p1] M Qr Qx := by
  refine kz_enter (n := 1) kmX12_widest.1 (Nat.le_of_ble_eq_true rfl) (ls := [(0, .ref a0), (1, .int p1)]) rfl ?_
  refine kz_aload_n (pc := 0) 0 (v := .ref a0) (i := 0) rfl rfl rfl dX12_widest_0 ?_
  refine kz_iconst (pc := 1) (v := 0) (by decide) dX12_widest_1 ?_
  obtain ⟨fs1, hM, hlen, h⟩ := h
  refine kz_putf (pc := 2) (k := 9) kcX12 hM (by decide) hlen kw_1387 rfl rfl rfl dX12_widest_2 ?_
  refine kz_aload_n (pc := 5) 0 (v := .ref a0) (i := 0) rfl rfl rfl dX12_widest_5 ?_
  refine kz_iload_n (pc := 6) 1 (i := 1) rfl rfl dX12_widest_6 ?_
  obtain ⟨⟨fs5, he⟩, h⟩ := h
  refine kz_callV (pc := 7) (μ' := mX12_noWork) (ci := 11) (q := (RX12, TX12, 32)) (b := a0) (d' := d + 3) (mc' := 0) (ms' := 0) (As := [.int p1]) (st := []) (c := 0) (sl := 0) kmX12_noWork kw_1713 (by omega) rfl (Nat.le_of_ble_eq_true rfl) he rfl rfl (Nat.le_refl _) (Nat.le_refl _) dX12_widest_7 (fun E M9 hx => kz_Tout rfl (Nat.le_refl _) (Nat.le_refl _) hx) (kz_Cmono (fun v M2 h => ?_) (fun _ _ h => h) h)
  obtain ⟨r3, rfl, h⟩ := h
  show kz_Z G (d + 4) 0 0 mX12_widest Qr Qx 10 [(0, .ref a0), (1, .int p1)] [.int r3] M2 0 0
  refine kz_if_eq (pc := 10) (tgt := 15) (by decide) dX12_widest_10 (fun hb => ?_) (fun hb => ?_)
  · replace h := h.1 hb
    refine kz_iconst (pc := 15) (v := 0) (by decide) dX12_widest_15 ?_
    refine kz_istore_n (pc := 16) (i := 2) (ls' := [(0, .ref a0), (1, .int p1)]) rfl (by decide) rfl dX12_widest_16 ?_
    refine kz_iconst (pc := 17) (v := 1) (by decide) dX12_widest_17 ?_
    refine kz_istore_n (pc := 18) (i := 3) (ls' := [(2, .int 0), (0, .ref a0), (1, .int p1)]) rfl (by decide) rfl dX12_widest_18 ?_
    refine kz_sub [2, 3, 1, 0] rfl ?_
    exact h
  · replace h := h.2 hb
    refine kz_iconst (pc := 13) (v := 0) (by decide) dX12_widest_13 ?_
    exact kz_iret (pc := 14) rfl (Nat.le_refl _) (Nat.le_refl _) dX12_widest_14 h
theorem rX12_widest_19 {G : kz_G} {d : Nat} {Qr : Option Value → kz_M → Prop} {Qx : String → kz_M → Prop} {x0 : Nat} {x1 : Int32} {x2 : Int32} {x3 : Int32}  {M : kz_M} (h : (∃ fs12, (M).1 x0 = some (.inl (11, fs12))) ∧ kz_C G (d + 3) 0 0 mX12_of [.ref x0, .int x1, .int 4] M (fun v M1 => ∃ r2 : Int32, v = some (.int r2) ∧ ((r2 ≤ x3 → Qr (some (.int x2)) M1) ∧ (¬ r2 ≤ x3 → (∃ fs11, (M1).1 x0 = some (.inl (11, fs11))) ∧ kz_C G (d + 3) 0 0 mX12_widthOf [.ref x0, .int x1, .int x3] M1 (fun v M4 => ∃ r5 : Int32, v = some (.int r5) ∧ ((∃ fs10, (M4).1 x0 = some (.inl (11, fs10))) ∧ kz_C G (d + 3) 0 0 mX12_widthOf [.ref x0, .int x1, .int x2] M4 (fun v M7 => ∃ r8 : Int32, v = some (.int r8) ∧ ((r5 ≤ r8 → zX12_widest_19 G d Qr Qx x0 x1 x2 (x3 + 1) M7) ∧ (¬ r5 ≤ r8 → zX12_widest_19 G d Qr Qx x0 x1 x3 (x3 + 1) M7))) Qx)) Qx))) Qx) : zX12_widest_19 G d Qr Qx x0 x1 x2 x3  M := by
  show kz_Z G (d + 4) 0 0 mX12_widest Qr Qx 19 [(0, .ref x0), (1, .int x1), (2, .int x2), (3, .int x3)] [] M 0 0
  refine kz_iload_n (pc := 19) 3 (i := 3) rfl rfl dX12_widest_19 ?_
  refine kz_aload_n (pc := 20) 0 (v := .ref x0) (i := 0) rfl rfl rfl dX12_widest_20 ?_
  refine kz_iload_n (pc := 21) 1 (i := 1) rfl rfl dX12_widest_21 ?_
  refine kz_iconst (pc := 22) (v := 4) (by decide) dX12_widest_22 ?_
  obtain ⟨⟨fs12, he⟩, h⟩ := h
  refine kz_callV (pc := 23) (μ' := mX12_of) (ci := 11) (q := (RX12, TX12, 32)) (b := x0) (d' := d + 3) (mc' := 0) (ms' := 0) (As := [.int x1, .int 4]) (st := [.int x3]) (c := 0) (sl := 0) kmX12_of kw_1620 (by omega) rfl (Nat.le_of_ble_eq_true rfl) he rfl rfl (Nat.le_refl _) (Nat.le_refl _) dX12_widest_23 (fun E M9 hx => kz_Tout rfl (Nat.le_refl _) (Nat.le_refl _) hx) (kz_Cmono (fun v M1 h => ?_) (fun _ _ h => h) h)
  obtain ⟨r2, rfl, h⟩ := h
  show kz_Z G (d + 4) 0 0 mX12_widest Qr Qx 26 [(0, .ref x0), (1, .int x1), (2, .int x2), (3, .int x3)] [.int r2, .int x3] M1 0 0
  refine kz_icmp_ge (pc := 26) (tgt := 52) (by decide) dX12_widest_26 (fun hb => ?_) (fun hb => ?_)
  · replace h := h.1 hb
    refine kz_iload_n (pc := 52) 2 (i := 2) rfl rfl dX12_widest_52 ?_
    exact kz_iret (pc := 53) rfl (Nat.le_refl _) (Nat.le_refl _) dX12_widest_53 h
  · replace h := h.2 hb
    refine kz_aload_n (pc := 29) 0 (v := .ref x0) (i := 0) rfl rfl rfl dX12_widest_29 ?_
    refine kz_iload_n (pc := 30) 1 (i := 1) rfl rfl dX12_widest_30 ?_
    refine kz_iload_n (pc := 31) 3 (i := 3) rfl rfl dX12_widest_31 ?_
    obtain ⟨⟨fs11, he⟩, h⟩ := h
    refine kz_callV (pc := 32) (μ' := mX12_widthOf) (ci := 11) (q := (RX12, TX12, 32)) (b := x0) (d' := d + 3) (mc' := 0) (ms' := 0) (As := [.int x1, .int x3]) (st := []) (c := 0) (sl := 0) kmX12_widthOf kw_1733 (by omega) rfl (Nat.le_of_ble_eq_true rfl) he rfl rfl (Nat.le_refl _) (Nat.le_refl _) dX12_widest_32 (fun E M9 hx => kz_Tout rfl (Nat.le_refl _) (Nat.le_refl _) hx) (kz_Cmono (fun v M4 h => ?_) (fun _ _ h => h) h)
    obtain ⟨r5, rfl, h⟩ := h
    show kz_Z G (d + 4) 0 0 mX12_widest Qr Qx 35 [(0, .ref x0), (1, .int x1), (2, .int x2), (3, .int x3)] [.int r5] M4 0 0
    refine kz_aload_n (pc := 35) 0 (v := .ref x0) (i := 0) rfl rfl rfl dX12_widest_35 ?_
    refine kz_iload_n (pc := 36) 1 (i := 1) rfl rfl dX12_widest_36 ?_
    refine kz_iload_n (pc := 37) 2 (i := 2) rfl rfl dX12_widest_37 ?_
    obtain ⟨⟨fs10, he⟩, h⟩ := h
    refine kz_callV (pc := 38) (μ' := mX12_widthOf) (ci := 11) (q := (RX12, TX12, 32)) (b := x0) (d' := d + 3) (mc' := 0) (ms' := 0) (As := [.int x1, .int x2]) (st := [.int r5]) (c := 0) (sl := 0) kmX12_widthOf kw_1733 (by omega) rfl (Nat.le_of_ble_eq_true rfl) he rfl rfl (Nat.le_refl _) (Nat.le_refl _) dX12_widest_38 (fun E M9 hx => kz_Tout rfl (Nat.le_refl _) (Nat.le_refl _) hx) (kz_Cmono (fun v M7 h => ?_) (fun _ _ h => h) h)
    obtain ⟨r8, rfl, h⟩ := h
    show kz_Z G (d + 4) 0 0 mX12_widest Qr Qx 41 [(0, .ref x0), (1, .int x1), (2, .int x2), (3, .int x3)] [.int r8, .int r5] M7 0 0
    refine kz_icmp_le (pc := 41) (tgt := 46) (by decide) dX12_widest_41 (fun hb => ?_) (fun hb => ?_)
    · replace h := h.1 hb
      refine kz_iinc (pc := 46) 3 (i := 3) (v := x3 + 1) (ls' := [(0, .ref x0), (1, .int x1), (2, .int x2)]) rfl (congrArg (fun z => x3 + z) (by decide)) (by decide) rfl dX12_widest_46 ?_
      refine kz_goto (pc := 49) (tgt := 19) (by decide) dX12_widest_49 ?_
      refine kz_sub [1, 2, 3, 0] rfl ?_
      exact h
    · replace h := h.2 hb
      refine kz_iload_n (pc := 44) 3 (i := 3) rfl rfl dX12_widest_44 ?_
      refine kz_istore_n (pc := 45) (i := 2) (ls' := [(0, .ref x0), (1, .int x1), (3, .int x3)]) rfl (by decide) rfl dX12_widest_45 ?_
      refine kz_iinc (pc := 46) 3 (i := 3) (v := x3 + 1) (ls' := [(2, .int x3), (0, .ref x0), (1, .int x1)]) rfl (congrArg (fun z => x3 + z) (by decide)) (by decide) rfl dX12_widest_46 ?_
      refine kz_goto (pc := 49) (tgt := 19) (by decide) dX12_widest_49 ?_
      refine kz_sub [2, 3, 1, 0] rfl ?_
      exact h
theorem dX12_hasLike_0 : decode cX12_hasLike 0 = .ok (.iconst 0, 1) := by decide +kernel
theorem dX12_hasLike_1 : decode cX12_hasLike 1 = .ok (.istore 4, 2) := by decide +kernel
theorem dX12_hasLike_3 : decode cX12_hasLike 3 = .ok (.iload 4, 2) := by decide +kernel
theorem dX12_hasLike_5 : decode cX12_hasLike 5 = .ok (.aload_n 0, 1) := by decide +kernel
theorem dX12_hasLike_6 : decode cX12_hasLike 6 = .ok (.iload_n 3, 1) := by decide +kernel
theorem dX12_hasLike_7 : decode cX12_hasLike 7 = .ok (.iconst 4, 1) := by decide +kernel
theorem dX12_hasLike_8 : decode cX12_hasLike 8 = .ok (.invokevirtual 101, 3) := by decide +kernel
theorem dX12_hasLike_11 : decode cX12_hasLike 11 = .ok (.if_icmp .ge 23, 3) := by decide +kernel
theorem dX12_hasLike_14 : decode cX12_hasLike 14 = .ok (.aload_n 0, 1) := by decide +kernel
theorem dX12_hasLike_15 : decode cX12_hasLike 15 = .ok (.iload_n 1, 1) := by decide +kernel
theorem dX12_hasLike_16 : decode cX12_hasLike 16 = .ok (.iload_n 2, 1) := by decide +kernel
theorem dX12_hasLike_17 : decode cX12_hasLike 17 = .ok (.iload_n 3, 1) := by decide +kernel
theorem dX12_hasLike_18 : decode cX12_hasLike 18 = .ok (.iload 4, 2) := by decide +kernel
theorem dX12_hasLike_20 : decode cX12_hasLike 20 = .ok (.invokevirtual 367, 3) := by decide +kernel
theorem dX12_hasLike_23 : decode cX12_hasLike 23 = .ok (.ifCond .eq 5, 3) := by decide +kernel
theorem dX12_hasLike_26 : decode cX12_hasLike 26 = .ok (.iconst 1, 1) := by decide +kernel
theorem dX12_hasLike_27 : decode cX12_hasLike 27 = .ok (.ireturn, 1) := by decide +kernel
theorem dX12_hasLike_28 : decode cX12_hasLike 28 = .ok (.iinc 4 1, 3) := by decide +kernel
theorem dX12_hasLike_31 : decode cX12_hasLike 31 = .ok (.goto (-28), 3) := by decide +kernel
theorem dX12_hasLike_34 : decode cX12_hasLike 34 = .ok (.iconst 0, 1) := by decide +kernel
theorem dX12_hasLike_35 : decode cX12_hasLike 35 = .ok (.ireturn, 1) := by decide +kernel
def zX12_hasLike_3 (G : kz_G) (d : Nat) (Qr : Option Value → kz_M → Prop) (Qx : String → kz_M → Prop) (x0 : Nat) (x1 : Int32) (x2 : Int32) (x3 : Int32) (x4 : Int32)  (M : kz_M) : Prop := kz_Z G (d + 4) 0 0 mX12_hasLike Qr Qx 3 [(0, .ref x0), (1, .int x1), (2, .int x2), (3, .int x3), (4, .int x4)] [] M 0 0
theorem rX12_hasLike_0 {G : kz_G} {d : Nat} {Qr : Option Value → kz_M → Prop} {Qx : String → kz_M → Prop} {a0 : Nat} {p1 : Int32} {p2 : Int32} {p3 : Int32}  {M : kz_M} (h : zX12_hasLike_3 G d Qr Qx a0 p1 p2 p3 0 M) : kz_C G (d + 4) 0 0 mX12_hasLike [.ref a0, .int p1, .int p2, .int p3] M Qr Qx := by
  refine kz_enter (n := 3) kmX12_hasLike.1 (Nat.le_of_ble_eq_true rfl) (ls := [(0, .ref a0), (1, .int p1), (2, .int p2), (3, .int p3)]) rfl ?_
  refine kz_iconst (pc := 0) (v := 0) (by decide) dX12_hasLike_0 ?_
  refine kz_istore (pc := 1) (i := 4) (ls' := [(0, .ref a0), (1, .int p1), (2, .int p2), (3, .int p3)]) (by decide) rfl dX12_hasLike_1 ?_
  refine kz_sub [1, 2, 3, 4, 0] rfl ?_
  exact h
theorem rX12_hasLike_3 {G : kz_G} {d : Nat} {Qr : Option Value → kz_M → Prop} {Qx : String → kz_M → Prop} {x0 : Nat} {x1 : Int32} {x2 : Int32} {x3 : Int32} {x4 : Int32}  {M : kz_M} (h : (∃ fs8, (M).1 x0 = some (.inl (11, fs8))) ∧ kz_C G (d + 3) 0 0 mX12_of [.ref x0, .int x3, .int 4] M (fun v M1 => ∃ r2 : Int32, v = some (.int r2) ∧ ((r2 ≤ x4 → Qr (some (.int 0)) M1) ∧ (¬ r2 ≤ x4 → (∃ fs7, (M1).1 x0 = some (.inl (11, fs7))) ∧ kz_C G (d + 3) 0 0 mX12_areAlike [.ref x0, .int x1, .int x2, .int x3, .int x4] M1 (fun v M4 => ∃ r5 : Int32, v = some (.int r5) ∧ ((r5 = 0 → zX12_hasLike_3 G d Qr Qx x0 x1 x2 x3 (x4 + 1) M4) ∧ (¬ r5 = 0 → Qr (some (.int 1)) M4))) Qx))) Qx) : zX12_hasLike_3 G d Qr Qx x0 x1 x2 x3 x4  M := by
  show kz_Z G (d + 4) 0 0 mX12_hasLike Qr Qx 3 [(0, .ref x0), (1, .int x1), (2, .int x2), (3, .int x3), (4, .int x4)] [] M 0 0
  refine kz_iload (pc := 3) 4 (i := 4) rfl dX12_hasLike_3 ?_
  refine kz_aload_n (pc := 5) 0 (v := .ref x0) (i := 0) rfl rfl rfl dX12_hasLike_5 ?_
  refine kz_iload_n (pc := 6) 3 (i := 3) rfl rfl dX12_hasLike_6 ?_
  refine kz_iconst (pc := 7) (v := 4) (by decide) dX12_hasLike_7 ?_
  obtain ⟨⟨fs8, he⟩, h⟩ := h
  refine kz_callV (pc := 8) (μ' := mX12_of) (ci := 11) (q := (RX12, TX12, 32)) (b := x0) (d' := d + 3) (mc' := 0) (ms' := 0) (As := [.int x3, .int 4]) (st := [.int x4]) (c := 0) (sl := 0) kmX12_of kw_1620 (by omega) rfl (Nat.le_of_ble_eq_true rfl) he rfl rfl (Nat.le_refl _) (Nat.le_refl _) dX12_hasLike_8 (fun E M9 hx => kz_Tout rfl (Nat.le_refl _) (Nat.le_refl _) hx) (kz_Cmono (fun v M1 h => ?_) (fun _ _ h => h) h)
  obtain ⟨r2, rfl, h⟩ := h
  show kz_Z G (d + 4) 0 0 mX12_hasLike Qr Qx 11 [(0, .ref x0), (1, .int x1), (2, .int x2), (3, .int x3), (4, .int x4)] [.int r2, .int x4] M1 0 0
  refine kz_icmp_ge (pc := 11) (tgt := 34) (by decide) dX12_hasLike_11 (fun hb => ?_) (fun hb => ?_)
  · replace h := h.1 hb
    refine kz_iconst (pc := 34) (v := 0) (by decide) dX12_hasLike_34 ?_
    exact kz_zret (pc := 35) (ty := .boolean) rfl (by decide) (Nat.le_refl _) (Nat.le_refl _) dX12_hasLike_35 h
  · replace h := h.2 hb
    refine kz_aload_n (pc := 14) 0 (v := .ref x0) (i := 0) rfl rfl rfl dX12_hasLike_14 ?_
    refine kz_iload_n (pc := 15) 1 (i := 1) rfl rfl dX12_hasLike_15 ?_
    refine kz_iload_n (pc := 16) 2 (i := 2) rfl rfl dX12_hasLike_16 ?_
    refine kz_iload_n (pc := 17) 3 (i := 3) rfl rfl dX12_hasLike_17 ?_
    refine kz_iload (pc := 18) 4 (i := 4) rfl dX12_hasLike_18 ?_
    obtain ⟨⟨fs7, he⟩, h⟩ := h
    refine kz_callV (pc := 20) (μ' := mX12_areAlike) (ci := 11) (q := (RX12, TX12, 32)) (b := x0) (d' := d + 3) (mc' := 0) (ms' := 0) (As := [.int x1, .int x2, .int x3, .int x4]) (st := []) (c := 0) (sl := 0) kmX12_areAlike kw_1748 (by omega) rfl (Nat.le_of_ble_eq_true rfl) he rfl rfl (Nat.le_refl _) (Nat.le_refl _) dX12_hasLike_20 (fun E M9 hx => kz_Tout rfl (Nat.le_refl _) (Nat.le_refl _) hx) (kz_Cmono (fun v M4 h => ?_) (fun _ _ h => h) h)
    obtain ⟨r5, rfl, h⟩ := h
    show kz_Z G (d + 4) 0 0 mX12_hasLike Qr Qx 23 [(0, .ref x0), (1, .int x1), (2, .int x2), (3, .int x3), (4, .int x4)] [.int r5] M4 0 0
    refine kz_if_eq (pc := 23) (tgt := 28) (by decide) dX12_hasLike_23 (fun hb => ?_) (fun hb => ?_)
    · replace h := h.1 hb
      refine kz_iinc (pc := 28) 4 (i := 4) (v := x4 + 1) (ls' := [(0, .ref x0), (1, .int x1), (2, .int x2), (3, .int x3)]) rfl (congrArg (fun z => x4 + z) (by decide)) (by decide) rfl dX12_hasLike_28 ?_
      refine kz_goto (pc := 31) (tgt := 3) (by decide) dX12_hasLike_31 ?_
      refine kz_sub [1, 2, 3, 4, 0] rfl ?_
      exact h
    · replace h := h.2 hb
      refine kz_iconst (pc := 26) (v := 1) (by decide) dX12_hasLike_26 ?_
      exact kz_zret (pc := 27) (ty := .boolean) rfl (by decide) (Nat.le_refl _) (Nat.le_refl _) dX12_hasLike_27 h
theorem dX12_copiedFrom_0 : decode cX12_copiedFrom 0 = .ok (.aload_n 0, 1) := by decide +kernel
theorem dX12_copiedFrom_1 : decode cX12_copiedFrom 1 = .ok (.iconst 0, 1) := by decide +kernel
theorem dX12_copiedFrom_2 : decode cX12_copiedFrom 2 = .ok (.putfield 60, 3) := by decide +kernel
theorem dX12_copiedFrom_5 : decode cX12_copiedFrom 5 = .ok (.aload_n 0, 1) := by decide +kernel
theorem dX12_copiedFrom_6 : decode cX12_copiedFrom 6 = .ok (.iload_n 1, 1) := by decide +kernel
theorem dX12_copiedFrom_7 : decode cX12_copiedFrom 7 = .ok (.invokevirtual 314, 3) := by decide +kernel
theorem dX12_copiedFrom_10 : decode cX12_copiedFrom 10 = .ok (.ifCond .eq 5, 3) := by decide +kernel
theorem dX12_copiedFrom_13 : decode cX12_copiedFrom 13 = .ok (.iconst 0, 1) := by decide +kernel
theorem dX12_copiedFrom_14 : decode cX12_copiedFrom 14 = .ok (.ireturn, 1) := by decide +kernel
theorem dX12_copiedFrom_15 : decode cX12_copiedFrom 15 = .ok (.iconst (-1), 1) := by decide +kernel
theorem dX12_copiedFrom_16 : decode cX12_copiedFrom 16 = .ok (.istore_n 2, 1) := by decide +kernel
theorem dX12_copiedFrom_17 : decode cX12_copiedFrom 17 = .ok (.iconst 0, 1) := by decide +kernel
theorem dX12_copiedFrom_18 : decode cX12_copiedFrom 18 = .ok (.istore_n 3, 1) := by decide +kernel
theorem dX12_copiedFrom_19 : decode cX12_copiedFrom 19 = .ok (.iconst 0, 1) := by decide +kernel
theorem dX12_copiedFrom_20 : decode cX12_copiedFrom 20 = .ok (.istore 4, 2) := by decide +kernel
theorem dX12_copiedFrom_22 : decode cX12_copiedFrom 22 = .ok (.iload 4, 2) := by decide +kernel
theorem dX12_copiedFrom_24 : decode cX12_copiedFrom 24 = .ok (.aload_n 0, 1) := by decide +kernel
theorem dX12_copiedFrom_25 : decode cX12_copiedFrom 25 = .ok (.getfield 7, 3) := by decide +kernel
theorem dX12_copiedFrom_28 : decode cX12_copiedFrom 28 = .ok (.iconst 1, 1) := by decide +kernel
theorem dX12_copiedFrom_29 : decode cX12_copiedFrom 29 = .ok (.iaload, 1) := by decide +kernel
theorem dX12_copiedFrom_30 : decode cX12_copiedFrom 30 = .ok (.if_icmp .ge 87, 3) := by decide +kernel
theorem dX12_copiedFrom_33 : decode cX12_copiedFrom 33 = .ok (.aload_n 0, 1) := by decide +kernel
theorem dX12_copiedFrom_34 : decode cX12_copiedFrom 34 = .ok (.iload 4, 2) := by decide +kernel
theorem dX12_copiedFrom_36 : decode cX12_copiedFrom 36 = .ok (.aload_n 0, 1) := by decide +kernel
theorem dX12_copiedFrom_37 : decode cX12_copiedFrom 37 = .ok (.iload_n 1, 1) := by decide +kernel
theorem dX12_copiedFrom_38 : decode cX12_copiedFrom 38 = .ok (.iconst 0, 1) := by decide +kernel
theorem dX12_copiedFrom_39 : decode cX12_copiedFrom 39 = .ok (.invokevirtual 101, 3) := by decide +kernel
theorem dX12_copiedFrom_42 : decode cX12_copiedFrom 42 = .ok (.invokevirtual 116, 3) := by decide +kernel
theorem dX12_copiedFrom_45 : decode cX12_copiedFrom 45 = .ok (.ifCond .eq 6, 3) := by decide +kernel
theorem dX12_copiedFrom_48 : decode cX12_copiedFrom 48 = .ok (.goto 63, 3) := by decide +kernel
theorem dX12_copiedFrom_51 : decode cX12_copiedFrom 51 = .ok (.iconst 0, 1) := by decide +kernel
theorem dX12_copiedFrom_52 : decode cX12_copiedFrom 52 = .ok (.istore 5, 2) := by decide +kernel
theorem dX12_copiedFrom_54 : decode cX12_copiedFrom 54 = .ok (.iconst 0, 1) := by decide +kernel
theorem dX12_copiedFrom_55 : decode cX12_copiedFrom 55 = .ok (.istore 6, 2) := by decide +kernel
theorem dX12_copiedFrom_57 : decode cX12_copiedFrom 57 = .ok (.iload 6, 2) := by decide +kernel
theorem dX12_copiedFrom_59 : decode cX12_copiedFrom 59 = .ok (.aload_n 0, 1) := by decide +kernel
theorem dX12_copiedFrom_60 : decode cX12_copiedFrom 60 = .ok (.iload_n 1, 1) := by decide +kernel
theorem dX12_copiedFrom_61 : decode cX12_copiedFrom 61 = .ok (.iconst 4, 1) := by decide +kernel
theorem dX12_copiedFrom_62 : decode cX12_copiedFrom 62 = .ok (.invokevirtual 101, 3) := by decide +kernel
theorem dX12_copiedFrom_65 : decode cX12_copiedFrom 65 = .ok (.if_icmp .ge 31, 3) := by decide +kernel
theorem dX12_copiedFrom_68 : decode cX12_copiedFrom 68 = .ok (.iload 5, 2) := by decide +kernel
theorem dX12_copiedFrom_70 : decode cX12_copiedFrom 70 = .ok (.aload_n 0, 1) := by decide +kernel
theorem dX12_copiedFrom_71 : decode cX12_copiedFrom 71 = .ok (.iload_n 1, 1) := by decide +kernel
theorem dX12_copiedFrom_72 : decode cX12_copiedFrom 72 = .ok (.iload 6, 2) := by decide +kernel
theorem dX12_copiedFrom_74 : decode cX12_copiedFrom 74 = .ok (.iload 4, 2) := by decide +kernel
theorem dX12_copiedFrom_76 : decode cX12_copiedFrom 76 = .ok (.invokevirtual 370, 3) := by decide +kernel
theorem dX12_copiedFrom_79 : decode cX12_copiedFrom 79 = .ok (.ifCond .eq 7, 3) := by decide +kernel
theorem dX12_copiedFrom_82 : decode cX12_copiedFrom 82 = .ok (.iconst 1, 1) := by decide +kernel
theorem dX12_copiedFrom_83 : decode cX12_copiedFrom 83 = .ok (.goto 4, 3) := by decide +kernel
theorem dX12_copiedFrom_86 : decode cX12_copiedFrom 86 = .ok (.iconst 0, 1) := by decide +kernel
theorem dX12_copiedFrom_87 : decode cX12_copiedFrom 87 = .ok (.iadd, 1) := by decide +kernel
theorem dX12_copiedFrom_88 : decode cX12_copiedFrom 88 = .ok (.istore 5, 2) := by decide +kernel
theorem dX12_copiedFrom_90 : decode cX12_copiedFrom 90 = .ok (.iinc 6 1, 3) := by decide +kernel
theorem dX12_copiedFrom_93 : decode cX12_copiedFrom 93 = .ok (.goto (-36), 3) := by decide +kernel
theorem dX12_copiedFrom_96 : decode cX12_copiedFrom 96 = .ok (.iload 5, 2) := by decide +kernel
theorem dX12_copiedFrom_98 : decode cX12_copiedFrom 98 = .ok (.iload_n 3, 1) := by decide +kernel
theorem dX12_copiedFrom_99 : decode cX12_copiedFrom 99 = .ok (.if_icmp .gt 6, 3) := by decide +kernel
theorem dX12_copiedFrom_102 : decode cX12_copiedFrom 102 = .ok (.goto 9, 3) := by decide +kernel
theorem dX12_copiedFrom_105 : decode cX12_copiedFrom 105 = .ok (.iload 4, 2) := by decide +kernel
theorem dX12_copiedFrom_107 : decode cX12_copiedFrom 107 = .ok (.istore_n 2, 1) := by decide +kernel
theorem dX12_copiedFrom_108 : decode cX12_copiedFrom 108 = .ok (.iload 5, 2) := by decide +kernel
theorem dX12_copiedFrom_110 : decode cX12_copiedFrom 110 = .ok (.istore_n 3, 1) := by decide +kernel
theorem dX12_copiedFrom_111 : decode cX12_copiedFrom 111 = .ok (.iinc 4 1, 3) := by decide +kernel
theorem dX12_copiedFrom_114 : decode cX12_copiedFrom 114 = .ok (.goto (-92), 3) := by decide +kernel
theorem dX12_copiedFrom_117 : decode cX12_copiedFrom 117 = .ok (.iload_n 2, 1) := by decide +kernel
theorem dX12_copiedFrom_118 : decode cX12_copiedFrom 118 = .ok (.ireturn, 1) := by decide +kernel
def zX12_copiedFrom_22 (G : kz_G) (d : Nat) (Qr : Option Value → kz_M → Prop) (Qx : String → kz_M → Prop) (x0 : Nat) (x1 : Int32) (x2 : Int32) (x3 : Int32) (x4 : Int32)  (M : kz_M) : Prop := kz_Z G (d + 5) 0 0 mX12_copiedFrom Qr Qx 22 [(0, .ref x0), (1, .int x1), (2, .int x2), (3, .int x3), (4, .int x4)] [] M 0 0
def zX12_copiedFrom_57 (G : kz_G) (d : Nat) (Qr : Option Value → kz_M → Prop) (Qx : String → kz_M → Prop) (x0 : Nat) (x1 : Int32) (x2 : Int32) (x3 : Int32) (x4 : Int32) (x5 : Int32) (x6 : Int32)  (M : kz_M) : Prop := kz_Z G (d + 5) 0 0 mX12_copiedFrom Qr Qx 57 [(0, .ref x0), (1, .int x1), (2, .int x2), (3, .int x3), (4, .int x4), (5, .int x5), (6, .int x6)] [] M 0 0
theorem rX12_copiedFrom_0 {G : kz_G} {d : Nat} {Qr : Option Value → kz_M → Prop} {Qx : String → kz_M → Prop} {a0 : Nat} {p1 : Int32}  {M : kz_M} (h : ∃ fs1, (M).1 a0 = some (.inl (11, fs1)) ∧ 9 < fs1.length ∧ ((∃ fs5, ((kz_up M a0 (.inl (11, fs1.set 9 (.int 0))))).1 a0 = some (.inl (11, fs5))) ∧ kz_C G (d + 4) 0 0 mX12_noWork [.ref a0, .int p1] (kz_up M a0 (.inl (11, fs1.set 9 (.int 0)))) (fun v M2 => ∃ r3 : Int32, v = some (.int r3) ∧ ((r3 = 0 → zX12_copiedFrom_22 G d Qr Qx a0 p1 ((-1)) 0 0 M2) ∧ (¬ r3 = 0 → Qr (some (.int 0)) M2))) Qx)) : kz_C G (d + 5) 0 0 mX12_copiedFrom [.ref a0, .int p1] M Qr Qx := by
  refine kz_enter (n := 1) kmX12_copiedFrom.1 (Nat.le_of_ble_eq_true rfl) (ls := [(0, .ref a0), (1, .int p1)]) rfl ?_
  refine kz_aload_n (pc := 0) 0 (v := .ref a0) (i := 0) rfl rfl rfl dX12_copiedFrom_0 ?_
  refine kz_iconst (pc := 1) (v := 0) (by decide) dX12_copiedFrom_1 ?_
  obtain ⟨fs1, hM, hlen, h⟩ := h
  refine kz_putf (pc := 2) (k := 9) kcX12 hM (by decide) hlen kw_1387 rfl rfl rfl dX12_copiedFrom_2 ?_
  refine kz_aload_n (pc := 5) 0 (v := .ref a0) (i := 0) rfl rfl rfl dX12_copiedFrom_5 ?_
  refine kz_iload_n (pc := 6) 1 (i := 1) rfl rfl dX12_copiedFrom_6 ?_
  obtain ⟨⟨fs5, he⟩, h⟩ := h
  refine kz_callV (pc := 7) (μ' := mX12_noWork) (ci := 11) (q := (RX12, TX12, 32)) (b := a0) (d' := d + 4) (mc' := 0) (ms' := 0) (As := [.int p1]) (st := []) (c := 0) (sl := 0) kmX12_noWork kw_1713 (by omega) rfl (Nat.le_of_ble_eq_true rfl) he rfl rfl (Nat.le_refl _) (Nat.le_refl _) dX12_copiedFrom_7 (fun E M9 hx => kz_Tout rfl (Nat.le_refl _) (Nat.le_refl _) hx) (kz_Cmono (fun v M2 h => ?_) (fun _ _ h => h) h)
  obtain ⟨r3, rfl, h⟩ := h
  show kz_Z G (d + 5) 0 0 mX12_copiedFrom Qr Qx 10 [(0, .ref a0), (1, .int p1)] [.int r3] M2 0 0
  refine kz_if_eq (pc := 10) (tgt := 15) (by decide) dX12_copiedFrom_10 (fun hb => ?_) (fun hb => ?_)
  · replace h := h.1 hb
    refine kz_iconst (pc := 15) (v := (-1)) (by decide) dX12_copiedFrom_15 ?_
    refine kz_istore_n (pc := 16) (i := 2) (ls' := [(0, .ref a0), (1, .int p1)]) rfl (by decide) rfl dX12_copiedFrom_16 ?_
    refine kz_iconst (pc := 17) (v := 0) (by decide) dX12_copiedFrom_17 ?_
    refine kz_istore_n (pc := 18) (i := 3) (ls' := [(2, .int ((-1))), (0, .ref a0), (1, .int p1)]) rfl (by decide) rfl dX12_copiedFrom_18 ?_
    refine kz_iconst (pc := 19) (v := 0) (by decide) dX12_copiedFrom_19 ?_
    refine kz_istore (pc := 20) (i := 4) (ls' := [(3, .int 0), (2, .int ((-1))), (0, .ref a0), (1, .int p1)]) (by decide) rfl dX12_copiedFrom_20 ?_
    refine kz_sub [3, 4, 2, 1, 0] rfl ?_
    exact h
  · replace h := h.2 hb
    refine kz_iconst (pc := 13) (v := 0) (by decide) dX12_copiedFrom_13 ?_
    exact kz_iret (pc := 14) rfl (Nat.le_refl _) (Nat.le_refl _) dX12_copiedFrom_14 h
theorem rX12_copiedFrom_22 {G : kz_G} {d : Nat} {Qr : Option Value → kz_M → Prop} {Qx : String → kz_M → Prop} {x0 : Nat} {x1 : Int32} {x2 : Int32} {x3 : Int32} {x4 : Int32}  {M : kz_M} (h : ∃ fs1 v2, (M).1 x0 = some (.inl (11, fs1)) ∧ fs1[0]? = some (.ref v2) ∧ (∃ n3 f4, (M).1 v2 = some (.inr (.int, n3, .inl f4)) ∧ vp_in (1 : Int32) n3 ∧ (((f4 (1 : Int32).toNatClampNeg) ≤ x4 → Qr (some (.int x2)) M) ∧ (¬ (f4 (1 : Int32).toNatClampNeg) ≤ x4 → (∃ fs12, (M).1 x0 = some (.inl (11, fs12))) ∧ kz_C G (d + 4) 0 0 mX12_of [.ref x0, .int x1, .int 0] M (fun v M5 => ∃ r6 : Int32, v = some (.int r6) ∧ ((∃ fs11, (M5).1 x0 = some (.inl (11, fs11))) ∧ kz_C G (d + 4) 0 0 mX12_isBy [.ref x0, .int x4, .int r6] M5 (fun v M8 => ∃ r9 : Int32, v = some (.int r9) ∧ ((r9 = 0 → zX12_copiedFrom_57 G d Qr Qx x0 x1 x2 x3 x4 0 0 M8) ∧ (¬ r9 = 0 → zX12_copiedFrom_22 G d Qr Qx x0 x1 x2 x3 (x4 + 1) M8))) Qx)) Qx)))) : zX12_copiedFrom_22 G d Qr Qx x0 x1 x2 x3 x4  M := by
  show kz_Z G (d + 5) 0 0 mX12_copiedFrom Qr Qx 22 [(0, .ref x0), (1, .int x1), (2, .int x2), (3, .int x3), (4, .int x4)] [] M 0 0
  refine kz_iload (pc := 22) 4 (i := 4) rfl dX12_copiedFrom_22 ?_
  refine kz_aload_n (pc := 24) 0 (v := .ref x0) (i := 0) rfl rfl rfl dX12_copiedFrom_24 ?_
  obtain ⟨fs1, v2, hM, hv, h⟩ := h
  refine kz_getf (pc := 25) (k := 0) kcX12 hM hv (by decide) kw_1378 dX12_copiedFrom_25 ?_
  refine kz_iconst (pc := 28) (v := 1) (by decide) dX12_copiedFrom_28 ?_
  obtain ⟨n3, f4, hM, hi, h⟩ := h
  refine kz_iald (pc := 29) hM hi dX12_copiedFrom_29 ?_
  refine kz_icmp_ge (pc := 30) (tgt := 117) (by decide) dX12_copiedFrom_30 (fun hb => ?_) (fun hb => ?_)
  · replace h := h.1 hb
    refine kz_iload_n (pc := 117) 2 (i := 2) rfl rfl dX12_copiedFrom_117 ?_
    exact kz_iret (pc := 118) rfl (Nat.le_refl _) (Nat.le_refl _) dX12_copiedFrom_118 h
  · replace h := h.2 hb
    refine kz_aload_n (pc := 33) 0 (v := .ref x0) (i := 0) rfl rfl rfl dX12_copiedFrom_33 ?_
    refine kz_iload (pc := 34) 4 (i := 4) rfl dX12_copiedFrom_34 ?_
    refine kz_aload_n (pc := 36) 0 (v := .ref x0) (i := 0) rfl rfl rfl dX12_copiedFrom_36 ?_
    refine kz_iload_n (pc := 37) 1 (i := 1) rfl rfl dX12_copiedFrom_37 ?_
    refine kz_iconst (pc := 38) (v := 0) (by decide) dX12_copiedFrom_38 ?_
    obtain ⟨⟨fs12, he⟩, h⟩ := h
    refine kz_callV (pc := 39) (μ' := mX12_of) (ci := 11) (q := (RX12, TX12, 32)) (b := x0) (d' := d + 4) (mc' := 0) (ms' := 0) (As := [.int x1, .int 0]) (st := [.int x4, .ref x0]) (c := 0) (sl := 0) kmX12_of kw_1620 (by omega) rfl (Nat.le_of_ble_eq_true rfl) he rfl rfl (Nat.le_refl _) (Nat.le_refl _) dX12_copiedFrom_39 (fun E M9 hx => kz_Tout rfl (Nat.le_refl _) (Nat.le_refl _) hx) (kz_Cmono (fun v M5 h => ?_) (fun _ _ h => h) h)
    obtain ⟨r6, rfl, h⟩ := h
    show kz_Z G (d + 5) 0 0 mX12_copiedFrom Qr Qx 42 [(0, .ref x0), (1, .int x1), (2, .int x2), (3, .int x3), (4, .int x4)] [.int r6, .int x4, .ref x0] M5 0 0
    obtain ⟨⟨fs11, he⟩, h⟩ := h
    refine kz_callV (pc := 42) (μ' := mX12_isBy) (ci := 11) (q := (RX12, TX12, 32)) (b := x0) (d' := d + 4) (mc' := 0) (ms' := 0) (As := [.int x4, .int r6]) (st := []) (c := 0) (sl := 0) kmX12_isBy kw_1616 (by omega) rfl (Nat.le_of_ble_eq_true rfl) he rfl rfl (Nat.le_refl _) (Nat.le_refl _) dX12_copiedFrom_42 (fun E M9 hx => kz_Tout rfl (Nat.le_refl _) (Nat.le_refl _) hx) (kz_Cmono (fun v M8 h => ?_) (fun _ _ h => h) h)
    obtain ⟨r9, rfl, h⟩ := h
    show kz_Z G (d + 5) 0 0 mX12_copiedFrom Qr Qx 45 [(0, .ref x0), (1, .int x1), (2, .int x2), (3, .int x3), (4, .int x4)] [.int r9] M8 0 0
    refine kz_if_eq (pc := 45) (tgt := 51) (by decide) dX12_copiedFrom_45 (fun hb => ?_) (fun hb => ?_)
    · replace h := h.1 hb
      refine kz_iconst (pc := 51) (v := 0) (by decide) dX12_copiedFrom_51 ?_
      refine kz_istore (pc := 52) (i := 5) (ls' := [(0, .ref x0), (1, .int x1), (2, .int x2), (3, .int x3), (4, .int x4)]) (by decide) rfl dX12_copiedFrom_52 ?_
      refine kz_iconst (pc := 54) (v := 0) (by decide) dX12_copiedFrom_54 ?_
      refine kz_istore (pc := 55) (i := 6) (ls' := [(5, .int 0), (0, .ref x0), (1, .int x1), (2, .int x2), (3, .int x3), (4, .int x4)]) (by decide) rfl dX12_copiedFrom_55 ?_
      refine kz_sub [2, 3, 4, 5, 6, 1, 0] rfl ?_
      exact h
    · replace h := h.2 hb
      refine kz_goto (pc := 48) (tgt := 111) (by decide) dX12_copiedFrom_48 ?_
      refine kz_iinc (pc := 111) 4 (i := 4) (v := x4 + 1) (ls' := [(0, .ref x0), (1, .int x1), (2, .int x2), (3, .int x3)]) rfl (congrArg (fun z => x4 + z) (by decide)) (by decide) rfl dX12_copiedFrom_111 ?_
      refine kz_goto (pc := 114) (tgt := 22) (by decide) dX12_copiedFrom_114 ?_
      refine kz_sub [1, 2, 3, 4, 0] rfl ?_
      exact h
theorem rX12_copiedFrom_57 {G : kz_G} {d : Nat} {Qr : Option Value → kz_M → Prop} {Qx : String → kz_M → Prop} {x0 : Nat} {x1 : Int32} {x2 : Int32} {x3 : Int32} {x4 : Int32} {x5 : Int32} {x6 : Int32}  {M : kz_M} (h : (∃ fs8, (M).1 x0 = some (.inl (11, fs8))) ∧ kz_C G (d + 4) 0 0 mX12_of [.ref x0, .int x1, .int 4] M (fun v M1 => ∃ r2 : Int32, v = some (.int r2) ∧ ((r2 ≤ x6 → (x3 < x5 → zX12_copiedFrom_22 G d Qr Qx x0 x1 x4 x5 (x4 + 1) M1) ∧ (¬ x3 < x5 → zX12_copiedFrom_22 G d Qr Qx x0 x1 x2 x3 (x4 + 1) M1)) ∧ (¬ r2 ≤ x6 → (∃ fs7, (M1).1 x0 = some (.inl (11, fs7))) ∧ kz_C G (d + 4) 0 0 mX12_hasLike [.ref x0, .int x1, .int x6, .int x4] M1 (fun v M4 => ∃ r5 : Int32, v = some (.int r5) ∧ ((r5 = 0 → zX12_copiedFrom_57 G d Qr Qx x0 x1 x2 x3 x4 (x5 + 0) (x6 + 1) M4) ∧ (¬ r5 = 0 → zX12_copiedFrom_57 G d Qr Qx x0 x1 x2 x3 x4 (x5 + 1) (x6 + 1) M4))) Qx))) Qx) : zX12_copiedFrom_57 G d Qr Qx x0 x1 x2 x3 x4 x5 x6  M := by
  show kz_Z G (d + 5) 0 0 mX12_copiedFrom Qr Qx 57 [(0, .ref x0), (1, .int x1), (2, .int x2), (3, .int x3), (4, .int x4), (5, .int x5), (6, .int x6)] [] M 0 0
  refine kz_iload (pc := 57) 6 (i := 6) rfl dX12_copiedFrom_57 ?_
  refine kz_aload_n (pc := 59) 0 (v := .ref x0) (i := 0) rfl rfl rfl dX12_copiedFrom_59 ?_
  refine kz_iload_n (pc := 60) 1 (i := 1) rfl rfl dX12_copiedFrom_60 ?_
  refine kz_iconst (pc := 61) (v := 4) (by decide) dX12_copiedFrom_61 ?_
  obtain ⟨⟨fs8, he⟩, h⟩ := h
  refine kz_callV (pc := 62) (μ' := mX12_of) (ci := 11) (q := (RX12, TX12, 32)) (b := x0) (d' := d + 4) (mc' := 0) (ms' := 0) (As := [.int x1, .int 4]) (st := [.int x6]) (c := 0) (sl := 0) kmX12_of kw_1620 (by omega) rfl (Nat.le_of_ble_eq_true rfl) he rfl rfl (Nat.le_refl _) (Nat.le_refl _) dX12_copiedFrom_62 (fun E M9 hx => kz_Tout rfl (Nat.le_refl _) (Nat.le_refl _) hx) (kz_Cmono (fun v M1 h => ?_) (fun _ _ h => h) h)
  obtain ⟨r2, rfl, h⟩ := h
  show kz_Z G (d + 5) 0 0 mX12_copiedFrom Qr Qx 65 [(0, .ref x0), (1, .int x1), (2, .int x2), (3, .int x3), (4, .int x4), (5, .int x5), (6, .int x6)] [.int r2, .int x6] M1 0 0
  refine kz_icmp_ge (pc := 65) (tgt := 96) (by decide) dX12_copiedFrom_65 (fun hb => ?_) (fun hb => ?_)
  · replace h := h.1 hb
    refine kz_iload (pc := 96) 5 (i := 5) rfl dX12_copiedFrom_96 ?_
    refine kz_iload_n (pc := 98) 3 (i := 3) rfl rfl dX12_copiedFrom_98 ?_
    refine kz_icmp_gt (pc := 99) (tgt := 105) (by decide) dX12_copiedFrom_99 (fun hb => ?_) (fun hb => ?_)
    · replace h := h.1 hb
      refine kz_iload (pc := 105) 4 (i := 4) rfl dX12_copiedFrom_105 ?_
      refine kz_istore_n (pc := 107) (i := 2) (ls' := [(0, .ref x0), (1, .int x1), (3, .int x3), (4, .int x4), (5, .int x5), (6, .int x6)]) rfl (by decide) rfl dX12_copiedFrom_107 ?_
      refine kz_iload (pc := 108) 5 (i := 5) rfl dX12_copiedFrom_108 ?_
      refine kz_istore_n (pc := 110) (i := 3) (ls' := [(2, .int x4), (0, .ref x0), (1, .int x1), (4, .int x4), (5, .int x5), (6, .int x6)]) rfl (by decide) rfl dX12_copiedFrom_110 ?_
      refine kz_iinc (pc := 111) 4 (i := 4) (v := x4 + 1) (ls' := [(3, .int x5), (2, .int x4), (0, .ref x0), (1, .int x1), (5, .int x5), (6, .int x6)]) rfl (congrArg (fun z => x4 + z) (by decide)) (by decide) rfl dX12_copiedFrom_111 ?_
      refine kz_goto (pc := 114) (tgt := 22) (by decide) dX12_copiedFrom_114 ?_
      refine kz_sub [3, 4, 2, 1, 0] rfl ?_
      exact h
    · replace h := h.2 hb
      refine kz_goto (pc := 102) (tgt := 111) (by decide) dX12_copiedFrom_102 ?_
      refine kz_iinc (pc := 111) 4 (i := 4) (v := x4 + 1) (ls' := [(0, .ref x0), (1, .int x1), (2, .int x2), (3, .int x3), (5, .int x5), (6, .int x6)]) rfl (congrArg (fun z => x4 + z) (by decide)) (by decide) rfl dX12_copiedFrom_111 ?_
      refine kz_goto (pc := 114) (tgt := 22) (by decide) dX12_copiedFrom_114 ?_
      refine kz_sub [1, 2, 3, 4, 0] rfl ?_
      exact h
  · replace h := h.2 hb
    refine kz_iload (pc := 68) 5 (i := 5) rfl dX12_copiedFrom_68 ?_
    refine kz_aload_n (pc := 70) 0 (v := .ref x0) (i := 0) rfl rfl rfl dX12_copiedFrom_70 ?_
    refine kz_iload_n (pc := 71) 1 (i := 1) rfl rfl dX12_copiedFrom_71 ?_
    refine kz_iload (pc := 72) 6 (i := 6) rfl dX12_copiedFrom_72 ?_
    refine kz_iload (pc := 74) 4 (i := 4) rfl dX12_copiedFrom_74 ?_
    obtain ⟨⟨fs7, he⟩, h⟩ := h
    refine kz_callV (pc := 76) (μ' := mX12_hasLike) (ci := 11) (q := (RX12, TX12, 32)) (b := x0) (d' := d + 4) (mc' := 0) (ms' := 0) (As := [.int x1, .int x6, .int x4]) (st := [.int x5]) (c := 0) (sl := 0) kmX12_hasLike kw_1780 (by omega) rfl (Nat.le_of_ble_eq_true rfl) he rfl rfl (Nat.le_refl _) (Nat.le_refl _) dX12_copiedFrom_76 (fun E M9 hx => kz_Tout rfl (Nat.le_refl _) (Nat.le_refl _) hx) (kz_Cmono (fun v M4 h => ?_) (fun _ _ h => h) h)
    obtain ⟨r5, rfl, h⟩ := h
    show kz_Z G (d + 5) 0 0 mX12_copiedFrom Qr Qx 79 [(0, .ref x0), (1, .int x1), (2, .int x2), (3, .int x3), (4, .int x4), (5, .int x5), (6, .int x6)] [.int r5, .int x5] M4 0 0
    refine kz_if_eq (pc := 79) (tgt := 86) (by decide) dX12_copiedFrom_79 (fun hb => ?_) (fun hb => ?_)
    · replace h := h.1 hb
      refine kz_iconst (pc := 86) (v := 0) (by decide) dX12_copiedFrom_86 ?_
      refine kz_iadd (pc := 87) dX12_copiedFrom_87 ?_
      refine kz_istore (pc := 88) (i := 5) (ls' := [(0, .ref x0), (1, .int x1), (2, .int x2), (3, .int x3), (4, .int x4), (6, .int x6)]) (by decide) rfl dX12_copiedFrom_88 ?_
      refine kz_iinc (pc := 90) 6 (i := 6) (v := x6 + 1) (ls' := [(5, .int (x5 + 0)), (0, .ref x0), (1, .int x1), (2, .int x2), (3, .int x3), (4, .int x4)]) rfl (congrArg (fun z => x6 + z) (by decide)) (by decide) rfl dX12_copiedFrom_90 ?_
      refine kz_goto (pc := 93) (tgt := 57) (by decide) dX12_copiedFrom_93 ?_
      refine kz_sub [2, 3, 4, 5, 6, 1, 0] rfl ?_
      exact h
    · replace h := h.2 hb
      refine kz_iconst (pc := 82) (v := 1) (by decide) dX12_copiedFrom_82 ?_
      refine kz_goto (pc := 83) (tgt := 87) (by decide) dX12_copiedFrom_83 ?_
      refine kz_iadd (pc := 87) dX12_copiedFrom_87 ?_
      refine kz_istore (pc := 88) (i := 5) (ls' := [(0, .ref x0), (1, .int x1), (2, .int x2), (3, .int x3), (4, .int x4), (6, .int x6)]) (by decide) rfl dX12_copiedFrom_88 ?_
      refine kz_iinc (pc := 90) 6 (i := 6) (v := x6 + 1) (ls' := [(5, .int (x5 + 1)), (0, .ref x0), (1, .int x1), (2, .int x2), (3, .int x3), (4, .int x4)]) rfl (congrArg (fun z => x6 + z) (by decide)) (by decide) rfl dX12_copiedFrom_90 ?_
      refine kz_goto (pc := 93) (tgt := 57) (by decide) dX12_copiedFrom_93 ?_
      refine kz_sub [2, 3, 4, 5, 6, 1, 0] rfl ?_
      exact h
theorem dX12_entry_0 : decode cX12_entry 0 = .ok (.aload_n 0, 1) := by decide +kernel
theorem dX12_entry_1 : decode cX12_entry 1 = .ok (.iconst 0, 1) := by decide +kernel
theorem dX12_entry_2 : decode cX12_entry 2 = .ok (.putfield 60, 3) := by decide +kernel
theorem dX12_entry_5 : decode cX12_entry 5 = .ok (.aload_n 0, 1) := by decide +kernel
theorem dX12_entry_6 : decode cX12_entry 6 = .ok (.iload_n 1, 1) := by decide +kernel
theorem dX12_entry_7 : decode cX12_entry 7 = .ok (.iconst 0, 1) := by decide +kernel
theorem dX12_entry_8 : decode cX12_entry 8 = .ok (.aload_n 0, 1) := by decide +kernel
theorem dX12_entry_9 : decode cX12_entry 9 = .ok (.getfield 7, 3) := by decide +kernel
theorem dX12_entry_12 : decode cX12_entry 12 = .ok (.iconst 4, 1) := by decide +kernel
theorem dX12_entry_13 : decode cX12_entry 13 = .ok (.iaload, 1) := by decide +kernel
theorem dX12_entry_14 : decode cX12_entry 14 = .ok (.iconst 1, 1) := by decide +kernel
theorem dX12_entry_15 : decode cX12_entry 15 = .ok (.isub, 1) := by decide +kernel
theorem dX12_entry_16 : decode cX12_entry 16 = .ok (.invokestatic 67, 3) := by decide +kernel
theorem dX12_entry_19 : decode cX12_entry 19 = .ok (.ifCond .ne 7, 3) := by decide +kernel
theorem dX12_entry_22 : decode cX12_entry 22 = .ok (.iconst 1, 1) := by decide +kernel
theorem dX12_entry_23 : decode cX12_entry 23 = .ok (.goto 4, 3) := by decide +kernel
theorem dX12_entry_26 : decode cX12_entry 26 = .ok (.iconst 0, 1) := by decide +kernel
theorem dX12_entry_27 : decode cX12_entry 27 = .ok (.iconst 1, 1) := by decide +kernel
theorem dX12_entry_28 : decode cX12_entry 28 = .ok (.invokevirtual 310, 3) := by decide +kernel
theorem dX12_entry_31 : decode cX12_entry 31 = .ok (.ifCond .ne 25, 3) := by decide +kernel
theorem dX12_entry_34 : decode cX12_entry 34 = .ok (.aload_n 0, 1) := by decide +kernel
theorem dX12_entry_35 : decode cX12_entry 35 = .ok (.iload_n 2, 1) := by decide +kernel
theorem dX12_entry_36 : decode cX12_entry 36 = .ok (.iconst 0, 1) := by decide +kernel
theorem dX12_entry_37 : decode cX12_entry 37 = .ok (.iconst 3, 1) := by decide +kernel
theorem dX12_entry_38 : decode cX12_entry 38 = .ok (.invokestatic 67, 3) := by decide +kernel
theorem dX12_entry_41 : decode cX12_entry 41 = .ok (.ifCond .ne 7, 3) := by decide +kernel
theorem dX12_entry_44 : decode cX12_entry 44 = .ok (.iconst 1, 1) := by decide +kernel
theorem dX12_entry_45 : decode cX12_entry 45 = .ok (.goto 4, 3) := by decide +kernel
theorem dX12_entry_48 : decode cX12_entry 48 = .ok (.iconst 0, 1) := by decide +kernel
theorem dX12_entry_49 : decode cX12_entry 49 = .ok (.iconst 2, 1) := by decide +kernel
theorem dX12_entry_50 : decode cX12_entry 50 = .ok (.invokevirtual 310, 3) := by decide +kernel
theorem dX12_entry_53 : decode cX12_entry 53 = .ok (.ifCond .eq 5, 3) := by decide +kernel
theorem dX12_entry_56 : decode cX12_entry 56 = .ok (.iconst 0, 1) := by decide +kernel
theorem dX12_entry_57 : decode cX12_entry 57 = .ok (.ireturn, 1) := by decide +kernel
theorem dX12_entry_58 : decode cX12_entry 58 = .ok (.aload_n 0, 1) := by decide +kernel
theorem dX12_entry_59 : decode cX12_entry 59 = .ok (.getfield 7, 3) := by decide +kernel
theorem dX12_entry_62 : decode cX12_entry 62 = .ok (.sipush 3693, 3) := by decide +kernel
theorem dX12_entry_65 : decode cX12_entry 65 = .ok (.iconst 4, 1) := by decide +kernel
theorem dX12_entry_66 : decode cX12_entry 66 = .ok (.iload_n 1, 1) := by decide +kernel
theorem dX12_entry_67 : decode cX12_entry 67 = .ok (.imul, 1) := by decide +kernel
theorem dX12_entry_68 : decode cX12_entry 68 = .ok (.iadd, 1) := by decide +kernel
theorem dX12_entry_69 : decode cX12_entry 69 = .ok (.iload_n 2, 1) := by decide +kernel
theorem dX12_entry_70 : decode cX12_entry 70 = .ok (.iadd, 1) := by decide +kernel
theorem dX12_entry_71 : decode cX12_entry 71 = .ok (.iaload, 1) := by decide +kernel
theorem dX12_entry_72 : decode cX12_entry 72 = .ok (.ireturn, 1) := by decide +kernel
theorem rX12_entry_0 {G : kz_G} {d : Nat} {Qr : Option Value → kz_M → Prop} {Qx : String → kz_M → Prop} {a0 : Nat} {p1 : Int32} {p2 : Int32}  {M : kz_M} (h : ∃ fs1, (M).1 a0 = some (.inl (11, fs1)) ∧ 9 < fs1.length ∧ (∃ fs2 v3, ((kz_up M a0 (.inl (11, fs1.set 9 (.int 0))))).1 a0 = some (.inl (11, fs2)) ∧ fs2[0]? = some (.ref v3) ∧ (∃ n4 f5, ((kz_up M a0 (.inl (11, fs1.set 9 (.int 0))))).1 v3 = some (.inr (.int, n4, .inl f5)) ∧ vp_in (4 : Int32) n4 ∧ (kz_C G (d + 0) 0 0 mX12_inRange [.int p1, .int 0, .int ((f5 (4 : Int32).toNatClampNeg) - 1)] (kz_up M a0 (.inl (11, fs1.set 9 (.int 0)))) (fun v M6 => ∃ r7 : Int32, v = some (.int r7) ∧ ((¬ r7 = 0 → (∃ fs32, (M6).1 a0 = some (.inl (11, fs32))) ∧ kz_C G (d + 0) 0 0 mX12_fails [.ref a0, .int 0, .int 1] M6 (fun v M9 => ∃ r10 : Int32, v = some (.int r10) ∧ ((¬ r10 = 0 → Qr (some (.int 0)) M9) ∧ (r10 = 0 → kz_C G (d + 0) 0 0 mX12_inRange [.int p2, .int 0, .int 3] M9 (fun v M12 => ∃ r13 : Int32, v = some (.int r13) ∧ ((¬ r13 = 0 → (∃ fs22, (M12).1 a0 = some (.inl (11, fs22))) ∧ kz_C G (d + 0) 0 0 mX12_fails [.ref a0, .int 0, .int 2] M12 (fun v M15 => ∃ r16 : Int32, v = some (.int r16) ∧ ((r16 = 0 → ∃ fs18 v19, (M15).1 a0 = some (.inl (11, fs18)) ∧ fs18[0]? = some (.ref v19) ∧ (∃ n20 f21, (M15).1 v19 = some (.inr (.int, n20, .inl f21)) ∧ vp_in ((3693 + (4 * p1)) + p2) n20 ∧ (Qr (some (.int (f21 ((3693 + (4 * p1)) + p2).toNatClampNeg))) M15))) ∧ (¬ r16 = 0 → Qr (some (.int 0)) M15))) Qx) ∧ (r13 = 0 → (∃ fs30, (M12).1 a0 = some (.inl (11, fs30))) ∧ kz_C G (d + 0) 0 0 mX12_fails [.ref a0, .int 1, .int 2] M12 (fun v M23 => ∃ r24 : Int32, v = some (.int r24) ∧ ((r24 = 0 → ∃ fs26 v27, (M23).1 a0 = some (.inl (11, fs26)) ∧ fs26[0]? = some (.ref v27) ∧ (∃ n28 f29, (M23).1 v27 = some (.inr (.int, n28, .inl f29)) ∧ vp_in ((3693 + (4 * p1)) + p2) n28 ∧ (Qr (some (.int (f29 ((3693 + (4 * p1)) + p2).toNatClampNeg))) M23))) ∧ (¬ r24 = 0 → Qr (some (.int 0)) M23))) Qx))) Qx))) Qx) ∧ (r7 = 0 → (∃ fs56, (M6).1 a0 = some (.inl (11, fs56))) ∧ kz_C G (d + 0) 0 0 mX12_fails [.ref a0, .int 1, .int 1] M6 (fun v M33 => ∃ r34 : Int32, v = some (.int r34) ∧ ((¬ r34 = 0 → Qr (some (.int 0)) M33) ∧ (r34 = 0 → kz_C G (d + 0) 0 0 mX12_inRange [.int p2, .int 0, .int 3] M33 (fun v M36 => ∃ r37 : Int32, v = some (.int r37) ∧ ((¬ r37 = 0 → (∃ fs46, (M36).1 a0 = some (.inl (11, fs46))) ∧ kz_C G (d + 0) 0 0 mX12_fails [.ref a0, .int 0, .int 2] M36 (fun v M39 => ∃ r40 : Int32, v = some (.int r40) ∧ ((r40 = 0 → ∃ fs42 v43, (M39).1 a0 = some (.inl (11, fs42)) ∧ fs42[0]? = some (.ref v43) ∧ (∃ n44 f45, (M39).1 v43 = some (.inr (.int, n44, .inl f45)) ∧ vp_in ((3693 + (4 * p1)) + p2) n44 ∧ (Qr (some (.int (f45 ((3693 + (4 * p1)) + p2).toNatClampNeg))) M39))) ∧ (¬ r40 = 0 → Qr (some (.int 0)) M39))) Qx) ∧ (r37 = 0 → (∃ fs54, (M36).1 a0 = some (.inl (11, fs54))) ∧ kz_C G (d + 0) 0 0 mX12_fails [.ref a0, .int 1, .int 2] M36 (fun v M47 => ∃ r48 : Int32, v = some (.int r48) ∧ ((r48 = 0 → ∃ fs50 v51, (M47).1 a0 = some (.inl (11, fs50)) ∧ fs50[0]? = some (.ref v51) ∧ (∃ n52 f53, (M47).1 v51 = some (.inr (.int, n52, .inl f53)) ∧ vp_in ((3693 + (4 * p1)) + p2) n52 ∧ (Qr (some (.int (f53 ((3693 + (4 * p1)) + p2).toNatClampNeg))) M47))) ∧ (¬ r48 = 0 → Qr (some (.int 0)) M47))) Qx))) Qx))) Qx))) Qx)))) : kz_C G (d + 1) 0 0 mX12_entry [.ref a0, .int p1, .int p2] M Qr Qx := by
  refine kz_enter (n := 2) kmX12_entry.1 (Nat.le_of_ble_eq_true rfl) (ls := [(0, .ref a0), (1, .int p1), (2, .int p2)]) rfl ?_
  refine kz_aload_n (pc := 0) 0 (v := .ref a0) (i := 0) rfl rfl rfl dX12_entry_0 ?_
  refine kz_iconst (pc := 1) (v := 0) (by decide) dX12_entry_1 ?_
  obtain ⟨fs1, hM, hlen, h⟩ := h
  refine kz_putf (pc := 2) (k := 9) kcX12 hM (by decide) hlen kw_1387 rfl rfl rfl dX12_entry_2 ?_
  refine kz_aload_n (pc := 5) 0 (v := .ref a0) (i := 0) rfl rfl rfl dX12_entry_5 ?_
  refine kz_iload_n (pc := 6) 1 (i := 1) rfl rfl dX12_entry_6 ?_
  refine kz_iconst (pc := 7) (v := 0) (by decide) dX12_entry_7 ?_
  refine kz_aload_n (pc := 8) 0 (v := .ref a0) (i := 0) rfl rfl rfl dX12_entry_8 ?_
  obtain ⟨fs2, v3, hM, hv, h⟩ := h
  refine kz_getf (pc := 9) (k := 0) kcX12 hM hv (by decide) kw_1378 dX12_entry_9 ?_
  refine kz_iconst (pc := 12) (v := 4) (by decide) dX12_entry_12 ?_
  obtain ⟨n4, f5, hM, hi, h⟩ := h
  refine kz_iald (pc := 13) hM hi dX12_entry_13 ?_
  refine kz_iconst (pc := 14) (v := 1) (by decide) dX12_entry_14 ?_
  refine kz_isub (pc := 15) dX12_entry_15 ?_
  refine kz_callS (pc := 16) (μ' := mX12_inRange) (d' := d + 0) (mc' := 0) (ms' := 0) (As := [.int p1, .int 0, .int ((f5 (4 : Int32).toNatClampNeg) - 1)]) (st := [.ref a0]) (c := 0) (sl := 0) kmX12_inRange kw_1491 (by omega) rfl (Nat.le_of_ble_eq_true rfl) (Nat.le_refl _) (Nat.le_refl _) dX12_entry_16 (fun E M9 hx => kz_Tout rfl (Nat.le_refl _) (Nat.le_refl _) hx) (kz_Cmono (fun v M6 h => ?_) (fun _ _ h => h) h)
  obtain ⟨r7, rfl, h⟩ := h
  show kz_Z G (d + 1) 0 0 mX12_entry Qr Qx 19 [(0, .ref a0), (1, .int p1), (2, .int p2)] [.int r7, .ref a0] M6 0 0
  refine kz_if_ne (pc := 19) (tgt := 26) (by decide) dX12_entry_19 (fun hb => ?_) (fun hb => ?_)
  · replace h := h.1 hb
    refine kz_iconst (pc := 26) (v := 0) (by decide) dX12_entry_26 ?_
    refine kz_iconst (pc := 27) (v := 1) (by decide) dX12_entry_27 ?_
    obtain ⟨⟨fs32, he⟩, h⟩ := h
    refine kz_callV (pc := 28) (μ' := mX12_fails) (ci := 11) (q := (RX12, TX12, 32)) (b := a0) (d' := d + 0) (mc' := 0) (ms' := 0) (As := [.int 0, .int 1]) (st := []) (c := 0) (sl := 0) kmX12_fails kw_1653 (by omega) rfl (Nat.le_of_ble_eq_true rfl) he rfl rfl (Nat.le_refl _) (Nat.le_refl _) dX12_entry_28 (fun E M9 hx => kz_Tout rfl (Nat.le_refl _) (Nat.le_refl _) hx) (kz_Cmono (fun v M9 h => ?_) (fun _ _ h => h) h)
    obtain ⟨r10, rfl, h⟩ := h
    show kz_Z G (d + 1) 0 0 mX12_entry Qr Qx 31 [(0, .ref a0), (1, .int p1), (2, .int p2)] [.int r10] M9 0 0
    refine kz_if_ne (pc := 31) (tgt := 56) (by decide) dX12_entry_31 (fun hb => ?_) (fun hb => ?_)
    · replace h := h.1 hb
      refine kz_iconst (pc := 56) (v := 0) (by decide) dX12_entry_56 ?_
      exact kz_iret (pc := 57) rfl (Nat.le_refl _) (Nat.le_refl _) dX12_entry_57 h
    · replace h := h.2 hb
      refine kz_aload_n (pc := 34) 0 (v := .ref a0) (i := 0) rfl rfl rfl dX12_entry_34 ?_
      refine kz_iload_n (pc := 35) 2 (i := 2) rfl rfl dX12_entry_35 ?_
      refine kz_iconst (pc := 36) (v := 0) (by decide) dX12_entry_36 ?_
      refine kz_iconst (pc := 37) (v := 3) (by decide) dX12_entry_37 ?_
      refine kz_callS (pc := 38) (μ' := mX12_inRange) (d' := d + 0) (mc' := 0) (ms' := 0) (As := [.int p2, .int 0, .int 3]) (st := [.ref a0]) (c := 0) (sl := 0) kmX12_inRange kw_1491 (by omega) rfl (Nat.le_of_ble_eq_true rfl) (Nat.le_refl _) (Nat.le_refl _) dX12_entry_38 (fun E M9 hx => kz_Tout rfl (Nat.le_refl _) (Nat.le_refl _) hx) (kz_Cmono (fun v M12 h => ?_) (fun _ _ h => h) h)
      obtain ⟨r13, rfl, h⟩ := h
      show kz_Z G (d + 1) 0 0 mX12_entry Qr Qx 41 [(0, .ref a0), (1, .int p1), (2, .int p2)] [.int r13, .ref a0] M12 0 0
      refine kz_if_ne (pc := 41) (tgt := 48) (by decide) dX12_entry_41 (fun hb => ?_) (fun hb => ?_)
      · replace h := h.1 hb
        refine kz_iconst (pc := 48) (v := 0) (by decide) dX12_entry_48 ?_
        refine kz_iconst (pc := 49) (v := 2) (by decide) dX12_entry_49 ?_
        obtain ⟨⟨fs22, he⟩, h⟩ := h
        refine kz_callV (pc := 50) (μ' := mX12_fails) (ci := 11) (q := (RX12, TX12, 32)) (b := a0) (d' := d + 0) (mc' := 0) (ms' := 0) (As := [.int 0, .int 2]) (st := []) (c := 0) (sl := 0) kmX12_fails kw_1653 (by omega) rfl (Nat.le_of_ble_eq_true rfl) he rfl rfl (Nat.le_refl _) (Nat.le_refl _) dX12_entry_50 (fun E M9 hx => kz_Tout rfl (Nat.le_refl _) (Nat.le_refl _) hx) (kz_Cmono (fun v M15 h => ?_) (fun _ _ h => h) h)
        obtain ⟨r16, rfl, h⟩ := h
        show kz_Z G (d + 1) 0 0 mX12_entry Qr Qx 53 [(0, .ref a0), (1, .int p1), (2, .int p2)] [.int r16] M15 0 0
        refine kz_if_eq (pc := 53) (tgt := 58) (by decide) dX12_entry_53 (fun hb => ?_) (fun hb => ?_)
        · replace h := h.1 hb
          refine kz_aload_n (pc := 58) 0 (v := .ref a0) (i := 0) rfl rfl rfl dX12_entry_58 ?_
          obtain ⟨fs18, v19, hM, hv, h⟩ := h
          refine kz_getf (pc := 59) (k := 0) kcX12 hM hv (by decide) kw_1378 dX12_entry_59 ?_
          refine kz_sipush (pc := 62) (v := 3693) (by decide) dX12_entry_62 ?_
          refine kz_iconst (pc := 65) (v := 4) (by decide) dX12_entry_65 ?_
          refine kz_iload_n (pc := 66) 1 (i := 1) rfl rfl dX12_entry_66 ?_
          refine kz_imul (pc := 67) dX12_entry_67 ?_
          refine kz_iadd (pc := 68) dX12_entry_68 ?_
          refine kz_iload_n (pc := 69) 2 (i := 2) rfl rfl dX12_entry_69 ?_
          refine kz_iadd (pc := 70) dX12_entry_70 ?_
          obtain ⟨n20, f21, hM, hi, h⟩ := h
          refine kz_iald (pc := 71) hM hi dX12_entry_71 ?_
          exact kz_iret (pc := 72) rfl (Nat.le_refl _) (Nat.le_refl _) dX12_entry_72 h
        · replace h := h.2 hb
          refine kz_iconst (pc := 56) (v := 0) (by decide) dX12_entry_56 ?_
          exact kz_iret (pc := 57) rfl (Nat.le_refl _) (Nat.le_refl _) dX12_entry_57 h
      · replace h := h.2 hb
        refine kz_iconst (pc := 44) (v := 1) (by decide) dX12_entry_44 ?_
        refine kz_goto (pc := 45) (tgt := 49) (by decide) dX12_entry_45 ?_
        refine kz_iconst (pc := 49) (v := 2) (by decide) dX12_entry_49 ?_
        obtain ⟨⟨fs30, he⟩, h⟩ := h
        refine kz_callV (pc := 50) (μ' := mX12_fails) (ci := 11) (q := (RX12, TX12, 32)) (b := a0) (d' := d + 0) (mc' := 0) (ms' := 0) (As := [.int 1, .int 2]) (st := []) (c := 0) (sl := 0) kmX12_fails kw_1653 (by omega) rfl (Nat.le_of_ble_eq_true rfl) he rfl rfl (Nat.le_refl _) (Nat.le_refl _) dX12_entry_50 (fun E M9 hx => kz_Tout rfl (Nat.le_refl _) (Nat.le_refl _) hx) (kz_Cmono (fun v M23 h => ?_) (fun _ _ h => h) h)
        obtain ⟨r24, rfl, h⟩ := h
        show kz_Z G (d + 1) 0 0 mX12_entry Qr Qx 53 [(0, .ref a0), (1, .int p1), (2, .int p2)] [.int r24] M23 0 0
        refine kz_if_eq (pc := 53) (tgt := 58) (by decide) dX12_entry_53 (fun hb => ?_) (fun hb => ?_)
        · replace h := h.1 hb
          refine kz_aload_n (pc := 58) 0 (v := .ref a0) (i := 0) rfl rfl rfl dX12_entry_58 ?_
          obtain ⟨fs26, v27, hM, hv, h⟩ := h
          refine kz_getf (pc := 59) (k := 0) kcX12 hM hv (by decide) kw_1378 dX12_entry_59 ?_
          refine kz_sipush (pc := 62) (v := 3693) (by decide) dX12_entry_62 ?_
          refine kz_iconst (pc := 65) (v := 4) (by decide) dX12_entry_65 ?_
          refine kz_iload_n (pc := 66) 1 (i := 1) rfl rfl dX12_entry_66 ?_
          refine kz_imul (pc := 67) dX12_entry_67 ?_
          refine kz_iadd (pc := 68) dX12_entry_68 ?_
          refine kz_iload_n (pc := 69) 2 (i := 2) rfl rfl dX12_entry_69 ?_
          refine kz_iadd (pc := 70) dX12_entry_70 ?_
          obtain ⟨n28, f29, hM, hi, h⟩ := h
          refine kz_iald (pc := 71) hM hi dX12_entry_71 ?_
          exact kz_iret (pc := 72) rfl (Nat.le_refl _) (Nat.le_refl _) dX12_entry_72 h
        · replace h := h.2 hb
          refine kz_iconst (pc := 56) (v := 0) (by decide) dX12_entry_56 ?_
          exact kz_iret (pc := 57) rfl (Nat.le_refl _) (Nat.le_refl _) dX12_entry_57 h
  · replace h := h.2 hb
    refine kz_iconst (pc := 22) (v := 1) (by decide) dX12_entry_22 ?_
    refine kz_goto (pc := 23) (tgt := 27) (by decide) dX12_entry_23 ?_
    refine kz_iconst (pc := 27) (v := 1) (by decide) dX12_entry_27 ?_
    obtain ⟨⟨fs56, he⟩, h⟩ := h
    refine kz_callV (pc := 28) (μ' := mX12_fails) (ci := 11) (q := (RX12, TX12, 32)) (b := a0) (d' := d + 0) (mc' := 0) (ms' := 0) (As := [.int 1, .int 1]) (st := []) (c := 0) (sl := 0) kmX12_fails kw_1653 (by omega) rfl (Nat.le_of_ble_eq_true rfl) he rfl rfl (Nat.le_refl _) (Nat.le_refl _) dX12_entry_28 (fun E M9 hx => kz_Tout rfl (Nat.le_refl _) (Nat.le_refl _) hx) (kz_Cmono (fun v M33 h => ?_) (fun _ _ h => h) h)
    obtain ⟨r34, rfl, h⟩ := h
    show kz_Z G (d + 1) 0 0 mX12_entry Qr Qx 31 [(0, .ref a0), (1, .int p1), (2, .int p2)] [.int r34] M33 0 0
    refine kz_if_ne (pc := 31) (tgt := 56) (by decide) dX12_entry_31 (fun hb => ?_) (fun hb => ?_)
    · replace h := h.1 hb
      refine kz_iconst (pc := 56) (v := 0) (by decide) dX12_entry_56 ?_
      exact kz_iret (pc := 57) rfl (Nat.le_refl _) (Nat.le_refl _) dX12_entry_57 h
    · replace h := h.2 hb
      refine kz_aload_n (pc := 34) 0 (v := .ref a0) (i := 0) rfl rfl rfl dX12_entry_34 ?_
      refine kz_iload_n (pc := 35) 2 (i := 2) rfl rfl dX12_entry_35 ?_
      refine kz_iconst (pc := 36) (v := 0) (by decide) dX12_entry_36 ?_
      refine kz_iconst (pc := 37) (v := 3) (by decide) dX12_entry_37 ?_
      refine kz_callS (pc := 38) (μ' := mX12_inRange) (d' := d + 0) (mc' := 0) (ms' := 0) (As := [.int p2, .int 0, .int 3]) (st := [.ref a0]) (c := 0) (sl := 0) kmX12_inRange kw_1491 (by omega) rfl (Nat.le_of_ble_eq_true rfl) (Nat.le_refl _) (Nat.le_refl _) dX12_entry_38 (fun E M9 hx => kz_Tout rfl (Nat.le_refl _) (Nat.le_refl _) hx) (kz_Cmono (fun v M36 h => ?_) (fun _ _ h => h) h)
      obtain ⟨r37, rfl, h⟩ := h
      show kz_Z G (d + 1) 0 0 mX12_entry Qr Qx 41 [(0, .ref a0), (1, .int p1), (2, .int p2)] [.int r37, .ref a0] M36 0 0
      refine kz_if_ne (pc := 41) (tgt := 48) (by decide) dX12_entry_41 (fun hb => ?_) (fun hb => ?_)
      · replace h := h.1 hb
        refine kz_iconst (pc := 48) (v := 0) (by decide) dX12_entry_48 ?_
        refine kz_iconst (pc := 49) (v := 2) (by decide) dX12_entry_49 ?_
        obtain ⟨⟨fs46, he⟩, h⟩ := h
        refine kz_callV (pc := 50) (μ' := mX12_fails) (ci := 11) (q := (RX12, TX12, 32)) (b := a0) (d' := d + 0) (mc' := 0) (ms' := 0) (As := [.int 0, .int 2]) (st := []) (c := 0) (sl := 0) kmX12_fails kw_1653 (by omega) rfl (Nat.le_of_ble_eq_true rfl) he rfl rfl (Nat.le_refl _) (Nat.le_refl _) dX12_entry_50 (fun E M9 hx => kz_Tout rfl (Nat.le_refl _) (Nat.le_refl _) hx) (kz_Cmono (fun v M39 h => ?_) (fun _ _ h => h) h)
        obtain ⟨r40, rfl, h⟩ := h
        show kz_Z G (d + 1) 0 0 mX12_entry Qr Qx 53 [(0, .ref a0), (1, .int p1), (2, .int p2)] [.int r40] M39 0 0
        refine kz_if_eq (pc := 53) (tgt := 58) (by decide) dX12_entry_53 (fun hb => ?_) (fun hb => ?_)
        · replace h := h.1 hb
          refine kz_aload_n (pc := 58) 0 (v := .ref a0) (i := 0) rfl rfl rfl dX12_entry_58 ?_
          obtain ⟨fs42, v43, hM, hv, h⟩ := h
          refine kz_getf (pc := 59) (k := 0) kcX12 hM hv (by decide) kw_1378 dX12_entry_59 ?_
          refine kz_sipush (pc := 62) (v := 3693) (by decide) dX12_entry_62 ?_
          refine kz_iconst (pc := 65) (v := 4) (by decide) dX12_entry_65 ?_
          refine kz_iload_n (pc := 66) 1 (i := 1) rfl rfl dX12_entry_66 ?_
          refine kz_imul (pc := 67) dX12_entry_67 ?_
          refine kz_iadd (pc := 68) dX12_entry_68 ?_
          refine kz_iload_n (pc := 69) 2 (i := 2) rfl rfl dX12_entry_69 ?_
          refine kz_iadd (pc := 70) dX12_entry_70 ?_
          obtain ⟨n44, f45, hM, hi, h⟩ := h
          refine kz_iald (pc := 71) hM hi dX12_entry_71 ?_
          exact kz_iret (pc := 72) rfl (Nat.le_refl _) (Nat.le_refl _) dX12_entry_72 h
        · replace h := h.2 hb
          refine kz_iconst (pc := 56) (v := 0) (by decide) dX12_entry_56 ?_
          exact kz_iret (pc := 57) rfl (Nat.le_refl _) (Nat.le_refl _) dX12_entry_57 h
      · replace h := h.2 hb
        refine kz_iconst (pc := 44) (v := 1) (by decide) dX12_entry_44 ?_
        refine kz_goto (pc := 45) (tgt := 49) (by decide) dX12_entry_45 ?_
        refine kz_iconst (pc := 49) (v := 2) (by decide) dX12_entry_49 ?_
        obtain ⟨⟨fs54, he⟩, h⟩ := h
        refine kz_callV (pc := 50) (μ' := mX12_fails) (ci := 11) (q := (RX12, TX12, 32)) (b := a0) (d' := d + 0) (mc' := 0) (ms' := 0) (As := [.int 1, .int 2]) (st := []) (c := 0) (sl := 0) kmX12_fails kw_1653 (by omega) rfl (Nat.le_of_ble_eq_true rfl) he rfl rfl (Nat.le_refl _) (Nat.le_refl _) dX12_entry_50 (fun E M9 hx => kz_Tout rfl (Nat.le_refl _) (Nat.le_refl _) hx) (kz_Cmono (fun v M47 h => ?_) (fun _ _ h => h) h)
        obtain ⟨r48, rfl, h⟩ := h
        show kz_Z G (d + 1) 0 0 mX12_entry Qr Qx 53 [(0, .ref a0), (1, .int p1), (2, .int p2)] [.int r48] M47 0 0
        refine kz_if_eq (pc := 53) (tgt := 58) (by decide) dX12_entry_53 (fun hb => ?_) (fun hb => ?_)
        · replace h := h.1 hb
          refine kz_aload_n (pc := 58) 0 (v := .ref a0) (i := 0) rfl rfl rfl dX12_entry_58 ?_
          obtain ⟨fs50, v51, hM, hv, h⟩ := h
          refine kz_getf (pc := 59) (k := 0) kcX12 hM hv (by decide) kw_1378 dX12_entry_59 ?_
          refine kz_sipush (pc := 62) (v := 3693) (by decide) dX12_entry_62 ?_
          refine kz_iconst (pc := 65) (v := 4) (by decide) dX12_entry_65 ?_
          refine kz_iload_n (pc := 66) 1 (i := 1) rfl rfl dX12_entry_66 ?_
          refine kz_imul (pc := 67) dX12_entry_67 ?_
          refine kz_iadd (pc := 68) dX12_entry_68 ?_
          refine kz_iload_n (pc := 69) 2 (i := 2) rfl rfl dX12_entry_69 ?_
          refine kz_iadd (pc := 70) dX12_entry_70 ?_
          obtain ⟨n52, f53, hM, hi, h⟩ := h
          refine kz_iald (pc := 71) hM hi dX12_entry_71 ?_
          exact kz_iret (pc := 72) rfl (Nat.le_refl _) (Nat.le_refl _) dX12_entry_72 h
        · replace h := h.2 hb
          refine kz_iconst (pc := 56) (v := 0) (by decide) dX12_entry_56 ?_
          exact kz_iret (pc := 57) rfl (Nat.le_refl _) (Nat.le_refl _) dX12_entry_57 h
theorem dX12_booked_0 : decode cX12_booked 0 = .ok (.aload_n 0, 1) := by decide +kernel
theorem dX12_booked_1 : decode cX12_booked 1 = .ok (.iconst 0, 1) := by decide +kernel
theorem dX12_booked_2 : decode cX12_booked 2 = .ok (.putfield 60, 3) := by decide +kernel
theorem dX12_booked_5 : decode cX12_booked 5 = .ok (.aload_n 0, 1) := by decide +kernel
theorem dX12_booked_6 : decode cX12_booked 6 = .ok (.iload_n 1, 1) := by decide +kernel
theorem dX12_booked_7 : decode cX12_booked 7 = .ok (.invokevirtual 340, 3) := by decide +kernel
theorem dX12_booked_10 : decode cX12_booked 10 = .ok (.ifCond .eq 5, 3) := by decide +kernel
theorem dX12_booked_13 : decode cX12_booked 13 = .ok (.iconst 0, 1) := by decide +kernel
theorem dX12_booked_14 : decode cX12_booked 14 = .ok (.ireturn, 1) := by decide +kernel
theorem dX12_booked_15 : decode cX12_booked 15 = .ok (.iconst 0, 1) := by decide +kernel
theorem dX12_booked_16 : decode cX12_booked 16 = .ok (.istore 4, 2) := by decide +kernel
theorem dX12_booked_18 : decode cX12_booked 18 = .ok (.sipush 3693, 3) := by decide +kernel
theorem dX12_booked_21 : decode cX12_booked 21 = .ok (.istore 5, 2) := by decide +kernel
theorem dX12_booked_23 : decode cX12_booked 23 = .ok (.iload 5, 2) := by decide +kernel
theorem dX12_booked_25 : decode cX12_booked 25 = .ok (.sipush 3693, 3) := by decide +kernel
theorem dX12_booked_28 : decode cX12_booked 28 = .ok (.iconst 4, 1) := by decide +kernel
theorem dX12_booked_29 : decode cX12_booked 29 = .ok (.aload_n 0, 1) := by decide +kernel
theorem dX12_booked_30 : decode cX12_booked 30 = .ok (.getfield 7, 3) := by decide +kernel
theorem dX12_booked_33 : decode cX12_booked 33 = .ok (.iconst 4, 1) := by decide +kernel
theorem dX12_booked_34 : decode cX12_booked 34 = .ok (.iaload, 1) := by decide +kernel
theorem dX12_booked_35 : decode cX12_booked 35 = .ok (.imul, 1) := by decide +kernel
theorem dX12_booked_36 : decode cX12_booked 36 = .ok (.iadd, 1) := by decide +kernel
theorem dX12_booked_37 : decode cX12_booked 37 = .ok (.if_icmp .ge 55, 3) := by decide +kernel
theorem dX12_booked_40 : decode cX12_booked 40 = .ok (.iload 4, 2) := by decide +kernel
theorem dX12_booked_42 : decode cX12_booked 42 = .ok (.aload_n 0, 1) := by decide +kernel
theorem dX12_booked_43 : decode cX12_booked 43 = .ok (.getfield 7, 3) := by decide +kernel
theorem dX12_booked_46 : decode cX12_booked 46 = .ok (.iload 5, 2) := by decide +kernel
theorem dX12_booked_48 : decode cX12_booked 48 = .ok (.iconst 1, 1) := by decide +kernel
theorem dX12_booked_49 : decode cX12_booked 49 = .ok (.iadd, 1) := by decide +kernel
theorem dX12_booked_50 : decode cX12_booked 50 = .ok (.iaload, 1) := by decide +kernel
theorem dX12_booked_51 : decode cX12_booked 51 = .ok (.iload_n 1, 1) := by decide +kernel
theorem dX12_booked_52 : decode cX12_booked 52 = .ok (.if_icmp .ne 30, 3) := by decide +kernel
theorem dX12_booked_55 : decode cX12_booked 55 = .ok (.aload_n 0, 1) := by decide +kernel
theorem dX12_booked_56 : decode cX12_booked 56 = .ok (.getfield 7, 3) := by decide +kernel
theorem dX12_booked_59 : decode cX12_booked 59 = .ok (.iload 5, 2) := by decide +kernel
theorem dX12_booked_61 : decode cX12_booked 61 = .ok (.iaload, 1) := by decide +kernel
theorem dX12_booked_62 : decode cX12_booked 62 = .ok (.iload_n 2, 1) := by decide +kernel
theorem dX12_booked_63 : decode cX12_booked 63 = .ok (.iload_n 3, 1) := by decide +kernel
theorem dX12_booked_64 : decode cX12_booked 64 = .ok (.invokestatic 67, 3) := by decide +kernel
theorem dX12_booked_67 : decode cX12_booked 67 = .ok (.ifCond .eq 15, 3) := by decide +kernel
theorem dX12_booked_70 : decode cX12_booked 70 = .ok (.aload_n 0, 1) := by decide +kernel
theorem dX12_booked_71 : decode cX12_booked 71 = .ok (.getfield 7, 3) := by decide +kernel
theorem dX12_booked_74 : decode cX12_booked 74 = .ok (.iload 5, 2) := by decide +kernel
theorem dX12_booked_76 : decode cX12_booked 76 = .ok (.iconst 3, 1) := by decide +kernel
theorem dX12_booked_77 : decode cX12_booked 77 = .ok (.iadd, 1) := by decide +kernel
theorem dX12_booked_78 : decode cX12_booked 78 = .ok (.iaload, 1) := by decide +kernel
theorem dX12_booked_79 : decode cX12_booked 79 = .ok (.goto 4, 3) := by decide +kernel
theorem dX12_booked_82 : decode cX12_booked 82 = .ok (.iconst 0, 1) := by decide +kernel
theorem dX12_booked_83 : decode cX12_booked 83 = .ok (.iadd, 1) := by decide +kernel
theorem dX12_booked_84 : decode cX12_booked 84 = .ok (.istore 4, 2) := by decide +kernel
theorem dX12_booked_86 : decode cX12_booked 86 = .ok (.iinc 5 4, 3) := by decide +kernel
theorem dX12_booked_89 : decode cX12_booked 89 = .ok (.goto (-66), 3) := by decide +kernel
theorem dX12_booked_92 : decode cX12_booked 92 = .ok (.iload 4, 2) := by decide +kernel
theorem dX12_booked_94 : decode cX12_booked 94 = .ok (.ireturn, 1) := by decide +kernel
def zX12_booked_23 (G : kz_G) (d : Nat) (Qr : Option Value → kz_M → Prop) (Qx : String → kz_M → Prop) (x0 : Nat) (x1 : Int32) (x2 : Int32) (x3 : Int32) (x4 : Int32) (x5 : Int32)  (M : kz_M) : Prop := kz_Z G (d + 2) 0 0 mX12_booked Qr Qx 23 [(0, .ref x0), (1, .int x1), (2, .int x2), (3, .int x3), (4, .int x4), (5, .int x5)] [] M 0 0
theorem rX12_booked_0 {G : kz_G} {d : Nat} {Qr : Option Value → kz_M → Prop} {Qx : String → kz_M → Prop} {a0 : Nat} {p1 : Int32} {p2 : Int32} {p3 : Int32}  {M : kz_M} (h : ∃ fs1, (M).1 a0 = some (.inl (11, fs1)) ∧ 9 < fs1.length ∧ ((∃ fs5, ((kz_up M a0 (.inl (11, fs1.set 9 (.int 0))))).1 a0 = some (.inl (11, fs5))) ∧ kz_C G (d + 1) 0 0 mX12_noWriter [.ref a0, .int p1] (kz_up M a0 (.inl (11, fs1.set 9 (.int 0)))) (fun v M2 => ∃ r3 : Int32, v = some (.int r3) ∧ ((r3 = 0 → zX12_booked_23 G d Qr Qx a0 p1 p2 p3 0 3693 M2) ∧ (¬ r3 = 0 → Qr (some (.int 0)) M2))) Qx)) : kz_C G (d + 2) 0 0 mX12_booked [.ref a0, .int p1, .int p2, .int p3] M Qr Qx := by
  refine kz_enter (n := 3) kmX12_booked.1 (Nat.le_of_ble_eq_true rfl) (ls := [(0, .ref a0), (1, .int p1), (2, .int p2), (3, .int p3)]) rfl ?_
  refine kz_aload_n (pc := 0) 0 (v := .ref a0) (i := 0) rfl rfl rfl dX12_booked_0 ?_
  refine kz_iconst (pc := 1) (v := 0) (by decide) dX12_booked_1 ?_
  obtain ⟨fs1, hM, hlen, h⟩ := h
  refine kz_putf (pc := 2) (k := 9) kcX12 hM (by decide) hlen kw_1387 rfl rfl rfl dX12_booked_2 ?_
  refine kz_aload_n (pc := 5) 0 (v := .ref a0) (i := 0) rfl rfl rfl dX12_booked_5 ?_
  refine kz_iload_n (pc := 6) 1 (i := 1) rfl rfl dX12_booked_6 ?_
  obtain ⟨⟨fs5, he⟩, h⟩ := h
  refine kz_callV (pc := 7) (μ' := mX12_noWriter) (ci := 11) (q := (RX12, TX12, 32)) (b := a0) (d' := d + 1) (mc' := 0) (ms' := 0) (As := [.int p1]) (st := []) (c := 0) (sl := 0) kmX12_noWriter kw_1665 (by omega) rfl (Nat.le_of_ble_eq_true rfl) he rfl rfl (Nat.le_refl _) (Nat.le_refl _) dX12_booked_7 (fun E M9 hx => kz_Tout rfl (Nat.le_refl _) (Nat.le_refl _) hx) (kz_Cmono (fun v M2 h => ?_) (fun _ _ h => h) h)
  obtain ⟨r3, rfl, h⟩ := h
  show kz_Z G (d + 2) 0 0 mX12_booked Qr Qx 10 [(0, .ref a0), (1, .int p1), (2, .int p2), (3, .int p3)] [.int r3] M2 0 0
  refine kz_if_eq (pc := 10) (tgt := 15) (by decide) dX12_booked_10 (fun hb => ?_) (fun hb => ?_)
  · replace h := h.1 hb
    refine kz_iconst (pc := 15) (v := 0) (by decide) dX12_booked_15 ?_
    refine kz_istore (pc := 16) (i := 4) (ls' := [(0, .ref a0), (1, .int p1), (2, .int p2), (3, .int p3)]) (by decide) rfl dX12_booked_16 ?_
    refine kz_sipush (pc := 18) (v := 3693) (by decide) dX12_booked_18 ?_
    refine kz_istore (pc := 21) (i := 5) (ls' := [(4, .int 0), (0, .ref a0), (1, .int p1), (2, .int p2), (3, .int p3)]) (by decide) rfl dX12_booked_21 ?_
    refine kz_sub [2, 3, 4, 5, 1, 0] rfl ?_
    exact h
  · replace h := h.2 hb
    refine kz_iconst (pc := 13) (v := 0) (by decide) dX12_booked_13 ?_
    exact kz_iret (pc := 14) rfl (Nat.le_refl _) (Nat.le_refl _) dX12_booked_14 h
theorem rX12_booked_23 {G : kz_G} {d : Nat} {Qr : Option Value → kz_M → Prop} {Qx : String → kz_M → Prop} {x0 : Nat} {x1 : Int32} {x2 : Int32} {x3 : Int32} {x4 : Int32} {x5 : Int32}  {M : kz_M} (h : ∃ fs1 v2, (M).1 x0 = some (.inl (11, fs1)) ∧ fs1[0]? = some (.ref v2) ∧ (∃ n3 f4, (M).1 v2 = some (.inr (.int, n3, .inl f4)) ∧ vp_in (4 : Int32) n3 ∧ (((3693 + (4 * (f4 (4 : Int32).toNatClampNeg))) ≤ x5 → Qr (some (.int x4)) M) ∧ (¬ (3693 + (4 * (f4 (4 : Int32).toNatClampNeg))) ≤ x5 → ∃ fs5 v6, (M).1 x0 = some (.inl (11, fs5)) ∧ fs5[0]? = some (.ref v6) ∧ (∃ n7 f8, (M).1 v6 = some (.inr (.int, n7, .inl f8)) ∧ vp_in (x5 + 1) n7 ∧ ((¬ (f8 (x5 + 1).toNatClampNeg) = x1 → zX12_booked_23 G d Qr Qx x0 x1 x2 x3 (x4 + 0) (x5 + 4) M) ∧ ((f8 (x5 + 1).toNatClampNeg) = x1 → ∃ fs9 v10, (M).1 x0 = some (.inl (11, fs9)) ∧ fs9[0]? = some (.ref v10) ∧ (∃ n11 f12, (M).1 v10 = some (.inr (.int, n11, .inl f12)) ∧ vp_in x5 n11 ∧ (kz_C G (d + 1) 0 0 mX12_inRange [.int (f12 x5.toNatClampNeg), .int x2, .int x3] M (fun v M13 => ∃ r14 : Int32, v = some (.int r14) ∧ ((r14 = 0 → zX12_booked_23 G d Qr Qx x0 x1 x2 x3 (x4 + 0) (x5 + 4) M13) ∧ (¬ r14 = 0 → ∃ fs16 v17, (M13).1 x0 = some (.inl (11, fs16)) ∧ fs16[0]? = some (.ref v17) ∧ (∃ n18 f19, (M13).1 v17 = some (.inr (.int, n18, .inl f19)) ∧ vp_in (x5 + 3) n18 ∧ (zX12_booked_23 G d Qr Qx x0 x1 x2 x3 (x4 + (f19 (x5 + 3).toNatClampNeg)) (x5 + 4) M13))))) Qx))))))))) : zX12_booked_23 G d Qr Qx x0 x1 x2 x3 x4 x5  M := by
  show kz_Z G (d + 2) 0 0 mX12_booked Qr Qx 23 [(0, .ref x0), (1, .int x1), (2, .int x2), (3, .int x3), (4, .int x4), (5, .int x5)] [] M 0 0
  refine kz_iload (pc := 23) 5 (i := 5) rfl dX12_booked_23 ?_
  refine kz_sipush (pc := 25) (v := 3693) (by decide) dX12_booked_25 ?_
  refine kz_iconst (pc := 28) (v := 4) (by decide) dX12_booked_28 ?_
  refine kz_aload_n (pc := 29) 0 (v := .ref x0) (i := 0) rfl rfl rfl dX12_booked_29 ?_
  obtain ⟨fs1, v2, hM, hv, h⟩ := h
  refine kz_getf (pc := 30) (k := 0) kcX12 hM hv (by decide) kw_1378 dX12_booked_30 ?_
  refine kz_iconst (pc := 33) (v := 4) (by decide) dX12_booked_33 ?_
  obtain ⟨n3, f4, hM, hi, h⟩ := h
  refine kz_iald (pc := 34) hM hi dX12_booked_34 ?_
  refine kz_imul (pc := 35) dX12_booked_35 ?_
  refine kz_iadd (pc := 36) dX12_booked_36 ?_
  refine kz_icmp_ge (pc := 37) (tgt := 92) (by decide) dX12_booked_37 (fun hb => ?_) (fun hb => ?_)
  · replace h := h.1 hb
    refine kz_iload (pc := 92) 4 (i := 4) rfl dX12_booked_92 ?_
    exact kz_iret (pc := 94) rfl (Nat.le_refl _) (Nat.le_refl _) dX12_booked_94 h
  · replace h := h.2 hb
    refine kz_iload (pc := 40) 4 (i := 4) rfl dX12_booked_40 ?_
    refine kz_aload_n (pc := 42) 0 (v := .ref x0) (i := 0) rfl rfl rfl dX12_booked_42 ?_
    obtain ⟨fs5, v6, hM, hv, h⟩ := h
    refine kz_getf (pc := 43) (k := 0) kcX12 hM hv (by decide) kw_1378 dX12_booked_43 ?_
    refine kz_iload (pc := 46) 5 (i := 5) rfl dX12_booked_46 ?_
    refine kz_iconst (pc := 48) (v := 1) (by decide) dX12_booked_48 ?_
    refine kz_iadd (pc := 49) dX12_booked_49 ?_
    obtain ⟨n7, f8, hM, hi, h⟩ := h
    refine kz_iald (pc := 50) hM hi dX12_booked_50 ?_
    refine kz_iload_n (pc := 51) 1 (i := 1) rfl rfl dX12_booked_51 ?_
    refine kz_icmp_ne (pc := 52) (tgt := 82) (by decide) dX12_booked_52 (fun hb => ?_) (fun hb => ?_)
    · replace h := h.1 hb
      refine kz_iconst (pc := 82) (v := 0) (by decide) dX12_booked_82 ?_
      refine kz_iadd (pc := 83) dX12_booked_83 ?_
      refine kz_istore (pc := 84) (i := 4) (ls' := [(0, .ref x0), (1, .int x1), (2, .int x2), (3, .int x3), (5, .int x5)]) (by decide) rfl dX12_booked_84 ?_
      refine kz_iinc (pc := 86) 5 (i := 5) (v := x5 + 4) (ls' := [(4, .int (x4 + 0)), (0, .ref x0), (1, .int x1), (2, .int x2), (3, .int x3)]) rfl (congrArg (fun z => x5 + z) (by decide)) (by decide) rfl dX12_booked_86 ?_
      refine kz_goto (pc := 89) (tgt := 23) (by decide) dX12_booked_89 ?_
      refine kz_sub [2, 3, 4, 5, 1, 0] rfl ?_
      exact h
    · replace h := h.2 hb
      refine kz_aload_n (pc := 55) 0 (v := .ref x0) (i := 0) rfl rfl rfl dX12_booked_55 ?_
      obtain ⟨fs9, v10, hM, hv, h⟩ := h
      refine kz_getf (pc := 56) (k := 0) kcX12 hM hv (by decide) kw_1378 dX12_booked_56 ?_
      refine kz_iload (pc := 59) 5 (i := 5) rfl dX12_booked_59 ?_
      obtain ⟨n11, f12, hM, hi, h⟩ := h
      refine kz_iald (pc := 61) hM hi dX12_booked_61 ?_
      refine kz_iload_n (pc := 62) 2 (i := 2) rfl rfl dX12_booked_62 ?_
      refine kz_iload_n (pc := 63) 3 (i := 3) rfl rfl dX12_booked_63 ?_
      refine kz_callS (pc := 64) (μ' := mX12_inRange) (d' := d + 1) (mc' := 0) (ms' := 0) (As := [.int (f12 x5.toNatClampNeg), .int x2, .int x3]) (st := [.int x4]) (c := 0) (sl := 0) kmX12_inRange kw_1491 (by omega) rfl (Nat.le_of_ble_eq_true rfl) (Nat.le_refl _) (Nat.le_refl _) dX12_booked_64 (fun E M9 hx => kz_Tout rfl (Nat.le_refl _) (Nat.le_refl _) hx) (kz_Cmono (fun v M13 h => ?_) (fun _ _ h => h) h)
      obtain ⟨r14, rfl, h⟩ := h
      show kz_Z G (d + 2) 0 0 mX12_booked Qr Qx 67 [(0, .ref x0), (1, .int x1), (2, .int x2), (3, .int x3), (4, .int x4), (5, .int x5)] [.int r14, .int x4] M13 0 0
      refine kz_if_eq (pc := 67) (tgt := 82) (by decide) dX12_booked_67 (fun hb => ?_) (fun hb => ?_)
      · replace h := h.1 hb
        refine kz_iconst (pc := 82) (v := 0) (by decide) dX12_booked_82 ?_
        refine kz_iadd (pc := 83) dX12_booked_83 ?_
        refine kz_istore (pc := 84) (i := 4) (ls' := [(0, .ref x0), (1, .int x1), (2, .int x2), (3, .int x3), (5, .int x5)]) (by decide) rfl dX12_booked_84 ?_
        refine kz_iinc (pc := 86) 5 (i := 5) (v := x5 + 4) (ls' := [(4, .int (x4 + 0)), (0, .ref x0), (1, .int x1), (2, .int x2), (3, .int x3)]) rfl (congrArg (fun z => x5 + z) (by decide)) (by decide) rfl dX12_booked_86 ?_
        refine kz_goto (pc := 89) (tgt := 23) (by decide) dX12_booked_89 ?_
        refine kz_sub [2, 3, 4, 5, 1, 0] rfl ?_
        exact h
      · replace h := h.2 hb
        refine kz_aload_n (pc := 70) 0 (v := .ref x0) (i := 0) rfl rfl rfl dX12_booked_70 ?_
        obtain ⟨fs16, v17, hM, hv, h⟩ := h
        refine kz_getf (pc := 71) (k := 0) kcX12 hM hv (by decide) kw_1378 dX12_booked_71 ?_
        refine kz_iload (pc := 74) 5 (i := 5) rfl dX12_booked_74 ?_
        refine kz_iconst (pc := 76) (v := 3) (by decide) dX12_booked_76 ?_
        refine kz_iadd (pc := 77) dX12_booked_77 ?_
        obtain ⟨n18, f19, hM, hi, h⟩ := h
        refine kz_iald (pc := 78) hM hi dX12_booked_78 ?_
        refine kz_goto (pc := 79) (tgt := 83) (by decide) dX12_booked_79 ?_
        refine kz_iadd (pc := 83) dX12_booked_83 ?_
        refine kz_istore (pc := 84) (i := 4) (ls' := [(0, .ref x0), (1, .int x1), (2, .int x2), (3, .int x3), (5, .int x5)]) (by decide) rfl dX12_booked_84 ?_
        refine kz_iinc (pc := 86) 5 (i := 5) (v := x5 + 4) (ls' := [(4, .int (x4 + (f19 (x5 + 3).toNatClampNeg))), (0, .ref x0), (1, .int x1), (2, .int x2), (3, .int x3)]) rfl (congrArg (fun z => x5 + z) (by decide)) (by decide) rfl dX12_booked_86 ?_
        refine kz_goto (pc := 89) (tgt := 23) (by decide) dX12_booked_89 ?_
        refine kz_sub [2, 3, 4, 5, 1, 0] rfl ?_
        exact h
theorem dX12_aheadOf_0 : decode cX12_aheadOf 0 = .ok (.iconst 0, 1) := by decide +kernel
theorem dX12_aheadOf_1 : decode cX12_aheadOf 1 = .ok (.istore_n 2, 1) := by decide +kernel
theorem dX12_aheadOf_2 : decode cX12_aheadOf 2 = .ok (.iconst 0, 1) := by decide +kernel
theorem dX12_aheadOf_3 : decode cX12_aheadOf 3 = .ok (.istore_n 3, 1) := by decide +kernel
theorem dX12_aheadOf_4 : decode cX12_aheadOf 4 = .ok (.iload_n 3, 1) := by decide +kernel
theorem dX12_aheadOf_5 : decode cX12_aheadOf 5 = .ok (.aload_n 0, 1) := by decide +kernel
theorem dX12_aheadOf_6 : decode cX12_aheadOf 6 = .ok (.getfield 7, 3) := by decide +kernel
theorem dX12_aheadOf_9 : decode cX12_aheadOf 9 = .ok (.iconst 0, 1) := by decide +kernel
theorem dX12_aheadOf_10 : decode cX12_aheadOf 10 = .ok (.iaload, 1) := by decide +kernel
theorem dX12_aheadOf_11 : decode cX12_aheadOf 11 = .ok (.if_icmp .ge 53, 3) := by decide +kernel
theorem dX12_aheadOf_14 : decode cX12_aheadOf 14 = .ok (.aload_n 0, 1) := by decide +kernel
theorem dX12_aheadOf_15 : decode cX12_aheadOf 15 = .ok (.getfield 7, 3) := by decide +kernel
theorem dX12_aheadOf_18 : decode cX12_aheadOf 18 = .ok (.bipush 21, 2) := by decide +kernel
theorem dX12_aheadOf_20 : decode cX12_aheadOf 20 = .ok (.iload_n 3, 1) := by decide +kernel
theorem dX12_aheadOf_21 : decode cX12_aheadOf 21 = .ok (.iadd, 1) := by decide +kernel
theorem dX12_aheadOf_22 : decode cX12_aheadOf 22 = .ok (.iaload, 1) := by decide +kernel
theorem dX12_aheadOf_23 : decode cX12_aheadOf 23 = .ok (.aload_n 0, 1) := by decide +kernel
theorem dX12_aheadOf_24 : decode cX12_aheadOf 24 = .ok (.getfield 7, 3) := by decide +kernel
theorem dX12_aheadOf_27 : decode cX12_aheadOf 27 = .ok (.bipush 21, 2) := by decide +kernel
theorem dX12_aheadOf_29 : decode cX12_aheadOf 29 = .ok (.iload_n 1, 1) := by decide +kernel
theorem dX12_aheadOf_30 : decode cX12_aheadOf 30 = .ok (.iadd, 1) := by decide +kernel
theorem dX12_aheadOf_31 : decode cX12_aheadOf 31 = .ok (.iaload, 1) := by decide +kernel
theorem dX12_aheadOf_32 : decode cX12_aheadOf 32 = .ok (.isub, 1) := by decide +kernel
theorem dX12_aheadOf_33 : decode cX12_aheadOf 33 = .ok (.istore 4, 2) := by decide +kernel
theorem dX12_aheadOf_35 : decode cX12_aheadOf 35 = .ok (.iload_n 2, 1) := by decide +kernel
theorem dX12_aheadOf_36 : decode cX12_aheadOf 36 = .ok (.iload 4, 2) := by decide +kernel
theorem dX12_aheadOf_38 : decode cX12_aheadOf 38 = .ok (.ifCond .gt 13, 3) := by decide +kernel
theorem dX12_aheadOf_41 : decode cX12_aheadOf 41 = .ok (.iload 4, 2) := by decide +kernel
theorem dX12_aheadOf_43 : decode cX12_aheadOf 43 = .ok (.ifCond .ne 12, 3) := by decide +kernel
theorem dX12_aheadOf_46 : decode cX12_aheadOf 46 = .ok (.iload_n 3, 1) := by decide +kernel
theorem dX12_aheadOf_47 : decode cX12_aheadOf 47 = .ok (.iload_n 1, 1) := by decide +kernel
theorem dX12_aheadOf_48 : decode cX12_aheadOf 48 = .ok (.if_icmp .ge 7, 3) := by decide +kernel
theorem dX12_aheadOf_51 : decode cX12_aheadOf 51 = .ok (.iconst 1, 1) := by decide +kernel
theorem dX12_aheadOf_52 : decode cX12_aheadOf 52 = .ok (.goto 4, 3) := by decide +kernel
theorem dX12_aheadOf_55 : decode cX12_aheadOf 55 = .ok (.iconst 0, 1) := by decide +kernel
theorem dX12_aheadOf_56 : decode cX12_aheadOf 56 = .ok (.iadd, 1) := by decide +kernel
theorem dX12_aheadOf_57 : decode cX12_aheadOf 57 = .ok (.istore_n 2, 1) := by decide +kernel
theorem dX12_aheadOf_58 : decode cX12_aheadOf 58 = .ok (.iinc 3 1, 3) := by decide +kernel
theorem dX12_aheadOf_61 : decode cX12_aheadOf 61 = .ok (.goto (-57), 3) := by decide +kernel
theorem dX12_aheadOf_64 : decode cX12_aheadOf 64 = .ok (.iload_n 2, 1) := by decide +kernel
theorem dX12_aheadOf_65 : decode cX12_aheadOf 65 = .ok (.ireturn, 1) := by decide +kernel
def zX12_aheadOf_4 (G : kz_G) (d : Nat) (Qr : Option Value → kz_M → Prop) (Qx : String → kz_M → Prop) (x0 : Nat) (x1 : Int32) (x2 : Int32) (x3 : Int32)  (M : kz_M) : Prop := kz_Z G d 0 0 mX12_aheadOf Qr Qx 4 [(0, .ref x0), (1, .int x1), (2, .int x2), (3, .int x3)] [] M 0 0
theorem rX12_aheadOf_0 {G : kz_G} {d : Nat} {Qr : Option Value → kz_M → Prop} {Qx : String → kz_M → Prop} {a0 : Nat} {p1 : Int32}  {M : kz_M} (h : zX12_aheadOf_4 G d Qr Qx a0 p1 0 0 M) : kz_C G d 0 0 mX12_aheadOf [.ref a0, .int p1] M Qr Qx := by
  refine kz_enter (n := 1) kmX12_aheadOf.1 (Nat.le_of_ble_eq_true rfl) (ls := [(0, .ref a0), (1, .int p1)]) rfl ?_
  refine kz_iconst (pc := 0) (v := 0) (by decide) dX12_aheadOf_0 ?_
  refine kz_istore_n (pc := 1) (i := 2) (ls' := [(0, .ref a0), (1, .int p1)]) rfl (by decide) rfl dX12_aheadOf_1 ?_
  refine kz_iconst (pc := 2) (v := 0) (by decide) dX12_aheadOf_2 ?_
  refine kz_istore_n (pc := 3) (i := 3) (ls' := [(2, .int 0), (0, .ref a0), (1, .int p1)]) rfl (by decide) rfl dX12_aheadOf_3 ?_
  refine kz_sub [2, 3, 1, 0] rfl ?_
  exact h
theorem rX12_aheadOf_4 {G : kz_G} {d : Nat} {Qr : Option Value → kz_M → Prop} {Qx : String → kz_M → Prop} {x0 : Nat} {x1 : Int32} {x2 : Int32} {x3 : Int32}  {M : kz_M} (h : ∃ fs1 v2, (M).1 x0 = some (.inl (11, fs1)) ∧ fs1[0]? = some (.ref v2) ∧ (∃ n3 f4, (M).1 v2 = some (.inr (.int, n3, .inl f4)) ∧ vp_in (0 : Int32) n3 ∧ (((f4 (0 : Int32).toNatClampNeg) ≤ x3 → Qr (some (.int x2)) M) ∧ (¬ (f4 (0 : Int32).toNatClampNeg) ≤ x3 → ∃ fs5 v6, (M).1 x0 = some (.inl (11, fs5)) ∧ fs5[0]? = some (.ref v6) ∧ (∃ n7 f8, (M).1 v6 = some (.inr (.int, n7, .inl f8)) ∧ vp_in (21 + x3) n7 ∧ (∃ fs9 v10, (M).1 x0 = some (.inl (11, fs9)) ∧ fs9[0]? = some (.ref v10) ∧ (∃ n11 f12, (M).1 v10 = some (.inr (.int, n11, .inl f12)) ∧ vp_in (21 + x1) n11 ∧ ((0 < ((f8 (21 + x3).toNatClampNeg) - (f12 (21 + x1).toNatClampNeg)) → zX12_aheadOf_4 G d Qr Qx x0 x1 (x2 + 1) (x3 + 1) M) ∧ (¬ 0 < ((f8 (21 + x3).toNatClampNeg) - (f12 (21 + x1).toNatClampNeg)) → (¬ ((f8 (21 + x3).toNatClampNeg) - (f12 (21 + x1).toNatClampNeg)) = 0 → zX12_aheadOf_4 G d Qr Qx x0 x1 (x2 + 0) (x3 + 1) M) ∧ (((f8 (21 + x3).toNatClampNeg) - (f12 (21 + x1).toNatClampNeg)) = 0 → (x1 ≤ x3 → zX12_aheadOf_4 G d Qr Qx x0 x1 (x2 + 0) (x3 + 1) M) ∧ (¬ x1 ≤ x3 → zX12_aheadOf_4 G d Qr Qx x0 x1 (x2 + 1) (x3 + 1) M))))))))))) : zX12_aheadOf_4 G d Qr Qx x0 x1 x2 x3  M := by
  show kz_Z G d 0 0 mX12_aheadOf Qr Qx 4 [(0, .ref x0), (1, .int x1), (2, .int x2), (3, .int x3)] [] M 0 0
  refine kz_iload_n (pc := 4) 3 (i := 3) rfl rfl dX12_aheadOf_4 ?_
  refine kz_aload_n (pc := 5) 0 (v := .ref x0) (i := 0) rfl rfl rfl dX12_aheadOf_5 ?_
  obtain ⟨fs1, v2, hM, hv, h⟩ := h
  refine kz_getf (pc := 6) (k := 0) kcX12 hM hv (by decide) kw_1378 dX12_aheadOf_6 ?_
  refine kz_iconst (pc := 9) (v := 0) (by decide) dX12_aheadOf_9 ?_
  obtain ⟨n3, f4, hM, hi, h⟩ := h
  refine kz_iald (pc := 10) hM hi dX12_aheadOf_10 ?_
  refine kz_icmp_ge (pc := 11) (tgt := 64) (by decide) dX12_aheadOf_11 (fun hb => ?_) (fun hb => ?_)
  · replace h := h.1 hb
    refine kz_iload_n (pc := 64) 2 (i := 2) rfl rfl dX12_aheadOf_64 ?_
    exact kz_iret (pc := 65) rfl (Nat.le_refl _) (Nat.le_refl _) dX12_aheadOf_65 h
  · replace h := h.2 hb
    refine kz_aload_n (pc := 14) 0 (v := .ref x0) (i := 0) rfl rfl rfl dX12_aheadOf_14 ?_
    obtain ⟨fs5, v6, hM, hv, h⟩ := h
    refine kz_getf (pc := 15) (k := 0) kcX12 hM hv (by decide) kw_1378 dX12_aheadOf_15 ?_
    refine kz_bipush (pc := 18) (v := 21) (by decide) dX12_aheadOf_18 ?_
    refine kz_iload_n (pc := 20) 3 (i := 3) rfl rfl dX12_aheadOf_20 ?_
    refine kz_iadd (pc := 21) dX12_aheadOf_21 ?_
    obtain ⟨n7, f8, hM, hi, h⟩ := h
    refine kz_iald (pc := 22) hM hi dX12_aheadOf_22 ?_
    refine kz_aload_n (pc := 23) 0 (v := .ref x0) (i := 0) rfl rfl rfl dX12_aheadOf_23 ?_
    obtain ⟨fs9, v10, hM, hv, h⟩ := h
    refine kz_getf (pc := 24) (k := 0) kcX12 hM hv (by decide) kw_1378 dX12_aheadOf_24 ?_
    refine kz_bipush (pc := 27) (v := 21) (by decide) dX12_aheadOf_27 ?_
    refine kz_iload_n (pc := 29) 1 (i := 1) rfl rfl dX12_aheadOf_29 ?_
    refine kz_iadd (pc := 30) dX12_aheadOf_30 ?_
    obtain ⟨n11, f12, hM, hi, h⟩ := h
    refine kz_iald (pc := 31) hM hi dX12_aheadOf_31 ?_
    refine kz_isub (pc := 32) dX12_aheadOf_32 ?_
    refine kz_istore (pc := 33) (i := 4) (ls' := [(0, .ref x0), (1, .int x1), (2, .int x2), (3, .int x3)]) (by decide) rfl dX12_aheadOf_33 ?_
    refine kz_iload_n (pc := 35) 3 (i := 2) rfl rfl dX12_aheadOf_35 ?_
    refine kz_iload (pc := 36) 0 (i := 4) rfl dX12_aheadOf_36 ?_
    refine kz_if_gt (pc := 38) (tgt := 51) (by decide) dX12_aheadOf_38 (fun hb => ?_) (fun hb => ?_)
    · replace h := h.1 hb
      refine kz_iconst (pc := 51) (v := 1) (by decide) dX12_aheadOf_51 ?_
      refine kz_goto (pc := 52) (tgt := 56) (by decide) dX12_aheadOf_52 ?_
      refine kz_iadd (pc := 56) dX12_aheadOf_56 ?_
      refine kz_istore_n (pc := 57) (i := 2) (ls' := [(4, .int ((f8 (21 + x3).toNatClampNeg) - (f12 (21 + x1).toNatClampNeg))), (0, .ref x0), (1, .int x1), (3, .int x3)]) rfl (by decide) rfl dX12_aheadOf_57 ?_
      refine kz_iinc (pc := 58) 4 (i := 3) (v := x3 + 1) (ls' := [(2, .int (x2 + 1)), (4, .int ((f8 (21 + x3).toNatClampNeg) - (f12 (21 + x1).toNatClampNeg))), (0, .ref x0), (1, .int x1)]) rfl (congrArg (fun z => x3 + z) (by decide)) (by decide) rfl dX12_aheadOf_58 ?_
      refine kz_goto (pc := 61) (tgt := 4) (by decide) dX12_aheadOf_61 ?_
      refine kz_sub [3, 4, 1, 0] rfl ?_
      exact h
    · replace h := h.2 hb
      refine kz_iload (pc := 41) 0 (i := 4) rfl dX12_aheadOf_41 ?_
      refine kz_if_ne (pc := 43) (tgt := 55) (by decide) dX12_aheadOf_43 (fun hb => ?_) (fun hb => ?_)
      · replace h := h.1 hb
        refine kz_iconst (pc := 55) (v := 0) (by decide) dX12_aheadOf_55 ?_
        refine kz_iadd (pc := 56) dX12_aheadOf_56 ?_
        refine kz_istore_n (pc := 57) (i := 2) (ls' := [(4, .int ((f8 (21 + x3).toNatClampNeg) - (f12 (21 + x1).toNatClampNeg))), (0, .ref x0), (1, .int x1), (3, .int x3)]) rfl (by decide) rfl dX12_aheadOf_57 ?_
        refine kz_iinc (pc := 58) 4 (i := 3) (v := x3 + 1) (ls' := [(2, .int (x2 + 0)), (4, .int ((f8 (21 + x3).toNatClampNeg) - (f12 (21 + x1).toNatClampNeg))), (0, .ref x0), (1, .int x1)]) rfl (congrArg (fun z => x3 + z) (by decide)) (by decide) rfl dX12_aheadOf_58 ?_
        refine kz_goto (pc := 61) (tgt := 4) (by decide) dX12_aheadOf_61 ?_
        refine kz_sub [3, 4, 1, 0] rfl ?_
        exact h
      · replace h := h.2 hb
        refine kz_iload_n (pc := 46) 4 (i := 3) rfl rfl dX12_aheadOf_46 ?_
        refine kz_iload_n (pc := 47) 2 (i := 1) rfl rfl dX12_aheadOf_47 ?_
        refine kz_icmp_ge (pc := 48) (tgt := 55) (by decide) dX12_aheadOf_48 (fun hb => ?_) (fun hb => ?_)
        · replace h := h.1 hb
          refine kz_iconst (pc := 55) (v := 0) (by decide) dX12_aheadOf_55 ?_
          refine kz_iadd (pc := 56) dX12_aheadOf_56 ?_
          refine kz_istore_n (pc := 57) (i := 2) (ls' := [(4, .int ((f8 (21 + x3).toNatClampNeg) - (f12 (21 + x1).toNatClampNeg))), (0, .ref x0), (1, .int x1), (3, .int x3)]) rfl (by decide) rfl dX12_aheadOf_57 ?_
          refine kz_iinc (pc := 58) 4 (i := 3) (v := x3 + 1) (ls' := [(2, .int (x2 + 0)), (4, .int ((f8 (21 + x3).toNatClampNeg) - (f12 (21 + x1).toNatClampNeg))), (0, .ref x0), (1, .int x1)]) rfl (congrArg (fun z => x3 + z) (by decide)) (by decide) rfl dX12_aheadOf_58 ?_
          refine kz_goto (pc := 61) (tgt := 4) (by decide) dX12_aheadOf_61 ?_
          refine kz_sub [3, 4, 1, 0] rfl ?_
          exact h
        · replace h := h.2 hb
          refine kz_iconst (pc := 51) (v := 1) (by decide) dX12_aheadOf_51 ?_
          refine kz_goto (pc := 52) (tgt := 56) (by decide) dX12_aheadOf_52 ?_
          refine kz_iadd (pc := 56) dX12_aheadOf_56 ?_
          refine kz_istore_n (pc := 57) (i := 2) (ls' := [(4, .int ((f8 (21 + x3).toNatClampNeg) - (f12 (21 + x1).toNatClampNeg))), (0, .ref x0), (1, .int x1), (3, .int x3)]) rfl (by decide) rfl dX12_aheadOf_57 ?_
          refine kz_iinc (pc := 58) 4 (i := 3) (v := x3 + 1) (ls' := [(2, .int (x2 + 1)), (4, .int ((f8 (21 + x3).toNatClampNeg) - (f12 (21 + x1).toNatClampNeg))), (0, .ref x0), (1, .int x1)]) rfl (congrArg (fun z => x3 + z) (by decide)) (by decide) rfl dX12_aheadOf_58 ?_
          refine kz_goto (pc := 61) (tgt := 4) (by decide) dX12_aheadOf_61 ?_
          refine kz_sub [3, 4, 1, 0] rfl ?_
          exact h
theorem dX12_richest_0 : decode cX12_richest 0 = .ok (.aload_n 0, 1) := by decide +kernel
theorem dX12_richest_1 : decode cX12_richest 1 = .ok (.iconst 0, 1) := by decide +kernel
theorem dX12_richest_2 : decode cX12_richest 2 = .ok (.putfield 60, 3) := by decide +kernel
theorem dX12_richest_5 : decode cX12_richest 5 = .ok (.iconst 0, 1) := by decide +kernel
theorem dX12_richest_6 : decode cX12_richest 6 = .ok (.istore_n 1, 1) := by decide +kernel
theorem dX12_richest_7 : decode cX12_richest 7 = .ok (.aload_n 0, 1) := by decide +kernel
theorem dX12_richest_8 : decode cX12_richest 8 = .ok (.iload_n 1, 1) := by decide +kernel
theorem dX12_richest_9 : decode cX12_richest 9 = .ok (.invokevirtual 373, 3) := by decide +kernel
theorem dX12_richest_12 : decode cX12_richest 12 = .ok (.ifCond .le 9, 3) := by decide +kernel
theorem dX12_richest_15 : decode cX12_richest 15 = .ok (.iinc 1 1, 3) := by decide +kernel
theorem dX12_richest_18 : decode cX12_richest 18 = .ok (.goto (-11), 3) := by decide +kernel
theorem dX12_richest_21 : decode cX12_richest 21 = .ok (.iload_n 1, 1) := by decide +kernel
theorem dX12_richest_22 : decode cX12_richest 22 = .ok (.ireturn, 1) := by decide +kernel
def zX12_richest_7 (G : kz_G) (d : Nat) (Qr : Option Value → kz_M → Prop) (Qx : String → kz_M → Prop) (x0 : Nat) (x1 : Int32)  (M : kz_M) : Prop := kz_Z G (d + 1) 0 0 mX12_richest Qr Qx 7 [(0, .ref x0), (1, .int x1)] [] M 0 0
theorem rX12_richest_0 {G : kz_G} {d : Nat} {Qr : Option Value → kz_M → Prop} {Qx : String → kz_M → Prop} {a0 : Nat}  {M : kz_M} (h : ∃ fs1, (M).1 a0 = some (.inl (11, fs1)) ∧ 9 < fs1.length ∧ (zX12_richest_7 G d Qr Qx a0 0 (kz_up M a0 (.inl (11, fs1.set 9 (.int 0)))))) : kz_C G (d + 1) 0 0 mX12_richest [.ref a0] M Qr Qx := by
  refine kz_enter (n := 0) kmX12_richest.1 (Nat.le_of_ble_eq_true rfl) (ls := [(0, .ref a0)]) rfl ?_
  refine kz_aload_n (pc := 0) 0 (v := .ref a0) (i := 0) rfl rfl rfl dX12_richest_0 ?_
  refine kz_iconst (pc := 1) (v := 0) (by decide) dX12_richest_1 ?_
  obtain ⟨fs1, hM, hlen, h⟩ := h
  refine kz_putf (pc := 2) (k := 9) kcX12 hM (by decide) hlen kw_1387 rfl rfl rfl dX12_richest_2 ?_
  refine kz_iconst (pc := 5) (v := 0) (by decide) dX12_richest_5 ?_
  refine kz_istore_n (pc := 6) (i := 1) (ls' := [(0, .ref a0)]) rfl (by decide) rfl dX12_richest_6 ?_
  refine kz_sub [1, 0] rfl ?_
  exact h
theorem rX12_richest_7 {G : kz_G} {d : Nat} {Qr : Option Value → kz_M → Prop} {Qx : String → kz_M → Prop} {x0 : Nat} {x1 : Int32}  {M : kz_M} (h : (∃ fs4, (M).1 x0 = some (.inl (11, fs4))) ∧ kz_C G (d + 0) 0 0 mX12_aheadOf [.ref x0, .int x1] M (fun v M1 => ∃ r2 : Int32, v = some (.int r2) ∧ ((r2 ≤ 0 → Qr (some (.int x1)) M1) ∧ (¬ r2 ≤ 0 → zX12_richest_7 G d Qr Qx x0 (x1 + 1) M1))) Qx) : zX12_richest_7 G d Qr Qx x0 x1  M := by
  show kz_Z G (d + 1) 0 0 mX12_richest Qr Qx 7 [(0, .ref x0), (1, .int x1)] [] M 0 0
  refine kz_aload_n (pc := 7) 0 (v := .ref x0) (i := 0) rfl rfl rfl dX12_richest_7 ?_
  refine kz_iload_n (pc := 8) 1 (i := 1) rfl rfl dX12_richest_8 ?_
  obtain ⟨⟨fs4, he⟩, h⟩ := h
  refine kz_callV (pc := 9) (μ' := mX12_aheadOf) (ci := 11) (q := (RX12, TX12, 32)) (b := x0) (d' := d + 0) (mc' := 0) (ms' := 0) (As := [.int x1]) (st := []) (c := 0) (sl := 0) kmX12_aheadOf kw_1796 (by omega) rfl (Nat.le_of_ble_eq_true rfl) he rfl rfl (Nat.le_refl _) (Nat.le_refl _) dX12_richest_9 (fun E M9 hx => kz_Tout rfl (Nat.le_refl _) (Nat.le_refl _) hx) (kz_Cmono (fun v M1 h => ?_) (fun _ _ h => h) h)
  obtain ⟨r2, rfl, h⟩ := h
  show kz_Z G (d + 1) 0 0 mX12_richest Qr Qx 12 [(0, .ref x0), (1, .int x1)] [.int r2] M1 0 0
  refine kz_if_le (pc := 12) (tgt := 21) (by decide) dX12_richest_12 (fun hb => ?_) (fun hb => ?_)
  · replace h := h.1 hb
    refine kz_iload_n (pc := 21) 1 (i := 1) rfl rfl dX12_richest_21 ?_
    exact kz_iret (pc := 22) rfl (Nat.le_refl _) (Nat.le_refl _) dX12_richest_22 h
  · replace h := h.2 hb
    refine kz_iinc (pc := 15) 1 (i := 1) (v := x1 + 1) (ls' := [(0, .ref x0)]) rfl (congrArg (fun z => x1 + z) (by decide)) (by decide) rfl dX12_richest_15 ?_
    refine kz_goto (pc := 18) (tgt := 7) (by decide) dX12_richest_18 ?_
    refine kz_sub [1, 0] rfl ?_
    exact h
theorem dX12_rank_0 : decode cX12_rank 0 = .ok (.aload_n 0, 1) := by decide +kernel
theorem dX12_rank_1 : decode cX12_rank 1 = .ok (.iconst 0, 1) := by decide +kernel
theorem dX12_rank_2 : decode cX12_rank 2 = .ok (.putfield 60, 3) := by decide +kernel
theorem dX12_rank_5 : decode cX12_rank 5 = .ok (.aload_n 0, 1) := by decide +kernel
theorem dX12_rank_6 : decode cX12_rank 6 = .ok (.iload_n 1, 1) := by decide +kernel
theorem dX12_rank_7 : decode cX12_rank 7 = .ok (.invokevirtual 340, 3) := by decide +kernel
theorem dX12_rank_10 : decode cX12_rank 10 = .ok (.ifCond .eq 7, 3) := by decide +kernel
theorem dX12_rank_13 : decode cX12_rank 13 = .ok (.iconst 0, 1) := by decide +kernel
theorem dX12_rank_14 : decode cX12_rank 14 = .ok (.goto 8, 3) := by decide +kernel
theorem dX12_rank_17 : decode cX12_rank 17 = .ok (.aload_n 0, 1) := by decide +kernel
theorem dX12_rank_18 : decode cX12_rank 18 = .ok (.iload_n 1, 1) := by decide +kernel
theorem dX12_rank_19 : decode cX12_rank 19 = .ok (.invokevirtual 373, 3) := by decide +kernel
theorem dX12_rank_22 : decode cX12_rank 22 = .ok (.ireturn, 1) := by decide +kernel
theorem rX12_rank_0 {G : kz_G} {d : Nat} {Qr : Option Value → kz_M → Prop} {Qx : String → kz_M → Prop} {a0 : Nat} {p1 : Int32}  {M : kz_M} (h : ∃ fs1, (M).1 a0 = some (.inl (11, fs1)) ∧ 9 < fs1.length ∧ ((∃ fs9, ((kz_up M a0 (.inl (11, fs1.set 9 (.int 0))))).1 a0 = some (.inl (11, fs9))) ∧ kz_C G (d + 1) 0 0 mX12_noWriter [.ref a0, .int p1] (kz_up M a0 (.inl (11, fs1.set 9 (.int 0)))) (fun v M2 => ∃ r3 : Int32, v = some (.int r3) ∧ ((r3 = 0 → (∃ fs8, (M2).1 a0 = some (.inl (11, fs8))) ∧ kz_C G (d + 1) 0 0 mX12_aheadOf [.ref a0, .int p1] M2 (fun v M5 => ∃ r6 : Int32, v = some (.int r6) ∧ (Qr (some (.int r6)) M5)) Qx) ∧ (¬ r3 = 0 → Qr (some (.int 0)) M2))) Qx)) : kz_C G (d + 2) 0 0 mX12_rank [.ref a0, .int p1] M Qr Qx := by
  refine kz_enter (n := 1) kmX12_rank.1 (Nat.le_of_ble_eq_true rfl) (ls := [(0, .ref a0), (1, .int p1)]) rfl ?_
  refine kz_aload_n (pc := 0) 0 (v := .ref a0) (i := 0) rfl rfl rfl dX12_rank_0 ?_
  refine kz_iconst (pc := 1) (v := 0) (by decide) dX12_rank_1 ?_
  obtain ⟨fs1, hM, hlen, h⟩ := h
  refine kz_putf (pc := 2) (k := 9) kcX12 hM (by decide) hlen kw_1387 rfl rfl rfl dX12_rank_2 ?_
  refine kz_aload_n (pc := 5) 0 (v := .ref a0) (i := 0) rfl rfl rfl dX12_rank_5 ?_
  refine kz_iload_n (pc := 6) 1 (i := 1) rfl rfl dX12_rank_6 ?_
  obtain ⟨⟨fs9, he⟩, h⟩ := h
  refine kz_callV (pc := 7) (μ' := mX12_noWriter) (ci := 11) (q := (RX12, TX12, 32)) (b := a0) (d' := d + 1) (mc' := 0) (ms' := 0) (As := [.int p1]) (st := []) (c := 0) (sl := 0) kmX12_noWriter kw_1665 (by omega) rfl (Nat.le_of_ble_eq_true rfl) he rfl rfl (Nat.le_refl _) (Nat.le_refl _) dX12_rank_7 (fun E M9 hx => kz_Tout rfl (Nat.le_refl _) (Nat.le_refl _) hx) (kz_Cmono (fun v M2 h => ?_) (fun _ _ h => h) h)
  obtain ⟨r3, rfl, h⟩ := h
  show kz_Z G (d + 2) 0 0 mX12_rank Qr Qx 10 [(0, .ref a0), (1, .int p1)] [.int r3] M2 0 0
  refine kz_if_eq (pc := 10) (tgt := 17) (by decide) dX12_rank_10 (fun hb => ?_) (fun hb => ?_)
  · replace h := h.1 hb
    refine kz_aload_n (pc := 17) 0 (v := .ref a0) (i := 0) rfl rfl rfl dX12_rank_17 ?_
    refine kz_iload_n (pc := 18) 1 (i := 1) rfl rfl dX12_rank_18 ?_
    obtain ⟨⟨fs8, he⟩, h⟩ := h
    refine kz_callV (pc := 19) (μ' := mX12_aheadOf) (ci := 11) (q := (RX12, TX12, 32)) (b := a0) (d' := d + 1) (mc' := 0) (ms' := 0) (As := [.int p1]) (st := []) (c := 0) (sl := 0) kmX12_aheadOf kw_1796 (by omega) rfl (Nat.le_of_ble_eq_true rfl) he rfl rfl (Nat.le_refl _) (Nat.le_refl _) dX12_rank_19 (fun E M9 hx => kz_Tout rfl (Nat.le_refl _) (Nat.le_refl _) hx) (kz_Cmono (fun v M5 h => ?_) (fun _ _ h => h) h)
    obtain ⟨r6, rfl, h⟩ := h
    show kz_Z G (d + 2) 0 0 mX12_rank Qr Qx 22 [(0, .ref a0), (1, .int p1)] [.int r6] M5 0 0
    exact kz_iret (pc := 22) rfl (Nat.le_refl _) (Nat.le_refl _) dX12_rank_22 h
  · replace h := h.2 hb
    refine kz_iconst (pc := 13) (v := 0) (by decide) dX12_rank_13 ?_
    refine kz_goto (pc := 14) (tgt := 22) (by decide) dX12_rank_14 ?_
    exact kz_iret (pc := 22) rfl (Nat.le_refl _) (Nat.le_refl _) dX12_rank_22 h
theorem dX12_meanWidth_0 : decode cX12_meanWidth 0 = .ok (.aload_n 0, 1) := by decide +kernel
theorem dX12_meanWidth_1 : decode cX12_meanWidth 1 = .ok (.iconst 0, 1) := by decide +kernel
theorem dX12_meanWidth_2 : decode cX12_meanWidth 2 = .ok (.putfield 60, 3) := by decide +kernel
theorem dX12_meanWidth_5 : decode cX12_meanWidth 5 = .ok (.aload_n 0, 1) := by decide +kernel
theorem dX12_meanWidth_6 : decode cX12_meanWidth 6 = .ok (.iload_n 1, 1) := by decide +kernel
theorem dX12_meanWidth_7 : decode cX12_meanWidth 7 = .ok (.invokevirtual 314, 3) := by decide +kernel
theorem dX12_meanWidth_10 : decode cX12_meanWidth 10 = .ok (.ifCond .eq 5, 3) := by decide +kernel
theorem dX12_meanWidth_13 : decode cX12_meanWidth 13 = .ok (.dconst 0, 1) := by decide +kernel
theorem dX12_meanWidth_14 : decode cX12_meanWidth 14 = .ok (.dreturn, 1) := by decide +kernel
theorem dX12_meanWidth_15 : decode cX12_meanWidth 15 = .ok (.iconst 0, 1) := by decide +kernel
theorem dX12_meanWidth_16 : decode cX12_meanWidth 16 = .ok (.istore_n 2, 1) := by decide +kernel
theorem dX12_meanWidth_17 : decode cX12_meanWidth 17 = .ok (.iconst 0, 1) := by decide +kernel
theorem dX12_meanWidth_18 : decode cX12_meanWidth 18 = .ok (.istore_n 3, 1) := by decide +kernel
theorem dX12_meanWidth_19 : decode cX12_meanWidth 19 = .ok (.iload_n 3, 1) := by decide +kernel
theorem dX12_meanWidth_20 : decode cX12_meanWidth 20 = .ok (.aload_n 0, 1) := by decide +kernel
theorem dX12_meanWidth_21 : decode cX12_meanWidth 21 = .ok (.iload_n 1, 1) := by decide +kernel
theorem dX12_meanWidth_22 : decode cX12_meanWidth 22 = .ok (.iconst 4, 1) := by decide +kernel
theorem dX12_meanWidth_23 : decode cX12_meanWidth 23 = .ok (.invokevirtual 101, 3) := by decide +kernel
theorem dX12_meanWidth_26 : decode cX12_meanWidth 26 = .ok (.if_icmp .ge 18, 3) := by decide +kernel
theorem dX12_meanWidth_29 : decode cX12_meanWidth 29 = .ok (.iload_n 2, 1) := by decide +kernel
theorem dX12_meanWidth_30 : decode cX12_meanWidth 30 = .ok (.aload_n 0, 1) := by decide +kernel
theorem dX12_meanWidth_31 : decode cX12_meanWidth 31 = .ok (.iload_n 1, 1) := by decide +kernel
theorem dX12_meanWidth_32 : decode cX12_meanWidth 32 = .ok (.iload_n 3, 1) := by decide +kernel
theorem dX12_meanWidth_33 : decode cX12_meanWidth 33 = .ok (.invokevirtual 361, 3) := by decide +kernel
theorem dX12_meanWidth_36 : decode cX12_meanWidth 36 = .ok (.iadd, 1) := by decide +kernel
theorem dX12_meanWidth_37 : decode cX12_meanWidth 37 = .ok (.istore_n 2, 1) := by decide +kernel
theorem dX12_meanWidth_38 : decode cX12_meanWidth 38 = .ok (.iinc 3 1, 3) := by decide +kernel
theorem dX12_meanWidth_41 : decode cX12_meanWidth 41 = .ok (.goto (-22), 3) := by decide +kernel
theorem dX12_meanWidth_44 : decode cX12_meanWidth 44 = .ok (.iload_n 2, 1) := by decide +kernel
theorem dX12_meanWidth_45 : decode cX12_meanWidth 45 = .ok (.i2d, 1) := by decide +kernel
theorem dX12_meanWidth_46 : decode cX12_meanWidth 46 = .ok (.aload_n 0, 1) := by decide +kernel
theorem dX12_meanWidth_47 : decode cX12_meanWidth 47 = .ok (.iload_n 1, 1) := by decide +kernel
theorem dX12_meanWidth_48 : decode cX12_meanWidth 48 = .ok (.iconst 4, 1) := by decide +kernel
theorem dX12_meanWidth_49 : decode cX12_meanWidth 49 = .ok (.invokevirtual 101, 3) := by decide +kernel
theorem dX12_meanWidth_52 : decode cX12_meanWidth 52 = .ok (.i2d, 1) := by decide +kernel
theorem dX12_meanWidth_53 : decode cX12_meanWidth 53 = .ok (.ddiv, 1) := by decide +kernel
theorem dX12_meanWidth_54 : decode cX12_meanWidth 54 = .ok (.dreturn, 1) := by decide +kernel
def zX12_meanWidth_19 (G : kz_G) (d : Nat) (Qr : Option Value → kz_M → Prop) (Qx : String → kz_M → Prop) (x0 : Nat) (x1 : Int32) (x2 : Int32) (x3 : Int32)  (M : kz_M) : Prop := kz_Z G (d + 4) 0 0 mX12_meanWidth Qr Qx 19 [(0, .ref x0), (1, .int x1), (2, .int x2), (3, .int x3)] [] M 0 0
theorem rX12_meanWidth_0 {G : kz_G} {d : Nat} {Qr : Option Value → kz_M → Prop} {Qx : String → kz_M → Prop} {a0 : Nat} {p1 : Int32}  {M : kz_M} (h : ∃ fs1, (M).1 a0 = some (.inl (11, fs1)) ∧ 9 < fs1.length ∧ ((∃ fs5, ((kz_up M a0 (.inl (11, fs1.set 9 (.int 0))))).1 a0 = some (.inl (11, fs5))) ∧ kz_C G (d + 3) 0 0 mX12_noWork [.ref a0, .int p1] (kz_up M a0 (.inl (11, fs1.set 9 (.int 0)))) (fun v M2 => ∃ r3 : Int32, v = some (.int r3) ∧ ((r3 = 0 → zX12_meanWidth_19 G d Qr Qx a0 p1 0 0 M2) ∧ (¬ r3 = 0 → Qr (some (.double FP.dconst0)) M2))) Qx)) : kz_C G (d + 4) 0 0 mX12_meanWidth [.ref a0, .int p1] M Qr Qx := by
  refine kz_enter (n := 1) kmX12_meanWidth.1 (Nat.le_of_ble_eq_true rfl) (ls := [(0, .ref a0), (1, .int p1)]) rfl ?_
  refine kz_aload_n (pc := 0) 0 (v := .ref a0) (i := 0) rfl rfl rfl dX12_meanWidth_0 ?_
  refine kz_iconst (pc := 1) (v := 0) (by decide) dX12_meanWidth_1 ?_
  obtain ⟨fs1, hM, hlen, h⟩ := h
  refine kz_putf (pc := 2) (k := 9) kcX12 hM (by decide) hlen kw_1387 rfl rfl rfl dX12_meanWidth_2 ?_
  refine kz_aload_n (pc := 5) 0 (v := .ref a0) (i := 0) rfl rfl rfl dX12_meanWidth_5 ?_
  refine kz_iload_n (pc := 6) 1 (i := 1) rfl rfl dX12_meanWidth_6 ?_
  obtain ⟨⟨fs5, he⟩, h⟩ := h
  refine kz_callV (pc := 7) (μ' := mX12_noWork) (ci := 11) (q := (RX12, TX12, 32)) (b := a0) (d' := d + 3) (mc' := 0) (ms' := 0) (As := [.int p1]) (st := []) (c := 0) (sl := 0) kmX12_noWork kw_1713 (by omega) rfl (Nat.le_of_ble_eq_true rfl) he rfl rfl (Nat.le_refl _) (Nat.le_refl _) dX12_meanWidth_7 (fun E M9 hx => kz_Tout rfl (Nat.le_refl _) (Nat.le_refl _) hx) (kz_Cmono (fun v M2 h => ?_) (fun _ _ h => h) h)
  obtain ⟨r3, rfl, h⟩ := h
  show kz_Z G (d + 4) 0 0 mX12_meanWidth Qr Qx 10 [(0, .ref a0), (1, .int p1)] [.int r3] M2 0 0
  refine kz_if_eq (pc := 10) (tgt := 15) (by decide) dX12_meanWidth_10 (fun hb => ?_) (fun hb => ?_)
  · replace h := h.1 hb
    refine kz_iconst (pc := 15) (v := 0) (by decide) dX12_meanWidth_15 ?_
    refine kz_istore_n (pc := 16) (i := 2) (ls' := [(0, .ref a0), (1, .int p1)]) rfl (by decide) rfl dX12_meanWidth_16 ?_
    refine kz_iconst (pc := 17) (v := 0) (by decide) dX12_meanWidth_17 ?_
    refine kz_istore_n (pc := 18) (i := 3) (ls' := [(2, .int 0), (0, .ref a0), (1, .int p1)]) rfl (by decide) rfl dX12_meanWidth_18 ?_
    refine kz_sub [2, 3, 1, 0] rfl ?_
    exact h
  · replace h := h.2 hb
    refine kz_dconst0 (pc := 13) dX12_meanWidth_13 ?_
    exact kz_dret (pc := 14) rfl (Nat.le_refl _) (Nat.le_refl _) dX12_meanWidth_14 h
theorem rX12_meanWidth_19 {G : kz_G} {d : Nat} {Qr : Option Value → kz_M → Prop} {Qx : String → kz_M → Prop} {x0 : Nat} {x1 : Int32} {x2 : Int32} {x3 : Int32}  {M : kz_M} (h : (∃ fs12, (M).1 x0 = some (.inl (11, fs12))) ∧ kz_C G (d + 3) 0 0 mX12_of [.ref x0, .int x1, .int 4] M (fun v M1 => ∃ r2 : Int32, v = some (.int r2) ∧ ((r2 ≤ x3 → (∃ fs7, (M1).1 x0 = some (.inl (11, fs7))) ∧ kz_C G (d + 3) 0 0 mX12_of [.ref x0, .int x1, .int 4] M1 (fun v M4 => ∃ r5 : Int32, v = some (.int r5) ∧ (vf_n64 (FP.ddiv (FP.i2d x2) (FP.i2d r5)) ∧ (Qr (some (.double (FP.ddiv (FP.i2d x2) (FP.i2d r5)))) M4))) Qx) ∧ (¬ r2 ≤ x3 → (∃ fs11, (M1).1 x0 = some (.inl (11, fs11))) ∧ kz_C G (d + 3) 0 0 mX12_widthOf [.ref x0, .int x1, .int x3] M1 (fun v M8 => ∃ r9 : Int32, v = some (.int r9) ∧ (zX12_meanWidth_19 G d Qr Qx x0 x1 (x2 + r9) (x3 + 1) M8)) Qx))) Qx) : zX12_meanWidth_19 G d Qr Qx x0 x1 x2 x3  M := by
  show kz_Z G (d + 4) 0 0 mX12_meanWidth Qr Qx 19 [(0, .ref x0), (1, .int x1), (2, .int x2), (3, .int x3)] [] M 0 0
  refine kz_iload_n (pc := 19) 3 (i := 3) rfl rfl dX12_meanWidth_19 ?_
  refine kz_aload_n (pc := 20) 0 (v := .ref x0) (i := 0) rfl rfl rfl dX12_meanWidth_20 ?_
  refine kz_iload_n (pc := 21) 1 (i := 1) rfl rfl dX12_meanWidth_21 ?_
  refine kz_iconst (pc := 22) (v := 4) (by decide) dX12_meanWidth_22 ?_
  obtain ⟨⟨fs12, he⟩, h⟩ := h
  refine kz_callV (pc := 23) (μ' := mX12_of) (ci := 11) (q := (RX12, TX12, 32)) (b := x0) (d' := d + 3) (mc' := 0) (ms' := 0) (As := [.int x1, .int 4]) (st := [.int x3]) (c := 0) (sl := 0) kmX12_of kw_1620 (by omega) rfl (Nat.le_of_ble_eq_true rfl) he rfl rfl (Nat.le_refl _) (Nat.le_refl _) dX12_meanWidth_23 (fun E M9 hx => kz_Tout rfl (Nat.le_refl _) (Nat.le_refl _) hx) (kz_Cmono (fun v M1 h => ?_) (fun _ _ h => h) h)
  obtain ⟨r2, rfl, h⟩ := h
  show kz_Z G (d + 4) 0 0 mX12_meanWidth Qr Qx 26 [(0, .ref x0), (1, .int x1), (2, .int x2), (3, .int x3)] [.int r2, .int x3] M1 0 0
  refine kz_icmp_ge (pc := 26) (tgt := 44) (by decide) dX12_meanWidth_26 (fun hb => ?_) (fun hb => ?_)
  · replace h := h.1 hb
    refine kz_iload_n (pc := 44) 2 (i := 2) rfl rfl dX12_meanWidth_44 ?_
    refine kz_i2d (pc := 45) dX12_meanWidth_45 ?_
    refine kz_aload_n (pc := 46) 0 (v := .ref x0) (i := 0) rfl rfl rfl dX12_meanWidth_46 ?_
    refine kz_iload_n (pc := 47) 1 (i := 1) rfl rfl dX12_meanWidth_47 ?_
    refine kz_iconst (pc := 48) (v := 4) (by decide) dX12_meanWidth_48 ?_
    obtain ⟨⟨fs7, he⟩, h⟩ := h
    refine kz_callV (pc := 49) (μ' := mX12_of) (ci := 11) (q := (RX12, TX12, 32)) (b := x0) (d' := d + 3) (mc' := 0) (ms' := 0) (As := [.int x1, .int 4]) (st := [.double (FP.i2d x2)]) (c := 0) (sl := 0) kmX12_of kw_1620 (by omega) rfl (Nat.le_of_ble_eq_true rfl) he rfl rfl (Nat.le_refl _) (Nat.le_refl _) dX12_meanWidth_49 (fun E M9 hx => kz_Tout rfl (Nat.le_refl _) (Nat.le_refl _) hx) (kz_Cmono (fun v M4 h => ?_) (fun _ _ h => h) h)
    obtain ⟨r5, rfl, h⟩ := h
    show kz_Z G (d + 4) 0 0 mX12_meanWidth Qr Qx 52 [(0, .ref x0), (1, .int x1), (2, .int x2), (3, .int x3)] [.int r5, .double (FP.i2d x2)] M4 0 0
    refine kz_i2d (pc := 52) dX12_meanWidth_52 ?_
    obtain ⟨hz, h⟩ := h
    refine kz_ddiv (pc := 53) hz dX12_meanWidth_53 ?_
    exact kz_dret (pc := 54) rfl (Nat.le_refl _) (Nat.le_refl _) dX12_meanWidth_54 h
  · replace h := h.2 hb
    refine kz_iload_n (pc := 29) 2 (i := 2) rfl rfl dX12_meanWidth_29 ?_
    refine kz_aload_n (pc := 30) 0 (v := .ref x0) (i := 0) rfl rfl rfl dX12_meanWidth_30 ?_
    refine kz_iload_n (pc := 31) 1 (i := 1) rfl rfl dX12_meanWidth_31 ?_
    refine kz_iload_n (pc := 32) 3 (i := 3) rfl rfl dX12_meanWidth_32 ?_
    obtain ⟨⟨fs11, he⟩, h⟩ := h
    refine kz_callV (pc := 33) (μ' := mX12_widthOf) (ci := 11) (q := (RX12, TX12, 32)) (b := x0) (d' := d + 3) (mc' := 0) (ms' := 0) (As := [.int x1, .int x3]) (st := [.int x2]) (c := 0) (sl := 0) kmX12_widthOf kw_1733 (by omega) rfl (Nat.le_of_ble_eq_true rfl) he rfl rfl (Nat.le_refl _) (Nat.le_refl _) dX12_meanWidth_33 (fun E M9 hx => kz_Tout rfl (Nat.le_refl _) (Nat.le_refl _) hx) (kz_Cmono (fun v M8 h => ?_) (fun _ _ h => h) h)
    obtain ⟨r9, rfl, h⟩ := h
    show kz_Z G (d + 4) 0 0 mX12_meanWidth Qr Qx 36 [(0, .ref x0), (1, .int x1), (2, .int x2), (3, .int x3)] [.int r9, .int x2] M8 0 0
    refine kz_iadd (pc := 36) dX12_meanWidth_36 ?_
    refine kz_istore_n (pc := 37) (i := 2) (ls' := [(0, .ref x0), (1, .int x1), (3, .int x3)]) rfl (by decide) rfl dX12_meanWidth_37 ?_
    refine kz_iinc (pc := 38) 3 (i := 3) (v := x3 + 1) (ls' := [(2, .int (x2 + r9)), (0, .ref x0), (1, .int x1)]) rfl (congrArg (fun z => x3 + z) (by decide)) (by decide) rfl dX12_meanWidth_38 ?_
    refine kz_goto (pc := 41) (tgt := 19) (by decide) dX12_meanWidth_41 ?_
    refine kz_sub [2, 3, 1, 0] rfl ?_
    exact h
theorem dX12_caughtShare_0 : decode cX12_caughtShare 0 = .ok (.aload_n 0, 1) := by decide +kernel
theorem dX12_caughtShare_1 : decode cX12_caughtShare 1 = .ok (.iconst 0, 1) := by decide +kernel
theorem dX12_caughtShare_2 : decode cX12_caughtShare 2 = .ok (.putfield 60, 3) := by decide +kernel
theorem dX12_caughtShare_5 : decode cX12_caughtShare 5 = .ok (.aload_n 0, 1) := by decide +kernel
theorem dX12_caughtShare_6 : decode cX12_caughtShare 6 = .ok (.iload_n 1, 1) := by decide +kernel
theorem dX12_caughtShare_7 : decode cX12_caughtShare 7 = .ok (.invokevirtual 340, 3) := by decide +kernel
theorem dX12_caughtShare_10 : decode cX12_caughtShare 10 = .ok (.ifCond .eq 5, 3) := by decide +kernel
theorem dX12_caughtShare_13 : decode cX12_caughtShare 13 = .ok (.fconst 0, 1) := by decide +kernel
theorem dX12_caughtShare_14 : decode cX12_caughtShare 14 = .ok (.freturn, 1) := by decide +kernel
theorem dX12_caughtShare_15 : decode cX12_caughtShare 15 = .ok (.aload_n 0, 1) := by decide +kernel
theorem dX12_caughtShare_16 : decode cX12_caughtShare 16 = .ok (.iload_n 1, 1) := by decide +kernel
theorem dX12_caughtShare_17 : decode cX12_caughtShare 17 = .ok (.invokevirtual 325, 3) := by decide +kernel
theorem dX12_caughtShare_20 : decode cX12_caughtShare 20 = .ok (.istore_n 2, 1) := by decide +kernel
theorem dX12_caughtShare_21 : decode cX12_caughtShare 21 = .ok (.iload_n 2, 1) := by decide +kernel
theorem dX12_caughtShare_22 : decode cX12_caughtShare 22 = .ok (.ifCond .ne 7, 3) := by decide +kernel
theorem dX12_caughtShare_25 : decode cX12_caughtShare 25 = .ok (.fconst 0, 1) := by decide +kernel
theorem dX12_caughtShare_26 : decode cX12_caughtShare 26 = .ok (.goto 12, 3) := by decide +kernel
theorem dX12_caughtShare_29 : decode cX12_caughtShare 29 = .ok (.aload_n 0, 1) := by decide +kernel
theorem dX12_caughtShare_30 : decode cX12_caughtShare 30 = .ok (.iload_n 1, 1) := by decide +kernel
theorem dX12_caughtShare_31 : decode cX12_caughtShare 31 = .ok (.invokevirtual 346, 3) := by decide +kernel
theorem dX12_caughtShare_34 : decode cX12_caughtShare 34 = .ok (.i2f, 1) := by decide +kernel
theorem dX12_caughtShare_35 : decode cX12_caughtShare 35 = .ok (.iload_n 2, 1) := by decide +kernel
theorem dX12_caughtShare_36 : decode cX12_caughtShare 36 = .ok (.i2f, 1) := by decide +kernel
theorem dX12_caughtShare_37 : decode cX12_caughtShare 37 = .ok (.fdiv, 1) := by decide +kernel
theorem dX12_caughtShare_38 : decode cX12_caughtShare 38 = .ok (.freturn, 1) := by decide +kernel
theorem rX12_caughtShare_0 {G : kz_G} {d : Nat} {Qr : Option Value → kz_M → Prop} {Qx : String → kz_M → Prop} {a0 : Nat} {p1 : Int32}  {M : kz_M} (h : ∃ fs1, (M).1 a0 = some (.inl (11, fs1)) ∧ 9 < fs1.length ∧ ((∃ fs13, ((kz_up M a0 (.inl (11, fs1.set 9 (.int 0))))).1 a0 = some (.inl (11, fs13))) ∧ kz_C G (d + 3) 0 0 mX12_noWriter [.ref a0, .int p1] (kz_up M a0 (.inl (11, fs1.set 9 (.int 0)))) (fun v M2 => ∃ r3 : Int32, v = some (.int r3) ∧ ((r3 = 0 → (∃ fs12, (M2).1 a0 = some (.inl (11, fs12))) ∧ kz_C G (d + 3) 0 0 mX12_linesInAll [.ref a0, .int p1] M2 (fun v M5 => ∃ r6 : Int32, v = some (.int r6) ∧ ((¬ r6 = 0 → (∃ fs11, (M5).1 a0 = some (.inl (11, fs11))) ∧ kz_C G (d + 3) 0 0 mX12_caughtOf [.ref a0, .int p1] M5 (fun v M8 => ∃ r9 : Int32, v = some (.int r9) ∧ (vf_n32 (FP.fdiv (FP.i2f r9) (FP.i2f r6)) ∧ (Qr (some (.float (FP.fdiv (FP.i2f r9) (FP.i2f r6)))) M8))) Qx) ∧ (r6 = 0 → Qr (some (.float FP.fconst0)) M5))) Qx) ∧ (¬ r3 = 0 → Qr (some (.float FP.fconst0)) M2))) Qx)) : kz_C G (d + 4) 0 0 mX12_caughtShare [.ref a0, .int p1] M Qr Qx := by
  refine kz_enter (n := 1) kmX12_caughtShare.1 (Nat.le_of_ble_eq_true rfl) (ls := [(0, .ref a0), (1, .int p1)]) rfl ?_
  refine kz_aload_n (pc := 0) 0 (v := .ref a0) (i := 0) rfl rfl rfl dX12_caughtShare_0 ?_
  refine kz_iconst (pc := 1) (v := 0) (by decide) dX12_caughtShare_1 ?_
  obtain ⟨fs1, hM, hlen, h⟩ := h
  refine kz_putf (pc := 2) (k := 9) kcX12 hM (by decide) hlen kw_1387 rfl rfl rfl dX12_caughtShare_2 ?_
  refine kz_aload_n (pc := 5) 0 (v := .ref a0) (i := 0) rfl rfl rfl dX12_caughtShare_5 ?_
  refine kz_iload_n (pc := 6) 1 (i := 1) rfl rfl dX12_caughtShare_6 ?_
  obtain ⟨⟨fs13, he⟩, h⟩ := h
  refine kz_callV (pc := 7) (μ' := mX12_noWriter) (ci := 11) (q := (RX12, TX12, 32)) (b := a0) (d' := d + 3) (mc' := 0) (ms' := 0) (As := [.int p1]) (st := []) (c := 0) (sl := 0) kmX12_noWriter kw_1665 (by omega) rfl (Nat.le_of_ble_eq_true rfl) he rfl rfl (Nat.le_refl _) (Nat.le_refl _) dX12_caughtShare_7 (fun E M9 hx => kz_Tout rfl (Nat.le_refl _) (Nat.le_refl _) hx) (kz_Cmono (fun v M2 h => ?_) (fun _ _ h => h) h)
  obtain ⟨r3, rfl, h⟩ := h
  show kz_Z G (d + 4) 0 0 mX12_caughtShare Qr Qx 10 [(0, .ref a0), (1, .int p1)] [.int r3] M2 0 0
  refine kz_if_eq (pc := 10) (tgt := 15) (by decide) dX12_caughtShare_10 (fun hb => ?_) (fun hb => ?_)
  · replace h := h.1 hb
    refine kz_aload_n (pc := 15) 0 (v := .ref a0) (i := 0) rfl rfl rfl dX12_caughtShare_15 ?_
    refine kz_iload_n (pc := 16) 1 (i := 1) rfl rfl dX12_caughtShare_16 ?_
    obtain ⟨⟨fs12, he⟩, h⟩ := h
    refine kz_callV (pc := 17) (μ' := mX12_linesInAll) (ci := 11) (q := (RX12, TX12, 32)) (b := a0) (d' := d + 3) (mc' := 0) (ms' := 0) (As := [.int p1]) (st := []) (c := 0) (sl := 0) kmX12_linesInAll kw_1612 (by omega) rfl (Nat.le_of_ble_eq_true rfl) he rfl rfl (Nat.le_refl _) (Nat.le_refl _) dX12_caughtShare_17 (fun E M9 hx => kz_Tout rfl (Nat.le_refl _) (Nat.le_refl _) hx) (kz_Cmono (fun v M5 h => ?_) (fun _ _ h => h) h)
    obtain ⟨r6, rfl, h⟩ := h
    show kz_Z G (d + 4) 0 0 mX12_caughtShare Qr Qx 20 [(0, .ref a0), (1, .int p1)] [.int r6] M5 0 0
    refine kz_istore_n (pc := 20) (i := 2) (ls' := [(0, .ref a0), (1, .int p1)]) rfl (by decide) rfl dX12_caughtShare_20 ?_
    refine kz_iload_n (pc := 21) 0 (i := 2) rfl rfl dX12_caughtShare_21 ?_
    refine kz_if_ne (pc := 22) (tgt := 29) (by decide) dX12_caughtShare_22 (fun hb => ?_) (fun hb => ?_)
    · replace h := h.1 hb
      refine kz_aload_n (pc := 29) 1 (v := .ref a0) (i := 0) rfl rfl rfl dX12_caughtShare_29 ?_
      refine kz_iload_n (pc := 30) 2 (i := 1) rfl rfl dX12_caughtShare_30 ?_
      obtain ⟨⟨fs11, he⟩, h⟩ := h
      refine kz_callV (pc := 31) (μ' := mX12_caughtOf) (ci := 11) (q := (RX12, TX12, 32)) (b := a0) (d' := d + 3) (mc' := 0) (ms' := 0) (As := [.int p1]) (st := []) (c := 0) (sl := 0) kmX12_caughtOf kw_1673 (by omega) rfl (Nat.le_of_ble_eq_true rfl) he rfl rfl (Nat.le_refl _) (Nat.le_refl _) dX12_caughtShare_31 (fun E M9 hx => kz_Tout rfl (Nat.le_refl _) (Nat.le_refl _) hx) (kz_Cmono (fun v M8 h => ?_) (fun _ _ h => h) h)
      obtain ⟨r9, rfl, h⟩ := h
      show kz_Z G (d + 4) 0 0 mX12_caughtShare Qr Qx 34 [(2, .int r6), (0, .ref a0), (1, .int p1)] [.int r9] M8 0 0
      refine kz_i2f (pc := 34) dX12_caughtShare_34 ?_
      refine kz_iload_n (pc := 35) 0 (i := 2) rfl rfl dX12_caughtShare_35 ?_
      refine kz_i2f (pc := 36) dX12_caughtShare_36 ?_
      obtain ⟨hz, h⟩ := h
      refine kz_fdiv (pc := 37) hz dX12_caughtShare_37 ?_
      exact kz_fret (pc := 38) rfl (Nat.le_refl _) (Nat.le_refl _) dX12_caughtShare_38 h
    · replace h := h.2 hb
      refine kz_fconst0 (pc := 25) dX12_caughtShare_25 ?_
      refine kz_goto (pc := 26) (tgt := 38) (by decide) dX12_caughtShare_26 ?_
      exact kz_fret (pc := 38) rfl (Nat.le_refl _) (Nat.le_refl _) dX12_caughtShare_38 h
  · replace h := h.2 hb
    refine kz_fconst0 (pc := 13) dX12_caughtShare_13 ?_
    exact kz_fret (pc := 14) rfl (Nat.le_refl _) (Nat.le_refl _) dX12_caughtShare_14 h
theorem dX12_noMeasure_0 : decode cX12_noMeasure 0 = .ok (.aload_n 0, 1) := by decide +kernel
theorem dX12_noMeasure_1 : decode cX12_noMeasure 1 = .ok (.iload_n 1, 1) := by decide +kernel
theorem dX12_noMeasure_2 : decode cX12_noMeasure 2 = .ok (.bipush 6, 2) := by decide +kernel
theorem dX12_noMeasure_4 : decode cX12_noMeasure 4 = .ok (.bipush 30, 2) := by decide +kernel
theorem dX12_noMeasure_6 : decode cX12_noMeasure 6 = .ok (.invokestatic 67, 3) := by decide +kernel
theorem dX12_noMeasure_9 : decode cX12_noMeasure 9 = .ok (.ifCond .ne 7, 3) := by decide +kernel
theorem dX12_noMeasure_12 : decode cX12_noMeasure 12 = .ok (.iconst 1, 1) := by decide +kernel
theorem dX12_noMeasure_13 : decode cX12_noMeasure 13 = .ok (.goto 4, 3) := by decide +kernel
theorem dX12_noMeasure_16 : decode cX12_noMeasure 16 = .ok (.iconst 0, 1) := by decide +kernel
theorem dX12_noMeasure_17 : decode cX12_noMeasure 17 = .ok (.iconst 2, 1) := by decide +kernel
theorem dX12_noMeasure_18 : decode cX12_noMeasure 18 = .ok (.invokevirtual 310, 3) := by decide +kernel
theorem dX12_noMeasure_21 : decode cX12_noMeasure 21 = .ok (.ireturn, 1) := by decide +kernel
theorem rX12_noMeasure_0 {G : kz_G} {d : Nat} {Qr : Option Value → kz_M → Prop} {Qx : String → kz_M → Prop} {a0 : Nat} {p1 : Int32}  {M : kz_M} (h : kz_C G (d + 0) 0 0 mX12_inRange [.int p1, .int 6, .int 30] M (fun v M1 => ∃ r2 : Int32, v = some (.int r2) ∧ ((¬ r2 = 0 → (∃ fs7, (M1).1 a0 = some (.inl (11, fs7))) ∧ kz_C G (d + 0) 0 0 mX12_fails [.ref a0, .int 0, .int 2] M1 (fun v M4 => ∃ r5 : Int32, v = some (.int r5) ∧ (narrow .boolean (.int r5) = .int r5 ∧ Qr (some (.int r5)) M4)) Qx) ∧ (r2 = 0 → (∃ fs11, (M1).1 a0 = some (.inl (11, fs11))) ∧ kz_C G (d + 0) 0 0 mX12_fails [.ref a0, .int 1, .int 2] M1 (fun v M8 => ∃ r9 : Int32, v = some (.int r9) ∧ (narrow .boolean (.int r9) = .int r9 ∧ Qr (some (.int r9)) M8)) Qx))) Qx) : kz_C G (d + 1) 0 0 mX12_noMeasure [.ref a0, .int p1] M Qr Qx := by
  refine kz_enter (n := 1) kmX12_noMeasure.1 (Nat.le_of_ble_eq_true rfl) (ls := [(0, .ref a0), (1, .int p1)]) rfl ?_
  refine kz_aload_n (pc := 0) 0 (v := .ref a0) (i := 0) rfl rfl rfl dX12_noMeasure_0 ?_
  refine kz_iload_n (pc := 1) 1 (i := 1) rfl rfl dX12_noMeasure_1 ?_
  refine kz_bipush (pc := 2) (v := 6) (by decide) dX12_noMeasure_2 ?_
  refine kz_bipush (pc := 4) (v := 30) (by decide) dX12_noMeasure_4 ?_
  refine kz_callS (pc := 6) (μ' := mX12_inRange) (d' := d + 0) (mc' := 0) (ms' := 0) (As := [.int p1, .int 6, .int 30]) (st := [.ref a0]) (c := 0) (sl := 0) kmX12_inRange kw_1491 (by omega) rfl (Nat.le_of_ble_eq_true rfl) (Nat.le_refl _) (Nat.le_refl _) dX12_noMeasure_6 (fun E M9 hx => kz_Tout rfl (Nat.le_refl _) (Nat.le_refl _) hx) (kz_Cmono (fun v M1 h => ?_) (fun _ _ h => h) h)
  obtain ⟨r2, rfl, h⟩ := h
  show kz_Z G (d + 1) 0 0 mX12_noMeasure Qr Qx 9 [(0, .ref a0), (1, .int p1)] [.int r2, .ref a0] M1 0 0
  refine kz_if_ne (pc := 9) (tgt := 16) (by decide) dX12_noMeasure_9 (fun hb => ?_) (fun hb => ?_)
  · replace h := h.1 hb
    refine kz_iconst (pc := 16) (v := 0) (by decide) dX12_noMeasure_16 ?_
    refine kz_iconst (pc := 17) (v := 2) (by decide) dX12_noMeasure_17 ?_
    obtain ⟨⟨fs7, he⟩, h⟩ := h
    refine kz_callV (pc := 18) (μ' := mX12_fails) (ci := 11) (q := (RX12, TX12, 32)) (b := a0) (d' := d + 0) (mc' := 0) (ms' := 0) (As := [.int 0, .int 2]) (st := []) (c := 0) (sl := 0) kmX12_fails kw_1653 (by omega) rfl (Nat.le_of_ble_eq_true rfl) he rfl rfl (Nat.le_refl _) (Nat.le_refl _) dX12_noMeasure_18 (fun E M9 hx => kz_Tout rfl (Nat.le_refl _) (Nat.le_refl _) hx) (kz_Cmono (fun v M4 h => ?_) (fun _ _ h => h) h)
    obtain ⟨r5, rfl, h⟩ := h
    show kz_Z G (d + 1) 0 0 mX12_noMeasure Qr Qx 21 [(0, .ref a0), (1, .int p1)] [.int r5] M4 0 0
    exact kz_zret (pc := 21) (ty := .boolean) rfl h.1 (Nat.le_refl _) (Nat.le_refl _) dX12_noMeasure_21 h.2
  · replace h := h.2 hb
    refine kz_iconst (pc := 12) (v := 1) (by decide) dX12_noMeasure_12 ?_
    refine kz_goto (pc := 13) (tgt := 17) (by decide) dX12_noMeasure_13 ?_
    refine kz_iconst (pc := 17) (v := 2) (by decide) dX12_noMeasure_17 ?_
    obtain ⟨⟨fs11, he⟩, h⟩ := h
    refine kz_callV (pc := 18) (μ' := mX12_fails) (ci := 11) (q := (RX12, TX12, 32)) (b := a0) (d' := d + 0) (mc' := 0) (ms' := 0) (As := [.int 1, .int 2]) (st := []) (c := 0) (sl := 0) kmX12_fails kw_1653 (by omega) rfl (Nat.le_of_ble_eq_true rfl) he rfl rfl (Nat.le_refl _) (Nat.le_refl _) dX12_noMeasure_18 (fun E M9 hx => kz_Tout rfl (Nat.le_refl _) (Nat.le_refl _) hx) (kz_Cmono (fun v M8 h => ?_) (fun _ _ h => h) h)
    obtain ⟨r9, rfl, h⟩ := h
    show kz_Z G (d + 1) 0 0 mX12_noMeasure Qr Qx 21 [(0, .ref a0), (1, .int p1)] [.int r9] M8 0 0
    exact kz_zret (pc := 21) (ty := .boolean) rfl h.1 (Nat.le_refl _) (Nat.le_refl _) dX12_noMeasure_21 h.2
