/-! The rules of 63.rmodel4: printed by program (wip/whole/rules.py) -/
theorem dX12_linesIf_0 : decode cX12_linesIf 0 = .ok (.aload_n 0, 1) := by decide +kernel
theorem dX12_linesIf_1 : decode cX12_linesIf 1 = .ok (.iconst 0, 1) := by decide +kernel
theorem dX12_linesIf_2 : decode cX12_linesIf 2 = .ok (.putfield 60, 3) := by decide +kernel
theorem dX12_linesIf_5 : decode cX12_linesIf 5 = .ok (.aload_n 0, 1) := by decide +kernel
theorem dX12_linesIf_6 : decode cX12_linesIf 6 = .ok (.iload_n 1, 1) := by decide +kernel
theorem dX12_linesIf_7 : decode cX12_linesIf 7 = .ok (.invokevirtual 314, 3) := by decide +kernel
theorem dX12_linesIf_10 : decode cX12_linesIf 10 = .ok (.ifCond .ne 11, 3) := by decide +kernel
theorem dX12_linesIf_13 : decode cX12_linesIf 13 = .ok (.aload_n 0, 1) := by decide +kernel
theorem dX12_linesIf_14 : decode cX12_linesIf 14 = .ok (.iload_n 2, 1) := by decide +kernel
theorem dX12_linesIf_15 : decode cX12_linesIf 15 = .ok (.invokevirtual 376, 3) := by decide +kernel
theorem dX12_linesIf_18 : decode cX12_linesIf 18 = .ok (.ifCond .eq 5, 3) := by decide +kernel
theorem dX12_linesIf_21 : decode cX12_linesIf 21 = .ok (.iconst 0, 1) := by decide +kernel
theorem dX12_linesIf_22 : decode cX12_linesIf 22 = .ok (.ireturn, 1) := by decide +kernel
theorem dX12_linesIf_23 : decode cX12_linesIf 23 = .ok (.aload_n 0, 1) := by decide +kernel
theorem dX12_linesIf_24 : decode cX12_linesIf 24 = .ok (.iload_n 1, 1) := by decide +kernel
theorem dX12_linesIf_25 : decode cX12_linesIf 25 = .ok (.invokevirtual 379, 3) := by decide +kernel
theorem dX12_linesIf_28 : decode cX12_linesIf 28 = .ok (.aload_n 0, 1) := by decide +kernel
theorem dX12_linesIf_29 : decode cX12_linesIf 29 = .ok (.aload_n 0, 1) := by decide +kernel
theorem dX12_linesIf_30 : decode cX12_linesIf 30 = .ok (.iload_n 1, 1) := by decide +kernel
theorem dX12_linesIf_31 : decode cX12_linesIf 31 = .ok (.iconst 1, 1) := by decide +kernel
theorem dX12_linesIf_32 : decode cX12_linesIf 32 = .ok (.invokevirtual 101, 3) := by decide +kernel
theorem dX12_linesIf_35 : decode cX12_linesIf 35 = .ok (.iload_n 2, 1) := by decide +kernel
theorem dX12_linesIf_36 : decode cX12_linesIf 36 = .ok (.invokevirtual 157, 3) := by decide +kernel
theorem dX12_linesIf_39 : decode cX12_linesIf 39 = .ok (.aload_n 0, 1) := by decide +kernel
theorem dX12_linesIf_40 : decode cX12_linesIf 40 = .ok (.getfield 134, 3) := by decide +kernel
theorem dX12_linesIf_43 : decode cX12_linesIf 43 = .ok (.ireturn, 1) := by decide +kernel
theorem rX12_linesIf_0 {G : kz_G} {d : Nat} {Qr : Option Value → kz_M → Prop} {Qx : String → kz_M → Prop} {a0 : Nat} {p1 : Int32} {p2 : Int32}  {M : kz_M} (h : ∃ fs1, (M).1 a0 = some (.inl (11, fs1)) ∧ 9 < fs1.length ∧ ((∃ fs23, ((kz_up M a0 (.inl (11, fs1.set 9 (.int 0))))).1 a0 = some (.inl (11, fs23))) ∧ kz_C G (d + 2) 0 0 mX12_noWork [.ref a0, .int p1] (kz_up M a0 (.inl (11, fs1.set 9 (.int 0)))) (fun v M2 => ∃ r3 : Int32, v = some (.int r3) ∧ ((¬ r3 = 0 → Qr (some (.int 0)) M2) ∧ (r3 = 0 → (∃ fs22, (M2).1 a0 = some (.inl (11, fs22))) ∧ kz_C G (d + 2) 0 0 mX12_noMeasure [.ref a0, .int p2] M2 (fun v M5 => ∃ r6 : Int32, v = some (.int r6) ∧ ((r6 = 0 → (∃ fs21, (M5).1 a0 = some (.inl (11, fs21))) ∧ kz_C G (d + 2) 0 0 mX12_takes [.ref a0, .int p1] M5 (fun v M8 => v = none ∧ ((∃ fs20, (M8).1 a0 = some (.inl (11, fs20))) ∧ kz_C G (d + 2) 0 0 mX12_of [.ref a0, .int p1, .int 1] M8 (fun v M11 => ∃ r12 : Int32, v = some (.int r12) ∧ ((∃ fs19, (M11).1 a0 = some (.inl (11, fs19))) ∧ kz_C G (d + 2) 0 0 mX12_makes [.ref a0, .int r12, .int p2] M11 (fun v M14 => v = none ∧ (∃ fs17 v18, (M14).1 a0 = some (.inl (11, fs17)) ∧ fs17[13]? = some (.int v18) ∧ (Qr (some (.int v18)) M14))) Qx)) Qx)) Qx) ∧ (¬ r6 = 0 → Qr (some (.int 0)) M5))) Qx))) Qx)) : kz_C G (d + 3) 0 0 mX12_linesIf [.ref a0, .int p1, .int p2] M Qr Qx := by
  refine kz_enter (n := 2) kmX12_linesIf.1 (Nat.le_of_ble_eq_true rfl) (ls := [(0, .ref a0), (1, .int p1), (2, .int p2)]) rfl ?_
  refine kz_aload_n (pc := 0) 0 (v := .ref a0) (i := 0) rfl rfl rfl dX12_linesIf_0 ?_
  refine kz_iconst (pc := 1) (v := 0) (by decide) dX12_linesIf_1 ?_
  obtain ⟨fs1, hM, hlen, h⟩ := h
  refine kz_putf (pc := 2) (k := 9) kcX12 hM (by decide) hlen kw_1387 rfl rfl rfl dX12_linesIf_2 ?_
  refine kz_aload_n (pc := 5) 0 (v := .ref a0) (i := 0) rfl rfl rfl dX12_linesIf_5 ?_
  refine kz_iload_n (pc := 6) 1 (i := 1) rfl rfl dX12_linesIf_6 ?_
  obtain ⟨⟨fs23, he⟩, h⟩ := h
  refine kz_callV (pc := 7) (μ' := mX12_noWork) (ci := 11) (q := (RX12, TX12, 32)) (b := a0) (d' := d + 2) (mc' := 0) (ms' := 0) (As := [.int p1]) (st := []) (c := 0) (sl := 0) kmX12_noWork kw_1713 (by omega) rfl (Nat.le_of_ble_eq_true rfl) he rfl rfl (Nat.le_refl _) (Nat.le_refl _) dX12_linesIf_7 (fun E M9 hx => kz_Tout rfl (Nat.le_refl _) (Nat.le_refl _) hx) (kz_Cmono (fun v M2 h => ?_) (fun _ _ h => h) h)
  obtain ⟨r3, rfl, h⟩ := h
  show kz_Z G (d + 3) 0 0 mX12_linesIf Qr Qx 10 [(0, .ref a0), (1, .int p1), (2, .int p2)] [.int r3] M2 0 0
  refine kz_if_ne (pc := 10) (tgt := 21) (by decide) dX12_linesIf_10 (fun hb => ?_) (fun hb => ?_)
  · replace h := h.1 hb
    refine kz_iconst (pc := 21) (v := 0) (by decide) dX12_linesIf_21 ?_
    exact kz_iret (pc := 22) rfl (Nat.le_refl _) (Nat.le_refl _) dX12_linesIf_22 h
  · replace h := h.2 hb
    refine kz_aload_n (pc := 13) 0 (v := .ref a0) (i := 0) rfl rfl rfl dX12_linesIf_13 ?_
    refine kz_iload_n (pc := 14) 2 (i := 2) rfl rfl dX12_linesIf_14 ?_
    obtain ⟨⟨fs22, he⟩, h⟩ := h
    refine kz_callV (pc := 15) (μ' := mX12_noMeasure) (ci := 11) (q := (RX12, TX12, 32)) (b := a0) (d' := d + 2) (mc' := 0) (ms' := 0) (As := [.int p2]) (st := []) (c := 0) (sl := 0) kmX12_noMeasure kw_1816 (by omega) rfl (Nat.le_of_ble_eq_true rfl) he rfl rfl (Nat.le_refl _) (Nat.le_refl _) dX12_linesIf_15 (fun E M9 hx => kz_Tout rfl (Nat.le_refl _) (Nat.le_refl _) hx) (kz_Cmono (fun v M5 h => ?_) (fun _ _ h => h) h)
    obtain ⟨r6, rfl, h⟩ := h
    show kz_Z G (d + 3) 0 0 mX12_linesIf Qr Qx 18 [(0, .ref a0), (1, .int p1), (2, .int p2)] [.int r6] M5 0 0
    refine kz_if_eq (pc := 18) (tgt := 23) (by decide) dX12_linesIf_18 (fun hb => ?_) (fun hb => ?_)
    · replace h := h.1 hb
      refine kz_aload_n (pc := 23) 0 (v := .ref a0) (i := 0) rfl rfl rfl dX12_linesIf_23 ?_
      refine kz_iload_n (pc := 24) 1 (i := 1) rfl rfl dX12_linesIf_24 ?_
      obtain ⟨⟨fs21, he⟩, h⟩ := h
      refine kz_callV (pc := 25) (μ' := mX12_takes) (ci := 11) (q := (RX12, TX12, 32)) (b := a0) (d' := d + 2) (mc' := 0) (ms' := 0) (As := [.int p1]) (st := []) (c := 0) (sl := 0) kmX12_takes kw_1820 (by omega) rfl (Nat.le_of_ble_eq_true rfl) he rfl rfl (Nat.le_refl _) (Nat.le_refl _) dX12_linesIf_25 (fun E M9 hx => kz_Tout rfl (Nat.le_refl _) (Nat.le_refl _) hx) (kz_Cmono (fun v M8 h => ?_) (fun _ _ h => h) h)
      obtain ⟨rfl, h⟩ := h
      show kz_Z G (d + 3) 0 0 mX12_linesIf Qr Qx 28 [(0, .ref a0), (1, .int p1), (2, .int p2)] [] M8 0 0
      refine kz_aload_n (pc := 28) 0 (v := .ref a0) (i := 0) rfl rfl rfl dX12_linesIf_28 ?_
      refine kz_aload_n (pc := 29) 0 (v := .ref a0) (i := 0) rfl rfl rfl dX12_linesIf_29 ?_
      refine kz_iload_n (pc := 30) 1 (i := 1) rfl rfl dX12_linesIf_30 ?_
      refine kz_iconst (pc := 31) (v := 1) (by decide) dX12_linesIf_31 ?_
      obtain ⟨⟨fs20, he⟩, h⟩ := h
      refine kz_callV (pc := 32) (μ' := mX12_of) (ci := 11) (q := (RX12, TX12, 32)) (b := a0) (d' := d + 2) (mc' := 0) (ms' := 0) (As := [.int p1, .int 1]) (st := [.ref a0]) (c := 0) (sl := 0) kmX12_of kw_1620 (by omega) rfl (Nat.le_of_ble_eq_true rfl) he rfl rfl (Nat.le_refl _) (Nat.le_refl _) dX12_linesIf_32 (fun E M9 hx => kz_Tout rfl (Nat.le_refl _) (Nat.le_refl _) hx) (kz_Cmono (fun v M11 h => ?_) (fun _ _ h => h) h)
      obtain ⟨r12, rfl, h⟩ := h
      show kz_Z G (d + 3) 0 0 mX12_linesIf Qr Qx 35 [(0, .ref a0), (1, .int p1), (2, .int p2)] [.int r12, .ref a0] M11 0 0
      refine kz_iload_n (pc := 35) 2 (i := 2) rfl rfl dX12_linesIf_35 ?_
      obtain ⟨⟨fs19, he⟩, h⟩ := h
      refine kz_callV (pc := 36) (μ' := mX12_makes) (ci := 11) (q := (RX12, TX12, 32)) (b := a0) (d' := d + 2) (mc' := 0) (ms' := 0) (As := [.int r12, .int p2]) (st := []) (c := 0) (sl := 0) kmX12_makes kw_1827 (by omega) rfl (Nat.le_of_ble_eq_true rfl) he rfl rfl (Nat.le_refl _) (Nat.le_refl _) dX12_linesIf_36 (fun E M9 hx => kz_Tout rfl (Nat.le_refl _) (Nat.le_refl _) hx) (kz_Cmono (fun v M14 h => ?_) (fun _ _ h => h) h)
      obtain ⟨rfl, h⟩ := h
      show kz_Z G (d + 3) 0 0 mX12_linesIf Qr Qx 39 [(0, .ref a0), (1, .int p1), (2, .int p2)] [] M14 0 0
      refine kz_aload_n (pc := 39) 0 (v := .ref a0) (i := 0) rfl rfl rfl dX12_linesIf_39 ?_
      obtain ⟨fs17, v18, hM, hv, h⟩ := h
      refine kz_getf (pc := 40) (k := 13) kcX12 hM hv (by decide) kw_1391 dX12_linesIf_40 ?_
      exact kz_iret (pc := 43) rfl (Nat.le_refl _) (Nat.le_refl _) dX12_linesIf_43 h
    · replace h := h.2 hb
      refine kz_iconst (pc := 21) (v := 0) (by decide) dX12_linesIf_21 ?_
      exact kz_iret (pc := 22) rfl (Nat.le_refl _) (Nat.le_refl _) dX12_linesIf_22 h
theorem dX12_payIf_0 : decode cX12_payIf 0 = .ok (.aload_n 0, 1) := by decide +kernel
theorem dX12_payIf_1 : decode cX12_payIf 1 = .ok (.iconst 0, 1) := by decide +kernel
theorem dX12_payIf_2 : decode cX12_payIf 2 = .ok (.putfield 60, 3) := by decide +kernel
theorem dX12_payIf_5 : decode cX12_payIf 5 = .ok (.aload_n 0, 1) := by decide +kernel
theorem dX12_payIf_6 : decode cX12_payIf 6 = .ok (.iload_n 1, 1) := by decide +kernel
theorem dX12_payIf_7 : decode cX12_payIf 7 = .ok (.invokevirtual 314, 3) := by decide +kernel
theorem dX12_payIf_10 : decode cX12_payIf 10 = .ok (.ifCond .ne 11, 3) := by decide +kernel
theorem dX12_payIf_13 : decode cX12_payIf 13 = .ok (.aload_n 0, 1) := by decide +kernel
theorem dX12_payIf_14 : decode cX12_payIf 14 = .ok (.iload_n 2, 1) := by decide +kernel
theorem dX12_payIf_15 : decode cX12_payIf 15 = .ok (.invokevirtual 376, 3) := by decide +kernel
theorem dX12_payIf_18 : decode cX12_payIf 18 = .ok (.ifCond .eq 5, 3) := by decide +kernel
theorem dX12_payIf_21 : decode cX12_payIf 21 = .ok (.iconst 0, 1) := by decide +kernel
theorem dX12_payIf_22 : decode cX12_payIf 22 = .ok (.ireturn, 1) := by decide +kernel
theorem dX12_payIf_23 : decode cX12_payIf 23 = .ok (.aload_n 0, 1) := by decide +kernel
theorem dX12_payIf_24 : decode cX12_payIf 24 = .ok (.iload_n 1, 1) := by decide +kernel
theorem dX12_payIf_25 : decode cX12_payIf 25 = .ok (.invokevirtual 379, 3) := by decide +kernel
theorem dX12_payIf_28 : decode cX12_payIf 28 = .ok (.aload_n 0, 1) := by decide +kernel
theorem dX12_payIf_29 : decode cX12_payIf 29 = .ok (.aload_n 0, 1) := by decide +kernel
theorem dX12_payIf_30 : decode cX12_payIf 30 = .ok (.iload_n 1, 1) := by decide +kernel
theorem dX12_payIf_31 : decode cX12_payIf 31 = .ok (.iconst 1, 1) := by decide +kernel
theorem dX12_payIf_32 : decode cX12_payIf 32 = .ok (.invokevirtual 101, 3) := by decide +kernel
theorem dX12_payIf_35 : decode cX12_payIf 35 = .ok (.iload_n 2, 1) := by decide +kernel
theorem dX12_payIf_36 : decode cX12_payIf 36 = .ok (.invokevirtual 157, 3) := by decide +kernel
theorem dX12_payIf_39 : decode cX12_payIf 39 = .ok (.aload_n 0, 1) := by decide +kernel
theorem dX12_payIf_40 : decode cX12_payIf 40 = .ok (.invokevirtual 382, 3) := by decide +kernel
theorem dX12_payIf_43 : decode cX12_payIf 43 = .ok (.ireturn, 1) := by decide +kernel
theorem rX12_payIf_0 {G : kz_G} {d : Nat} {Qr : Option Value → kz_M → Prop} {Qx : String → kz_M → Prop} {a0 : Nat} {p1 : Int32} {p2 : Int32}  {M : kz_M} (h : ∃ fs1, (M).1 a0 = some (.inl (11, fs1)) ∧ 9 < fs1.length ∧ ((∃ fs25, ((kz_up M a0 (.inl (11, fs1.set 9 (.int 0))))).1 a0 = some (.inl (11, fs25))) ∧ kz_C G (d + 2) 0 0 mX12_noWork [.ref a0, .int p1] (kz_up M a0 (.inl (11, fs1.set 9 (.int 0)))) (fun v M2 => ∃ r3 : Int32, v = some (.int r3) ∧ ((¬ r3 = 0 → Qr (some (.int 0)) M2) ∧ (r3 = 0 → (∃ fs24, (M2).1 a0 = some (.inl (11, fs24))) ∧ kz_C G (d + 2) 0 0 mX12_noMeasure [.ref a0, .int p2] M2 (fun v M5 => ∃ r6 : Int32, v = some (.int r6) ∧ ((r6 = 0 → (∃ fs23, (M5).1 a0 = some (.inl (11, fs23))) ∧ kz_C G (d + 2) 0 0 mX12_takes [.ref a0, .int p1] M5 (fun v M8 => v = none ∧ ((∃ fs22, (M8).1 a0 = some (.inl (11, fs22))) ∧ kz_C G (d + 2) 0 0 mX12_of [.ref a0, .int p1, .int 1] M8 (fun v M11 => ∃ r12 : Int32, v = some (.int r12) ∧ ((∃ fs21, (M11).1 a0 = some (.inl (11, fs21))) ∧ kz_C G (d + 2) 0 0 mX12_makes [.ref a0, .int r12, .int p2] M11 (fun v M14 => v = none ∧ ((∃ fs20, (M14).1 a0 = some (.inl (11, fs20))) ∧ kz_C G (d + 2) 0 0 mX12_paidByAll [.ref a0] M14 (fun v M17 => ∃ r18 : Int32, v = some (.int r18) ∧ (Qr (some (.int r18)) M17)) Qx)) Qx)) Qx)) Qx) ∧ (¬ r6 = 0 → Qr (some (.int 0)) M5))) Qx))) Qx)) : kz_C G (d + 3) 0 0 mX12_payIf [.ref a0, .int p1, .int p2] M Qr Qx := by
  refine kz_enter (n := 2) kmX12_payIf.1 (Nat.le_of_ble_eq_true rfl) (ls := [(0, .ref a0), (1, .int p1), (2, .int p2)]) rfl ?_
  refine kz_aload_n (pc := 0) 0 (v := .ref a0) (i := 0) rfl rfl rfl dX12_payIf_0 ?_
  refine kz_iconst (pc := 1) (v := 0) (by decide) dX12_payIf_1 ?_
  obtain ⟨fs1, hM, hlen, h⟩ := h
  refine kz_putf (pc := 2) (k := 9) kcX12 hM (by decide) hlen kw_1387 rfl rfl rfl dX12_payIf_2 ?_
  refine kz_aload_n (pc := 5) 0 (v := .ref a0) (i := 0) rfl rfl rfl dX12_payIf_5 ?_
  refine kz_iload_n (pc := 6) 1 (i := 1) rfl rfl dX12_payIf_6 ?_
  obtain ⟨⟨fs25, he⟩, h⟩ := h
  refine kz_callV (pc := 7) (μ' := mX12_noWork) (ci := 11) (q := (RX12, TX12, 32)) (b := a0) (d' := d + 2) (mc' := 0) (ms' := 0) (As := [.int p1]) (st := []) (c := 0) (sl := 0) kmX12_noWork kw_1713 (by omega) rfl (Nat.le_of_ble_eq_true rfl) he rfl rfl (Nat.le_refl _) (Nat.le_refl _) dX12_payIf_7 (fun E M9 hx => kz_Tout rfl (Nat.le_refl _) (Nat.le_refl _) hx) (kz_Cmono (fun v M2 h => ?_) (fun _ _ h => h) h)
  obtain ⟨r3, rfl, h⟩ := h
  show kz_Z G (d + 3) 0 0 mX12_payIf Qr Qx 10 [(0, .ref a0), (1, .int p1), (2, .int p2)] [.int r3] M2 0 0
  refine kz_if_ne (pc := 10) (tgt := 21) (by decide) dX12_payIf_10 (fun hb => ?_) (fun hb => ?_)
  · replace h := h.1 hb
    refine kz_iconst (pc := 21) (v := 0) (by decide) dX12_payIf_21 ?_
    exact kz_iret (pc := 22) rfl (Nat.le_refl _) (Nat.le_refl _) dX12_payIf_22 h
  · replace h := h.2 hb
    refine kz_aload_n (pc := 13) 0 (v := .ref a0) (i := 0) rfl rfl rfl dX12_payIf_13 ?_
    refine kz_iload_n (pc := 14) 2 (i := 2) rfl rfl dX12_payIf_14 ?_
    obtain ⟨⟨fs24, he⟩, h⟩ := h
    refine kz_callV (pc := 15) (μ' := mX12_noMeasure) (ci := 11) (q := (RX12, TX12, 32)) (b := a0) (d' := d + 2) (mc' := 0) (ms' := 0) (As := [.int p2]) (st := []) (c := 0) (sl := 0) kmX12_noMeasure kw_1816 (by omega) rfl (Nat.le_of_ble_eq_true rfl) he rfl rfl (Nat.le_refl _) (Nat.le_refl _) dX12_payIf_15 (fun E M9 hx => kz_Tout rfl (Nat.le_refl _) (Nat.le_refl _) hx) (kz_Cmono (fun v M5 h => ?_) (fun _ _ h => h) h)
    obtain ⟨r6, rfl, h⟩ := h
    show kz_Z G (d + 3) 0 0 mX12_payIf Qr Qx 18 [(0, .ref a0), (1, .int p1), (2, .int p2)] [.int r6] M5 0 0
    refine kz_if_eq (pc := 18) (tgt := 23) (by decide) dX12_payIf_18 (fun hb => ?_) (fun hb => ?_)
    · replace h := h.1 hb
      refine kz_aload_n (pc := 23) 0 (v := .ref a0) (i := 0) rfl rfl rfl dX12_payIf_23 ?_
      refine kz_iload_n (pc := 24) 1 (i := 1) rfl rfl dX12_payIf_24 ?_
      obtain ⟨⟨fs23, he⟩, h⟩ := h
      refine kz_callV (pc := 25) (μ' := mX12_takes) (ci := 11) (q := (RX12, TX12, 32)) (b := a0) (d' := d + 2) (mc' := 0) (ms' := 0) (As := [.int p1]) (st := []) (c := 0) (sl := 0) kmX12_takes kw_1820 (by omega) rfl (Nat.le_of_ble_eq_true rfl) he rfl rfl (Nat.le_refl _) (Nat.le_refl _) dX12_payIf_25 (fun E M9 hx => kz_Tout rfl (Nat.le_refl _) (Nat.le_refl _) hx) (kz_Cmono (fun v M8 h => ?_) (fun _ _ h => h) h)
      obtain ⟨rfl, h⟩ := h
      show kz_Z G (d + 3) 0 0 mX12_payIf Qr Qx 28 [(0, .ref a0), (1, .int p1), (2, .int p2)] [] M8 0 0
      refine kz_aload_n (pc := 28) 0 (v := .ref a0) (i := 0) rfl rfl rfl dX12_payIf_28 ?_
      refine kz_aload_n (pc := 29) 0 (v := .ref a0) (i := 0) rfl rfl rfl dX12_payIf_29 ?_
      refine kz_iload_n (pc := 30) 1 (i := 1) rfl rfl dX12_payIf_30 ?_
      refine kz_iconst (pc := 31) (v := 1) (by decide) dX12_payIf_31 ?_
      obtain ⟨⟨fs22, he⟩, h⟩ := h
      refine kz_callV (pc := 32) (μ' := mX12_of) (ci := 11) (q := (RX12, TX12, 32)) (b := a0) (d' := d + 2) (mc' := 0) (ms' := 0) (As := [.int p1, .int 1]) (st := [.ref a0]) (c := 0) (sl := 0) kmX12_of kw_1620 (by omega) rfl (Nat.le_of_ble_eq_true rfl) he rfl rfl (Nat.le_refl _) (Nat.le_refl _) dX12_payIf_32 (fun E M9 hx => kz_Tout rfl (Nat.le_refl _) (Nat.le_refl _) hx) (kz_Cmono (fun v M11 h => ?_) (fun _ _ h => h) h)
      obtain ⟨r12, rfl, h⟩ := h
      show kz_Z G (d + 3) 0 0 mX12_payIf Qr Qx 35 [(0, .ref a0), (1, .int p1), (2, .int p2)] [.int r12, .ref a0] M11 0 0
      refine kz_iload_n (pc := 35) 2 (i := 2) rfl rfl dX12_payIf_35 ?_
      obtain ⟨⟨fs21, he⟩, h⟩ := h
      refine kz_callV (pc := 36) (μ' := mX12_makes) (ci := 11) (q := (RX12, TX12, 32)) (b := a0) (d' := d + 2) (mc' := 0) (ms' := 0) (As := [.int r12, .int p2]) (st := []) (c := 0) (sl := 0) kmX12_makes kw_1827 (by omega) rfl (Nat.le_of_ble_eq_true rfl) he rfl rfl (Nat.le_refl _) (Nat.le_refl _) dX12_payIf_36 (fun E M9 hx => kz_Tout rfl (Nat.le_refl _) (Nat.le_refl _) hx) (kz_Cmono (fun v M14 h => ?_) (fun _ _ h => h) h)
      obtain ⟨rfl, h⟩ := h
      show kz_Z G (d + 3) 0 0 mX12_payIf Qr Qx 39 [(0, .ref a0), (1, .int p1), (2, .int p2)] [] M14 0 0
      refine kz_aload_n (pc := 39) 0 (v := .ref a0) (i := 0) rfl rfl rfl dX12_payIf_39 ?_
      obtain ⟨⟨fs20, he⟩, h⟩ := h
      refine kz_callV (pc := 40) (μ' := mX12_paidByAll) (ci := 11) (q := (RX12, TX12, 32)) (b := a0) (d' := d + 2) (mc' := 0) (ms' := 0) (As := []) (st := []) (c := 0) (sl := 0) kmX12_paidByAll kw_1839 (by omega) rfl (Nat.le_of_ble_eq_true rfl) he rfl rfl (Nat.le_refl _) (Nat.le_refl _) dX12_payIf_40 (fun E M9 hx => kz_Tout rfl (Nat.le_refl _) (Nat.le_refl _) hx) (kz_Cmono (fun v M17 h => ?_) (fun _ _ h => h) h)
      obtain ⟨r18, rfl, h⟩ := h
      show kz_Z G (d + 3) 0 0 mX12_payIf Qr Qx 43 [(0, .ref a0), (1, .int p1), (2, .int p2)] [.int r18] M17 0 0
      exact kz_iret (pc := 43) rfl (Nat.le_refl _) (Nat.le_refl _) dX12_payIf_43 h
    · replace h := h.2 hb
      refine kz_iconst (pc := 21) (v := 0) (by decide) dX12_payIf_21 ?_
      exact kz_iret (pc := 22) rfl (Nat.le_refl _) (Nat.le_refl _) dX12_payIf_22 h
theorem dX12_bestMeasure_0 : decode cX12_bestMeasure 0 = .ok (.aload_n 0, 1) := by decide +kernel
theorem dX12_bestMeasure_1 : decode cX12_bestMeasure 1 = .ok (.iconst 0, 1) := by decide +kernel
theorem dX12_bestMeasure_2 : decode cX12_bestMeasure 2 = .ok (.putfield 60, 3) := by decide +kernel
theorem dX12_bestMeasure_5 : decode cX12_bestMeasure 5 = .ok (.aload_n 0, 1) := by decide +kernel
theorem dX12_bestMeasure_6 : decode cX12_bestMeasure 6 = .ok (.iload_n 1, 1) := by decide +kernel
theorem dX12_bestMeasure_7 : decode cX12_bestMeasure 7 = .ok (.invokevirtual 314, 3) := by decide +kernel
theorem dX12_bestMeasure_10 : decode cX12_bestMeasure 10 = .ok (.ifCond .eq 5, 3) := by decide +kernel
theorem dX12_bestMeasure_13 : decode cX12_bestMeasure 13 = .ok (.iconst 0, 1) := by decide +kernel
theorem dX12_bestMeasure_14 : decode cX12_bestMeasure 14 = .ok (.ireturn, 1) := by decide +kernel
theorem dX12_bestMeasure_15 : decode cX12_bestMeasure 15 = .ok (.aload_n 0, 1) := by decide +kernel
theorem dX12_bestMeasure_16 : decode cX12_bestMeasure 16 = .ok (.iload_n 1, 1) := by decide +kernel
theorem dX12_bestMeasure_17 : decode cX12_bestMeasure 17 = .ok (.invokevirtual 379, 3) := by decide +kernel
theorem dX12_bestMeasure_20 : decode cX12_bestMeasure 20 = .ok (.iconst (-1), 1) := by decide +kernel
theorem dX12_bestMeasure_21 : decode cX12_bestMeasure 21 = .ok (.istore_n 2, 1) := by decide +kernel
theorem dX12_bestMeasure_22 : decode cX12_bestMeasure 22 = .ok (.iconst (-1), 1) := by decide +kernel
theorem dX12_bestMeasure_23 : decode cX12_bestMeasure 23 = .ok (.istore_n 3, 1) := by decide +kernel
theorem dX12_bestMeasure_24 : decode cX12_bestMeasure 24 = .ok (.bipush 6, 2) := by decide +kernel
theorem dX12_bestMeasure_26 : decode cX12_bestMeasure 26 = .ok (.istore 4, 2) := by decide +kernel
theorem dX12_bestMeasure_28 : decode cX12_bestMeasure 28 = .ok (.iload 4, 2) := by decide +kernel
theorem dX12_bestMeasure_30 : decode cX12_bestMeasure 30 = .ok (.bipush 30, 2) := by decide +kernel
theorem dX12_bestMeasure_32 : decode cX12_bestMeasure 32 = .ok (.if_icmp .gt 40, 3) := by decide +kernel
theorem dX12_bestMeasure_35 : decode cX12_bestMeasure 35 = .ok (.aload_n 0, 1) := by decide +kernel
theorem dX12_bestMeasure_36 : decode cX12_bestMeasure 36 = .ok (.aload_n 0, 1) := by decide +kernel
theorem dX12_bestMeasure_37 : decode cX12_bestMeasure 37 = .ok (.iload_n 1, 1) := by decide +kernel
theorem dX12_bestMeasure_38 : decode cX12_bestMeasure 38 = .ok (.iconst 1, 1) := by decide +kernel
theorem dX12_bestMeasure_39 : decode cX12_bestMeasure 39 = .ok (.invokevirtual 101, 3) := by decide +kernel
theorem dX12_bestMeasure_42 : decode cX12_bestMeasure 42 = .ok (.iload 4, 2) := by decide +kernel
theorem dX12_bestMeasure_44 : decode cX12_bestMeasure 44 = .ok (.invokevirtual 157, 3) := by decide +kernel
theorem dX12_bestMeasure_47 : decode cX12_bestMeasure 47 = .ok (.aload_n 0, 1) := by decide +kernel
theorem dX12_bestMeasure_48 : decode cX12_bestMeasure 48 = .ok (.invokevirtual 382, 3) := by decide +kernel
theorem dX12_bestMeasure_51 : decode cX12_bestMeasure 51 = .ok (.iload_n 3, 1) := by decide +kernel
theorem dX12_bestMeasure_52 : decode cX12_bestMeasure 52 = .ok (.if_icmp .gt 6, 3) := by decide +kernel
theorem dX12_bestMeasure_55 : decode cX12_bestMeasure 55 = .ok (.goto 11, 3) := by decide +kernel
theorem dX12_bestMeasure_58 : decode cX12_bestMeasure 58 = .ok (.iload 4, 2) := by decide +kernel
theorem dX12_bestMeasure_60 : decode cX12_bestMeasure 60 = .ok (.istore_n 2, 1) := by decide +kernel
theorem dX12_bestMeasure_61 : decode cX12_bestMeasure 61 = .ok (.aload_n 0, 1) := by decide +kernel
theorem dX12_bestMeasure_62 : decode cX12_bestMeasure 62 = .ok (.invokevirtual 382, 3) := by decide +kernel
theorem dX12_bestMeasure_65 : decode cX12_bestMeasure 65 = .ok (.istore_n 3, 1) := by decide +kernel
theorem dX12_bestMeasure_66 : decode cX12_bestMeasure 66 = .ok (.iinc 4 1, 3) := by decide +kernel
theorem dX12_bestMeasure_69 : decode cX12_bestMeasure 69 = .ok (.goto (-41), 3) := by decide +kernel
theorem dX12_bestMeasure_72 : decode cX12_bestMeasure 72 = .ok (.iload_n 2, 1) := by decide +kernel
theorem dX12_bestMeasure_73 : decode cX12_bestMeasure 73 = .ok (.ireturn, 1) := by decide +kernel
def zX12_bestMeasure_28 (G : kz_G) (d : Nat) (Qr : Option Value → kz_M → Prop) (Qx : String → kz_M → Prop) (x0 : Nat) (x1 : Int32) (x2 : Int32) (x3 : Int32) (x4 : Int32)  (M : kz_M) : Prop := kz_Z G (d + 3) 0 0 mX12_bestMeasure Qr Qx 28 [(0, .ref x0), (1, .int x1), (2, .int x2), (3, .int x3), (4, .int x4)] [] M 0 0
theorem rX12_bestMeasure_0 {G : kz_G} {d : Nat} {Qr : Option Value → kz_M → Prop} {Qx : String → kz_M → Prop} {a0 : Nat} {p1 : Int32}  {M : kz_M} (h : ∃ fs1, (M).1 a0 = some (.inl (11, fs1)) ∧ 9 < fs1.length ∧ ((∃ fs9, ((kz_up M a0 (.inl (11, fs1.set 9 (.int 0))))).1 a0 = some (.inl (11, fs9))) ∧ kz_C G (d + 2) 0 0 mX12_noWork [.ref a0, .int p1] (kz_up M a0 (.inl (11, fs1.set 9 (.int 0)))) (fun v M2 => ∃ r3 : Int32, v = some (.int r3) ∧ ((r3 = 0 → (∃ fs8, (M2).1 a0 = some (.inl (11, fs8))) ∧ kz_C G (d + 2) 0 0 mX12_takes [.ref a0, .int p1] M2 (fun v M5 => v = none ∧ (zX12_bestMeasure_28 G d Qr Qx a0 p1 ((-1)) ((-1)) 6 M5)) Qx) ∧ (¬ r3 = 0 → Qr (some (.int 0)) M2))) Qx)) : kz_C G (d + 3) 0 0 mX12_bestMeasure [.ref a0, .int p1] M Qr Qx := by
  refine kz_enter (n := 1) kmX12_bestMeasure.1 (Nat.le_of_ble_eq_true rfl) (ls := [(0, .ref a0), (1, .int p1)]) rfl ?_
  refine kz_aload_n (pc := 0) 0 (v := .ref a0) (i := 0) rfl rfl rfl dX12_bestMeasure_0 ?_
  refine kz_iconst (pc := 1) (v := 0) (by decide) dX12_bestMeasure_1 ?_
  obtain ⟨fs1, hM, hlen, h⟩ := h
  refine kz_putf (pc := 2) (k := 9) kcX12 hM (by decide) hlen kw_1387 rfl rfl rfl dX12_bestMeasure_2 ?_
  refine kz_aload_n (pc := 5) 0 (v := .ref a0) (i := 0) rfl rfl rfl dX12_bestMeasure_5 ?_
  refine kz_iload_n (pc := 6) 1 (i := 1) rfl rfl dX12_bestMeasure_6 ?_
  obtain ⟨⟨fs9, he⟩, h⟩ := h
  refine kz_callV (pc := 7) (μ' := mX12_noWork) (ci := 11) (q := (RX12, TX12, 32)) (b := a0) (d' := d + 2) (mc' := 0) (ms' := 0) (As := [.int p1]) (st := []) (c := 0) (sl := 0) kmX12_noWork kw_1713 (by omega) rfl (Nat.le_of_ble_eq_true rfl) he rfl rfl (Nat.le_refl _) (Nat.le_refl _) dX12_bestMeasure_7 (fun E M9 hx => kz_Tout rfl (Nat.le_refl _) (Nat.le_refl _) hx) (kz_Cmono (fun v M2 h => ?_) (fun _ _ h => h) h)
  obtain ⟨r3, rfl, h⟩ := h
  show kz_Z G (d + 3) 0 0 mX12_bestMeasure Qr Qx 10 [(0, .ref a0), (1, .int p1)] [.int r3] M2 0 0
  refine kz_if_eq (pc := 10) (tgt := 15) (by decide) dX12_bestMeasure_10 (fun hb => ?_) (fun hb => ?_)
  · replace h := h.1 hb
    refine kz_aload_n (pc := 15) 0 (v := .ref a0) (i := 0) rfl rfl rfl dX12_bestMeasure_15 ?_
    refine kz_iload_n (pc := 16) 1 (i := 1) rfl rfl dX12_bestMeasure_16 ?_
    obtain ⟨⟨fs8, he⟩, h⟩ := h
    refine kz_callV (pc := 17) (μ' := mX12_takes) (ci := 11) (q := (RX12, TX12, 32)) (b := a0) (d' := d + 2) (mc' := 0) (ms' := 0) (As := [.int p1]) (st := []) (c := 0) (sl := 0) kmX12_takes kw_1820 (by omega) rfl (Nat.le_of_ble_eq_true rfl) he rfl rfl (Nat.le_refl _) (Nat.le_refl _) dX12_bestMeasure_17 (fun E M9 hx => kz_Tout rfl (Nat.le_refl _) (Nat.le_refl _) hx) (kz_Cmono (fun v M5 h => ?_) (fun _ _ h => h) h)
    obtain ⟨rfl, h⟩ := h
    show kz_Z G (d + 3) 0 0 mX12_bestMeasure Qr Qx 20 [(0, .ref a0), (1, .int p1)] [] M5 0 0
    refine kz_iconst (pc := 20) (v := (-1)) (by decide) dX12_bestMeasure_20 ?_
    refine kz_istore_n (pc := 21) (i := 2) (ls' := [(0, .ref a0), (1, .int p1)]) rfl (by decide) rfl dX12_bestMeasure_21 ?_
    refine kz_iconst (pc := 22) (v := (-1)) (by decide) dX12_bestMeasure_22 ?_
    refine kz_istore_n (pc := 23) (i := 3) (ls' := [(2, .int ((-1))), (0, .ref a0), (1, .int p1)]) rfl (by decide) rfl dX12_bestMeasure_23 ?_
    refine kz_bipush (pc := 24) (v := 6) (by decide) dX12_bestMeasure_24 ?_
    refine kz_istore (pc := 26) (i := 4) (ls' := [(3, .int ((-1))), (2, .int ((-1))), (0, .ref a0), (1, .int p1)]) (by decide) rfl dX12_bestMeasure_26 ?_
    refine kz_sub [3, 4, 2, 1, 0] rfl ?_
    exact h
  · replace h := h.2 hb
    refine kz_iconst (pc := 13) (v := 0) (by decide) dX12_bestMeasure_13 ?_
    exact kz_iret (pc := 14) rfl (Nat.le_refl _) (Nat.le_refl _) dX12_bestMeasure_14 h
theorem rX12_bestMeasure_28 {G : kz_G} {d : Nat} {Qr : Option Value → kz_M → Prop} {Qx : String → kz_M → Prop} {x0 : Nat} {x1 : Int32} {x2 : Int32} {x3 : Int32} {x4 : Int32}  {M : kz_M} (h : ((30 : Int32) < x4 → Qr (some (.int x2)) M) ∧ (¬ (30 : Int32) < x4 → (∃ fs16, (M).1 x0 = some (.inl (11, fs16))) ∧ kz_C G (d + 2) 0 0 mX12_of [.ref x0, .int x1, .int 1] M (fun v M1 => ∃ r2 : Int32, v = some (.int r2) ∧ ((∃ fs15, (M1).1 x0 = some (.inl (11, fs15))) ∧ kz_C G (d + 2) 0 0 mX12_makes [.ref x0, .int r2, .int x4] M1 (fun v M4 => v = none ∧ ((∃ fs14, (M4).1 x0 = some (.inl (11, fs14))) ∧ kz_C G (d + 2) 0 0 mX12_paidByAll [.ref x0] M4 (fun v M7 => ∃ r8 : Int32, v = some (.int r8) ∧ ((x3 < r8 → (∃ fs13, (M7).1 x0 = some (.inl (11, fs13))) ∧ kz_C G (d + 2) 0 0 mX12_paidByAll [.ref x0] M7 (fun v M10 => ∃ r11 : Int32, v = some (.int r11) ∧ (zX12_bestMeasure_28 G d Qr Qx x0 x1 x4 r11 (x4 + 1) M10)) Qx) ∧ (¬ x3 < r8 → zX12_bestMeasure_28 G d Qr Qx x0 x1 x2 x3 (x4 + 1) M7))) Qx)) Qx)) Qx)) : zX12_bestMeasure_28 G d Qr Qx x0 x1 x2 x3 x4  M := by
  show kz_Z G (d + 3) 0 0 mX12_bestMeasure Qr Qx 28 [(0, .ref x0), (1, .int x1), (2, .int x2), (3, .int x3), (4, .int x4)] [] M 0 0
  refine kz_iload (pc := 28) 4 (i := 4) rfl dX12_bestMeasure_28 ?_
  refine kz_bipush (pc := 30) (v := 30) (by decide) dX12_bestMeasure_30 ?_
  refine kz_icmp_gt (pc := 32) (tgt := 72) (by decide) dX12_bestMeasure_32 (fun hb => ?_) (fun hb => ?_)
  · replace h := h.1 hb
    refine kz_iload_n (pc := 72) 2 (i := 2) rfl rfl dX12_bestMeasure_72 ?_
    exact kz_iret (pc := 73) rfl (Nat.le_refl _) (Nat.le_refl _) dX12_bestMeasure_73 h
  · replace h := h.2 hb
    refine kz_aload_n (pc := 35) 0 (v := .ref x0) (i := 0) rfl rfl rfl dX12_bestMeasure_35 ?_
    refine kz_aload_n (pc := 36) 0 (v := .ref x0) (i := 0) rfl rfl rfl dX12_bestMeasure_36 ?_
    refine kz_iload_n (pc := 37) 1 (i := 1) rfl rfl dX12_bestMeasure_37 ?_
    refine kz_iconst (pc := 38) (v := 1) (by decide) dX12_bestMeasure_38 ?_
    obtain ⟨⟨fs16, he⟩, h⟩ := h
    refine kz_callV (pc := 39) (μ' := mX12_of) (ci := 11) (q := (RX12, TX12, 32)) (b := x0) (d' := d + 2) (mc' := 0) (ms' := 0) (As := [.int x1, .int 1]) (st := [.ref x0]) (c := 0) (sl := 0) kmX12_of kw_1620 (by omega) rfl (Nat.le_of_ble_eq_true rfl) he rfl rfl (Nat.le_refl _) (Nat.le_refl _) dX12_bestMeasure_39 (fun E M9 hx => kz_Tout rfl (Nat.le_refl _) (Nat.le_refl _) hx) (kz_Cmono (fun v M1 h => ?_) (fun _ _ h => h) h)
    obtain ⟨r2, rfl, h⟩ := h
    show kz_Z G (d + 3) 0 0 mX12_bestMeasure Qr Qx 42 [(0, .ref x0), (1, .int x1), (2, .int x2), (3, .int x3), (4, .int x4)] [.int r2, .ref x0] M1 0 0
    refine kz_iload (pc := 42) 4 (i := 4) rfl dX12_bestMeasure_42 ?_
    obtain ⟨⟨fs15, he⟩, h⟩ := h
    refine kz_callV (pc := 44) (μ' := mX12_makes) (ci := 11) (q := (RX12, TX12, 32)) (b := x0) (d' := d + 2) (mc' := 0) (ms' := 0) (As := [.int r2, .int x4]) (st := []) (c := 0) (sl := 0) kmX12_makes kw_1827 (by omega) rfl (Nat.le_of_ble_eq_true rfl) he rfl rfl (Nat.le_refl _) (Nat.le_refl _) dX12_bestMeasure_44 (fun E M9 hx => kz_Tout rfl (Nat.le_refl _) (Nat.le_refl _) hx) (kz_Cmono (fun v M4 h => ?_) (fun _ _ h => h) h)
    obtain ⟨rfl, h⟩ := h
    show kz_Z G (d + 3) 0 0 mX12_bestMeasure Qr Qx 47 [(0, .ref x0), (1, .int x1), (2, .int x2), (3, .int x3), (4, .int x4)] [] M4 0 0
    refine kz_aload_n (pc := 47) 0 (v := .ref x0) (i := 0) rfl rfl rfl dX12_bestMeasure_47 ?_
    obtain ⟨⟨fs14, he⟩, h⟩ := h
    refine kz_callV (pc := 48) (μ' := mX12_paidByAll) (ci := 11) (q := (RX12, TX12, 32)) (b := x0) (d' := d + 2) (mc' := 0) (ms' := 0) (As := []) (st := []) (c := 0) (sl := 0) kmX12_paidByAll kw_1839 (by omega) rfl (Nat.le_of_ble_eq_true rfl) he rfl rfl (Nat.le_refl _) (Nat.le_refl _) dX12_bestMeasure_48 (fun E M9 hx => kz_Tout rfl (Nat.le_refl _) (Nat.le_refl _) hx) (kz_Cmono (fun v M7 h => ?_) (fun _ _ h => h) h)
    obtain ⟨r8, rfl, h⟩ := h
    show kz_Z G (d + 3) 0 0 mX12_bestMeasure Qr Qx 51 [(0, .ref x0), (1, .int x1), (2, .int x2), (3, .int x3), (4, .int x4)] [.int r8] M7 0 0
    refine kz_iload_n (pc := 51) 3 (i := 3) rfl rfl dX12_bestMeasure_51 ?_
    refine kz_icmp_gt (pc := 52) (tgt := 58) (by decide) dX12_bestMeasure_52 (fun hb => ?_) (fun hb => ?_)
    · replace h := h.1 hb
      refine kz_iload (pc := 58) 4 (i := 4) rfl dX12_bestMeasure_58 ?_
      refine kz_istore_n (pc := 60) (i := 2) (ls' := [(0, .ref x0), (1, .int x1), (3, .int x3), (4, .int x4)]) rfl (by decide) rfl dX12_bestMeasure_60 ?_
      refine kz_aload_n (pc := 61) 1 (v := .ref x0) (i := 0) rfl rfl rfl dX12_bestMeasure_61 ?_
      obtain ⟨⟨fs13, he⟩, h⟩ := h
      refine kz_callV (pc := 62) (μ' := mX12_paidByAll) (ci := 11) (q := (RX12, TX12, 32)) (b := x0) (d' := d + 2) (mc' := 0) (ms' := 0) (As := []) (st := []) (c := 0) (sl := 0) kmX12_paidByAll kw_1839 (by omega) rfl (Nat.le_of_ble_eq_true rfl) he rfl rfl (Nat.le_refl _) (Nat.le_refl _) dX12_bestMeasure_62 (fun E M9 hx => kz_Tout rfl (Nat.le_refl _) (Nat.le_refl _) hx) (kz_Cmono (fun v M10 h => ?_) (fun _ _ h => h) h)
      obtain ⟨r11, rfl, h⟩ := h
      show kz_Z G (d + 3) 0 0 mX12_bestMeasure Qr Qx 65 [(2, .int x4), (0, .ref x0), (1, .int x1), (3, .int x3), (4, .int x4)] [.int r11] M10 0 0
      refine kz_istore_n (pc := 65) (i := 3) (ls' := [(2, .int x4), (0, .ref x0), (1, .int x1), (4, .int x4)]) rfl (by decide) rfl dX12_bestMeasure_65 ?_
      refine kz_iinc (pc := 66) 4 (i := 4) (v := x4 + 1) (ls' := [(3, .int r11), (2, .int x4), (0, .ref x0), (1, .int x1)]) rfl (congrArg (fun z => x4 + z) (by decide)) (by decide) rfl dX12_bestMeasure_66 ?_
      refine kz_goto (pc := 69) (tgt := 28) (by decide) dX12_bestMeasure_69 ?_
      refine kz_sub [3, 4, 2, 1, 0] rfl ?_
      exact h
    · replace h := h.2 hb
      refine kz_goto (pc := 55) (tgt := 66) (by decide) dX12_bestMeasure_55 ?_
      refine kz_iinc (pc := 66) 4 (i := 4) (v := x4 + 1) (ls' := [(0, .ref x0), (1, .int x1), (2, .int x2), (3, .int x3)]) rfl (congrArg (fun z => x4 + z) (by decide)) (by decide) rfl dX12_bestMeasure_66 ?_
      refine kz_goto (pc := 69) (tgt := 28) (by decide) dX12_bestMeasure_69 ?_
      refine kz_sub [1, 2, 3, 4, 0] rfl ?_
      exact h
theorem dX12_noReading_0 : decode cX12_noReading 0 = .ok (.aload_n 0, 1) := by decide +kernel
theorem dX12_noReading_1 : decode cX12_noReading 1 = .ok (.iload_n 1, 1) := by decide +kernel
theorem dX12_noReading_2 : decode cX12_noReading 2 = .ok (.invokevirtual 340, 3) := by decide +kernel
theorem dX12_noReading_5 : decode cX12_noReading 5 = .ok (.ifCond .ne 43, 3) := by decide +kernel
theorem dX12_noReading_8 : decode cX12_noReading 8 = .ok (.aload_n 0, 1) := by decide +kernel
theorem dX12_noReading_9 : decode cX12_noReading 9 = .ok (.iload_n 2, 1) := by decide +kernel
theorem dX12_noReading_10 : decode cX12_noReading 10 = .ok (.iconst 0, 1) := by decide +kernel
theorem dX12_noReading_11 : decode cX12_noReading 11 = .ok (.iconst 2, 1) := by decide +kernel
theorem dX12_noReading_12 : decode cX12_noReading 12 = .ok (.invokestatic 67, 3) := by decide +kernel
theorem dX12_noReading_15 : decode cX12_noReading 15 = .ok (.ifCond .eq 21, 3) := by decide +kernel
theorem dX12_noReading_18 : decode cX12_noReading 18 = .ok (.iload_n 3, 1) := by decide +kernel
theorem dX12_noReading_19 : decode cX12_noReading 19 = .ok (.iconst 0, 1) := by decide +kernel
theorem dX12_noReading_20 : decode cX12_noReading 20 = .ok (.sipush 500, 3) := by decide +kernel
theorem dX12_noReading_23 : decode cX12_noReading 23 = .ok (.aload_n 0, 1) := by decide +kernel
theorem dX12_noReading_24 : decode cX12_noReading 24 = .ok (.getfield 177, 3) := by decide +kernel
theorem dX12_noReading_27 : decode cX12_noReading 27 = .ok (.invokestatic 385, 3) := by decide +kernel
theorem dX12_noReading_30 : decode cX12_noReading 30 = .ok (.invokestatic 67, 3) := by decide +kernel
theorem dX12_noReading_33 : decode cX12_noReading 33 = .ok (.ifCond .ne 7, 3) := by decide +kernel
theorem dX12_noReading_36 : decode cX12_noReading 36 = .ok (.iconst 1, 1) := by decide +kernel
theorem dX12_noReading_37 : decode cX12_noReading 37 = .ok (.goto 4, 3) := by decide +kernel
theorem dX12_noReading_40 : decode cX12_noReading 40 = .ok (.iconst 0, 1) := by decide +kernel
theorem dX12_noReading_41 : decode cX12_noReading 41 = .ok (.iconst 2, 1) := by decide +kernel
theorem dX12_noReading_42 : decode cX12_noReading 42 = .ok (.invokevirtual 310, 3) := by decide +kernel
theorem dX12_noReading_45 : decode cX12_noReading 45 = .ok (.ifCond .eq 7, 3) := by decide +kernel
theorem dX12_noReading_48 : decode cX12_noReading 48 = .ok (.iconst 1, 1) := by decide +kernel
theorem dX12_noReading_49 : decode cX12_noReading 49 = .ok (.goto 4, 3) := by decide +kernel
theorem dX12_noReading_52 : decode cX12_noReading 52 = .ok (.iconst 0, 1) := by decide +kernel
theorem dX12_noReading_53 : decode cX12_noReading 53 = .ok (.ireturn, 1) := by decide +kernel
theorem rX12_noReading_0 {G : kz_G} {d : Nat} {Qr : Option Value → kz_M → Prop} {Qx : String → kz_M → Prop} {a0 : Nat} {p1 : Int32} {p2 : Int32} {p3 : Int32}  {M : kz_M} (h : (∃ fs26, (M).1 a0 = some (.inl (11, fs26))) ∧ kz_C G (d + 1) 0 0 mX12_noWriter [.ref a0, .int p1] M (fun v M1 => ∃ r2 : Int32, v = some (.int r2) ∧ ((¬ r2 = 0 → Qr (some (.int 1)) M1) ∧ (r2 = 0 → kz_C G (d + 1) 0 0 mX12_inRange [.int p2, .int 0, .int 2] M1 (fun v M4 => ∃ r5 : Int32, v = some (.int r5) ∧ ((r5 = 0 → (∃ fs10, (M4).1 a0 = some (.inl (11, fs10))) ∧ kz_C G (d + 1) 0 0 mX12_fails [.ref a0, .int 1, .int 2] M4 (fun v M7 => ∃ r8 : Int32, v = some (.int r8) ∧ ((r8 = 0 → Qr (some (.int 0)) M7) ∧ (¬ r8 = 0 → Qr (some (.int 1)) M7))) Qx) ∧ (¬ r5 = 0 → ∃ fs11 v12, (M4).1 a0 = some (.inl (11, fs11)) ∧ fs11[19]? = some (.int v12) ∧ (kz_C G (d + 1) 0 0 mX12_inRange [.int p3, .int 0, .int (if v12 < 500 then v12 else 500)] M4 (fun v M13 => ∃ r14 : Int32, v = some (.int r14) ∧ ((¬ r14 = 0 → (∃ fs19, (M13).1 a0 = some (.inl (11, fs19))) ∧ kz_C G (d + 1) 0 0 mX12_fails [.ref a0, .int 0, .int 2] M13 (fun v M16 => ∃ r17 : Int32, v = some (.int r17) ∧ ((r17 = 0 → Qr (some (.int 0)) M16) ∧ (¬ r17 = 0 → Qr (some (.int 1)) M16))) Qx) ∧ (r14 = 0 → (∃ fs23, (M13).1 a0 = some (.inl (11, fs23))) ∧ kz_C G (d + 1) 0 0 mX12_fails [.ref a0, .int 1, .int 2] M13 (fun v M20 => ∃ r21 : Int32, v = some (.int r21) ∧ ((r21 = 0 → Qr (some (.int 0)) M20) ∧ (¬ r21 = 0 → Qr (some (.int 1)) M20))) Qx))) Qx)))) Qx))) Qx) : kz_C G (d + 2) 0 0 mX12_noReading [.ref a0, .int p1, .int p2, .int p3] M Qr Qx := by
  refine kz_enter (n := 3) kmX12_noReading.1 (Nat.le_of_ble_eq_true rfl) (ls := [(0, .ref a0), (1, .int p1), (2, .int p2), (3, .int p3)]) rfl ?_
  refine kz_aload_n (pc := 0) 0 (v := .ref a0) (i := 0) rfl rfl rfl dX12_noReading_0 ?_
  refine kz_iload_n (pc := 1) 1 (i := 1) rfl rfl dX12_noReading_1 ?_
  obtain ⟨⟨fs26, he⟩, h⟩ := h
  refine kz_callV (pc := 2) (μ' := mX12_noWriter) (ci := 11) (q := (RX12, TX12, 32)) (b := a0) (d' := d + 1) (mc' := 0) (ms' := 0) (As := [.int p1]) (st := []) (c := 0) (sl := 0) kmX12_noWriter kw_1665 (by omega) rfl (Nat.le_of_ble_eq_true rfl) he rfl rfl (Nat.le_refl _) (Nat.le_refl _) dX12_noReading_2 (fun E M9 hx => kz_Tout rfl (Nat.le_refl _) (Nat.le_refl _) hx) (kz_Cmono (fun v M1 h => ?_) (fun _ _ h => h) h)
  obtain ⟨r2, rfl, h⟩ := h
  show kz_Z G (d + 2) 0 0 mX12_noReading Qr Qx 5 [(0, .ref a0), (1, .int p1), (2, .int p2), (3, .int p3)] [.int r2] M1 0 0
  refine kz_if_ne (pc := 5) (tgt := 48) (by decide) dX12_noReading_5 (fun hb => ?_) (fun hb => ?_)
  · replace h := h.1 hb
    refine kz_iconst (pc := 48) (v := 1) (by decide) dX12_noReading_48 ?_
    refine kz_goto (pc := 49) (tgt := 53) (by decide) dX12_noReading_49 ?_
    exact kz_zret (pc := 53) (ty := .boolean) rfl (by decide) (Nat.le_refl _) (Nat.le_refl _) dX12_noReading_53 h
  · replace h := h.2 hb
    refine kz_aload_n (pc := 8) 0 (v := .ref a0) (i := 0) rfl rfl rfl dX12_noReading_8 ?_
    refine kz_iload_n (pc := 9) 2 (i := 2) rfl rfl dX12_noReading_9 ?_
    refine kz_iconst (pc := 10) (v := 0) (by decide) dX12_noReading_10 ?_
    refine kz_iconst (pc := 11) (v := 2) (by decide) dX12_noReading_11 ?_
    refine kz_callS (pc := 12) (μ' := mX12_inRange) (d' := d + 1) (mc' := 0) (ms' := 0) (As := [.int p2, .int 0, .int 2]) (st := [.ref a0]) (c := 0) (sl := 0) kmX12_inRange kw_1491 (by omega) rfl (Nat.le_of_ble_eq_true rfl) (Nat.le_refl _) (Nat.le_refl _) dX12_noReading_12 (fun E M9 hx => kz_Tout rfl (Nat.le_refl _) (Nat.le_refl _) hx) (kz_Cmono (fun v M4 h => ?_) (fun _ _ h => h) h)
    obtain ⟨r5, rfl, h⟩ := h
    show kz_Z G (d + 2) 0 0 mX12_noReading Qr Qx 15 [(0, .ref a0), (1, .int p1), (2, .int p2), (3, .int p3)] [.int r5, .ref a0] M4 0 0
    refine kz_if_eq (pc := 15) (tgt := 36) (by decide) dX12_noReading_15 (fun hb => ?_) (fun hb => ?_)
    · replace h := h.1 hb
      refine kz_iconst (pc := 36) (v := 1) (by decide) dX12_noReading_36 ?_
      refine kz_goto (pc := 37) (tgt := 41) (by decide) dX12_noReading_37 ?_
      refine kz_iconst (pc := 41) (v := 2) (by decide) dX12_noReading_41 ?_
      obtain ⟨⟨fs10, he⟩, h⟩ := h
      refine kz_callV (pc := 42) (μ' := mX12_fails) (ci := 11) (q := (RX12, TX12, 32)) (b := a0) (d' := d + 1) (mc' := 0) (ms' := 0) (As := [.int 1, .int 2]) (st := []) (c := 0) (sl := 0) kmX12_fails kw_1653 (by omega) rfl (Nat.le_of_ble_eq_true rfl) he rfl rfl (Nat.le_refl _) (Nat.le_refl _) dX12_noReading_42 (fun E M9 hx => kz_Tout rfl (Nat.le_refl _) (Nat.le_refl _) hx) (kz_Cmono (fun v M7 h => ?_) (fun _ _ h => h) h)
      obtain ⟨r8, rfl, h⟩ := h
      show kz_Z G (d + 2) 0 0 mX12_noReading Qr Qx 45 [(0, .ref a0), (1, .int p1), (2, .int p2), (3, .int p3)] [.int r8] M7 0 0
      refine kz_if_eq (pc := 45) (tgt := 52) (by decide) dX12_noReading_45 (fun hb => ?_) (fun hb => ?_)
      · replace h := h.1 hb
        refine kz_iconst (pc := 52) (v := 0) (by decide) dX12_noReading_52 ?_
        exact kz_zret (pc := 53) (ty := .boolean) rfl (by decide) (Nat.le_refl _) (Nat.le_refl _) dX12_noReading_53 h
      · replace h := h.2 hb
        refine kz_iconst (pc := 48) (v := 1) (by decide) dX12_noReading_48 ?_
        refine kz_goto (pc := 49) (tgt := 53) (by decide) dX12_noReading_49 ?_
        exact kz_zret (pc := 53) (ty := .boolean) rfl (by decide) (Nat.le_refl _) (Nat.le_refl _) dX12_noReading_53 h
    · replace h := h.2 hb
      refine kz_iload_n (pc := 18) 3 (i := 3) rfl rfl dX12_noReading_18 ?_
      refine kz_iconst (pc := 19) (v := 0) (by decide) dX12_noReading_19 ?_
      refine kz_sipush (pc := 20) (v := 500) (by decide) dX12_noReading_20 ?_
      refine kz_aload_n (pc := 23) 0 (v := .ref a0) (i := 0) rfl rfl rfl dX12_noReading_23 ?_
      obtain ⟨fs11, v12, hM, hv, h⟩ := h
      refine kz_getf (pc := 24) (k := 19) kcX12 hM hv (by decide) kw_1397 dX12_noReading_24 ?_
      refine kz_mmin (pc := 27) kw_1855 kw_1250 kw_15 kw_1251 (by omega) (Nat.le_of_ble_eq_true rfl) (Nat.le_refl _) (Nat.le_refl _) dX12_noReading_27 ?_
      refine kz_callS (pc := 30) (μ' := mX12_inRange) (d' := d + 1) (mc' := 0) (ms' := 0) (As := [.int p3, .int 0, .int (if v12 < 500 then v12 else 500)]) (st := [.ref a0]) (c := 0) (sl := 0) kmX12_inRange kw_1491 (by omega) rfl (Nat.le_of_ble_eq_true rfl) (Nat.le_refl _) (Nat.le_refl _) dX12_noReading_30 (fun E M9 hx => kz_Tout rfl (Nat.le_refl _) (Nat.le_refl _) hx) (kz_Cmono (fun v M13 h => ?_) (fun _ _ h => h) h)
      obtain ⟨r14, rfl, h⟩ := h
      show kz_Z G (d + 2) 0 0 mX12_noReading Qr Qx 33 [(0, .ref a0), (1, .int p1), (2, .int p2), (3, .int p3)] [.int r14, .ref a0] M13 0 0
      refine kz_if_ne (pc := 33) (tgt := 40) (by decide) dX12_noReading_33 (fun hb => ?_) (fun hb => ?_)
      · replace h := h.1 hb
        refine kz_iconst (pc := 40) (v := 0) (by decide) dX12_noReading_40 ?_
        refine kz_iconst (pc := 41) (v := 2) (by decide) dX12_noReading_41 ?_
        obtain ⟨⟨fs19, he⟩, h⟩ := h
        refine kz_callV (pc := 42) (μ' := mX12_fails) (ci := 11) (q := (RX12, TX12, 32)) (b := a0) (d' := d + 1) (mc' := 0) (ms' := 0) (As := [.int 0, .int 2]) (st := []) (c := 0) (sl := 0) kmX12_fails kw_1653 (by omega) rfl (Nat.le_of_ble_eq_true rfl) he rfl rfl (Nat.le_refl _) (Nat.le_refl _) dX12_noReading_42 (fun E M9 hx => kz_Tout rfl (Nat.le_refl _) (Nat.le_refl _) hx) (kz_Cmono (fun v M16 h => ?_) (fun _ _ h => h) h)
        obtain ⟨r17, rfl, h⟩ := h
        show kz_Z G (d + 2) 0 0 mX12_noReading Qr Qx 45 [(0, .ref a0), (1, .int p1), (2, .int p2), (3, .int p3)] [.int r17] M16 0 0
        refine kz_if_eq (pc := 45) (tgt := 52) (by decide) dX12_noReading_45 (fun hb => ?_) (fun hb => ?_)
        · replace h := h.1 hb
          refine kz_iconst (pc := 52) (v := 0) (by decide) dX12_noReading_52 ?_
          exact kz_zret (pc := 53) (ty := .boolean) rfl (by decide) (Nat.le_refl _) (Nat.le_refl _) dX12_noReading_53 h
        · replace h := h.2 hb
          refine kz_iconst (pc := 48) (v := 1) (by decide) dX12_noReading_48 ?_
          refine kz_goto (pc := 49) (tgt := 53) (by decide) dX12_noReading_49 ?_
          exact kz_zret (pc := 53) (ty := .boolean) rfl (by decide) (Nat.le_refl _) (Nat.le_refl _) dX12_noReading_53 h
      · replace h := h.2 hb
        refine kz_iconst (pc := 36) (v := 1) (by decide) dX12_noReading_36 ?_
        refine kz_goto (pc := 37) (tgt := 41) (by decide) dX12_noReading_37 ?_
        refine kz_iconst (pc := 41) (v := 2) (by decide) dX12_noReading_41 ?_
        obtain ⟨⟨fs23, he⟩, h⟩ := h
        refine kz_callV (pc := 42) (μ' := mX12_fails) (ci := 11) (q := (RX12, TX12, 32)) (b := a0) (d' := d + 1) (mc' := 0) (ms' := 0) (As := [.int 1, .int 2]) (st := []) (c := 0) (sl := 0) kmX12_fails kw_1653 (by omega) rfl (Nat.le_of_ble_eq_true rfl) he rfl rfl (Nat.le_refl _) (Nat.le_refl _) dX12_noReading_42 (fun E M9 hx => kz_Tout rfl (Nat.le_refl _) (Nat.le_refl _) hx) (kz_Cmono (fun v M20 h => ?_) (fun _ _ h => h) h)
        obtain ⟨r21, rfl, h⟩ := h
        show kz_Z G (d + 2) 0 0 mX12_noReading Qr Qx 45 [(0, .ref a0), (1, .int p1), (2, .int p2), (3, .int p3)] [.int r21] M20 0 0
        refine kz_if_eq (pc := 45) (tgt := 52) (by decide) dX12_noReading_45 (fun hb => ?_) (fun hb => ?_)
        · replace h := h.1 hb
          refine kz_iconst (pc := 52) (v := 0) (by decide) dX12_noReading_52 ?_
          exact kz_zret (pc := 53) (ty := .boolean) rfl (by decide) (Nat.le_refl _) (Nat.le_refl _) dX12_noReading_53 h
        · replace h := h.2 hb
          refine kz_iconst (pc := 48) (v := 1) (by decide) dX12_noReading_48 ?_
          refine kz_goto (pc := 49) (tgt := 53) (by decide) dX12_noReading_49 ?_
          exact kz_zret (pc := 53) (ty := .boolean) rfl (by decide) (Nat.le_refl _) (Nat.le_refl _) dX12_noReading_53 h
theorem dX12_wouldCount_0 : decode cX12_wouldCount 0 = .ok (.aload_n 0, 1) := by decide +kernel
theorem dX12_wouldCount_1 : decode cX12_wouldCount 1 = .ok (.iconst 0, 1) := by decide +kernel
theorem dX12_wouldCount_2 : decode cX12_wouldCount 2 = .ok (.putfield 60, 3) := by decide +kernel
theorem dX12_wouldCount_5 : decode cX12_wouldCount 5 = .ok (.aload_n 0, 1) := by decide +kernel
theorem dX12_wouldCount_6 : decode cX12_wouldCount 6 = .ok (.iload_n 1, 1) := by decide +kernel
theorem dX12_wouldCount_7 : decode cX12_wouldCount 7 = .ok (.iload_n 2, 1) := by decide +kernel
theorem dX12_wouldCount_8 : decode cX12_wouldCount 8 = .ok (.iload_n 3, 1) := by decide +kernel
theorem dX12_wouldCount_9 : decode cX12_wouldCount 9 = .ok (.invokevirtual 388, 3) := by decide +kernel
theorem dX12_wouldCount_12 : decode cX12_wouldCount 12 = .ok (.ifCond .eq 5, 3) := by decide +kernel
theorem dX12_wouldCount_15 : decode cX12_wouldCount 15 = .ok (.iconst 0, 1) := by decide +kernel
theorem dX12_wouldCount_16 : decode cX12_wouldCount 16 = .ok (.ireturn, 1) := by decide +kernel
theorem dX12_wouldCount_17 : decode cX12_wouldCount 17 = .ok (.aload_n 0, 1) := by decide +kernel
theorem dX12_wouldCount_18 : decode cX12_wouldCount 18 = .ok (.iload_n 2, 1) := by decide +kernel
theorem dX12_wouldCount_19 : decode cX12_wouldCount 19 = .ok (.iload_n 3, 1) := by decide +kernel
theorem dX12_wouldCount_20 : decode cX12_wouldCount 20 = .ok (.invokevirtual 391, 3) := by decide +kernel
theorem dX12_wouldCount_23 : decode cX12_wouldCount 23 = .ok (.ifCond .ne 5, 3) := by decide +kernel
theorem dX12_wouldCount_26 : decode cX12_wouldCount 26 = .ok (.iconst (-1), 1) := by decide +kernel
theorem dX12_wouldCount_27 : decode cX12_wouldCount 27 = .ok (.ireturn, 1) := by decide +kernel
theorem dX12_wouldCount_28 : decode cX12_wouldCount 28 = .ok (.aload_n 0, 1) := by decide +kernel
theorem dX12_wouldCount_29 : decode cX12_wouldCount 29 = .ok (.iload_n 2, 1) := by decide +kernel
theorem dX12_wouldCount_30 : decode cX12_wouldCount 30 = .ok (.iload_n 1, 1) := by decide +kernel
theorem dX12_wouldCount_31 : decode cX12_wouldCount 31 = .ok (.aload_n 0, 1) := by decide +kernel
theorem dX12_wouldCount_32 : decode cX12_wouldCount 32 = .ok (.getfield 7, 3) := by decide +kernel
theorem dX12_wouldCount_35 : decode cX12_wouldCount 35 = .ok (.iconst 1, 1) := by decide +kernel
theorem dX12_wouldCount_36 : decode cX12_wouldCount 36 = .ok (.iaload, 1) := by decide +kernel
theorem dX12_wouldCount_37 : decode cX12_wouldCount 37 = .ok (.invokevirtual 394, 3) := by decide +kernel
theorem dX12_wouldCount_40 : decode cX12_wouldCount 40 = .ok (.aload_n 0, 1) := by decide +kernel
theorem dX12_wouldCount_41 : decode cX12_wouldCount 41 = .ok (.invokevirtual 170, 3) := by decide +kernel
theorem dX12_wouldCount_44 : decode cX12_wouldCount 44 = .ok (.ireturn, 1) := by decide +kernel
theorem rX12_wouldCount_0 {G : kz_G} {d : Nat} {Qr : Option Value → kz_M → Prop} {Qx : String → kz_M → Prop} {a0 : Nat} {p1 : Int32} {p2 : Int32} {p3 : Int32}  {M : kz_M} (h : ∃ fs1, (M).1 a0 = some (.inl (11, fs1)) ∧ 9 < fs1.length ∧ ((∃ fs21, ((kz_up M a0 (.inl (11, fs1.set 9 (.int 0))))).1 a0 = some (.inl (11, fs21))) ∧ kz_C G (d + 6) 0 0 mX12_noReading [.ref a0, .int p1, .int p2, .int p3] (kz_up M a0 (.inl (11, fs1.set 9 (.int 0)))) (fun v M2 => ∃ r3 : Int32, v = some (.int r3) ∧ ((r3 = 0 → (∃ fs20, (M2).1 a0 = some (.inl (11, fs20))) ∧ kz_C G (d + 6) 0 0 mX12_readsRow [.ref a0, .int p2, .int p3] M2 (fun v M5 => ∃ r6 : Int32, v = some (.int r6) ∧ ((¬ r6 = 0 → ∃ fs8 v9, (M5).1 a0 = some (.inl (11, fs8)) ∧ fs8[0]? = some (.ref v9) ∧ (∃ n10 f11, (M5).1 v9 = some (.inr (.int, n10, .inl f11)) ∧ vp_in (1 : Int32) n10 ∧ ((∃ fs19, (M5).1 a0 = some (.inl (11, fs19))) ∧ kz_C G (d + 6) 0 0 mX12_looks [.ref a0, .int p2, .int p1, .int (f11 (1 : Int32).toNatClampNeg)] M5 (fun v M12 => v = none ∧ ((∃ fs18, (M12).1 a0 = some (.inl (11, fs18))) ∧ kz_C G (d + 6) 0 0 mX12_rowCounting [.ref a0] M12 (fun v M15 => ∃ r16 : Int32, v = some (.int r16) ∧ (Qr (some (.int r16)) M15)) Qx)) Qx))) ∧ (r6 = 0 → Qr (some (.int ((-1)))) M5))) Qx) ∧ (¬ r3 = 0 → Qr (some (.int 0)) M2))) Qx)) : kz_C G (d + 7) 0 0 mX12_wouldCount [.ref a0, .int p1, .int p2, .int p3] M Qr Qx := by
  refine kz_enter (n := 3) kmX12_wouldCount.1 (Nat.le_of_ble_eq_true rfl) (ls := [(0, .ref a0), (1, .int p1), (2, .int p2), (3, .int p3)]) rfl ?_
  refine kz_aload_n (pc := 0) 0 (v := .ref a0) (i := 0) rfl rfl rfl dX12_wouldCount_0 ?_
  refine kz_iconst (pc := 1) (v := 0) (by decide) dX12_wouldCount_1 ?_
  obtain ⟨fs1, hM, hlen, h⟩ := h
  refine kz_putf (pc := 2) (k := 9) kcX12 hM (by decide) hlen kw_1387 rfl rfl rfl dX12_wouldCount_2 ?_
  refine kz_aload_n (pc := 5) 0 (v := .ref a0) (i := 0) rfl rfl rfl dX12_wouldCount_5 ?_
  refine kz_iload_n (pc := 6) 1 (i := 1) rfl rfl dX12_wouldCount_6 ?_
  refine kz_iload_n (pc := 7) 2 (i := 2) rfl rfl dX12_wouldCount_7 ?_
  refine kz_iload_n (pc := 8) 3 (i := 3) rfl rfl dX12_wouldCount_8 ?_
  obtain ⟨⟨fs21, he⟩, h⟩ := h
  refine kz_callV (pc := 9) (μ' := mX12_noReading) (ci := 11) (q := (RX12, TX12, 32)) (b := a0) (d' := d + 6) (mc' := 0) (ms' := 0) (As := [.int p1, .int p2, .int p3]) (st := []) (c := 0) (sl := 0) kmX12_noReading kw_1851 (by omega) rfl (Nat.le_of_ble_eq_true rfl) he rfl rfl (Nat.le_refl _) (Nat.le_refl _) dX12_wouldCount_9 (fun E M9 hx => kz_Tout rfl (Nat.le_refl _) (Nat.le_refl _) hx) (kz_Cmono (fun v M2 h => ?_) (fun _ _ h => h) h)
  obtain ⟨r3, rfl, h⟩ := h
  show kz_Z G (d + 7) 0 0 mX12_wouldCount Qr Qx 12 [(0, .ref a0), (1, .int p1), (2, .int p2), (3, .int p3)] [.int r3] M2 0 0
  refine kz_if_eq (pc := 12) (tgt := 17) (by decide) dX12_wouldCount_12 (fun hb => ?_) (fun hb => ?_)
  · replace h := h.1 hb
    refine kz_aload_n (pc := 17) 0 (v := .ref a0) (i := 0) rfl rfl rfl dX12_wouldCount_17 ?_
    refine kz_iload_n (pc := 18) 2 (i := 2) rfl rfl dX12_wouldCount_18 ?_
    refine kz_iload_n (pc := 19) 3 (i := 3) rfl rfl dX12_wouldCount_19 ?_
    obtain ⟨⟨fs20, he⟩, h⟩ := h
    refine kz_callV (pc := 20) (μ' := mX12_readsRow) (ci := 11) (q := (RX12, TX12, 32)) (b := a0) (d' := d + 6) (mc' := 0) (ms' := 0) (As := [.int p2, .int p3]) (st := []) (c := 0) (sl := 0) kmX12_readsRow kw_1856 (by omega) rfl (Nat.le_of_ble_eq_true rfl) he rfl rfl (Nat.le_refl _) (Nat.le_refl _) dX12_wouldCount_20 (fun E M9 hx => kz_Tout rfl (Nat.le_refl _) (Nat.le_refl _) hx) (kz_Cmono (fun v M5 h => ?_) (fun _ _ h => h) h)
    obtain ⟨r6, rfl, h⟩ := h
    show kz_Z G (d + 7) 0 0 mX12_wouldCount Qr Qx 23 [(0, .ref a0), (1, .int p1), (2, .int p2), (3, .int p3)] [.int r6] M5 0 0
    refine kz_if_ne (pc := 23) (tgt := 28) (by decide) dX12_wouldCount_23 (fun hb => ?_) (fun hb => ?_)
    · replace h := h.1 hb
      refine kz_aload_n (pc := 28) 0 (v := .ref a0) (i := 0) rfl rfl rfl dX12_wouldCount_28 ?_
      refine kz_iload_n (pc := 29) 2 (i := 2) rfl rfl dX12_wouldCount_29 ?_
      refine kz_iload_n (pc := 30) 1 (i := 1) rfl rfl dX12_wouldCount_30 ?_
      refine kz_aload_n (pc := 31) 0 (v := .ref a0) (i := 0) rfl rfl rfl dX12_wouldCount_31 ?_
      obtain ⟨fs8, v9, hM, hv, h⟩ := h
      refine kz_getf (pc := 32) (k := 0) kcX12 hM hv (by decide) kw_1378 dX12_wouldCount_32 ?_
      refine kz_iconst (pc := 35) (v := 1) (by decide) dX12_wouldCount_35 ?_
      obtain ⟨n10, f11, hM, hi, h⟩ := h
      refine kz_iald (pc := 36) hM hi dX12_wouldCount_36 ?_
      obtain ⟨⟨fs19, he⟩, h⟩ := h
      refine kz_callV (pc := 37) (μ' := mX12_looks) (ci := 11) (q := (RX12, TX12, 32)) (b := a0) (d' := d + 6) (mc' := 0) (ms' := 0) (As := [.int p2, .int p1, .int (f11 (1 : Int32).toNatClampNeg)]) (st := []) (c := 0) (sl := 0) kmX12_looks kw_1860 (by omega) rfl (Nat.le_of_ble_eq_true rfl) he rfl rfl (Nat.le_refl _) (Nat.le_refl _) dX12_wouldCount_37 (fun E M9 hx => kz_Tout rfl (Nat.le_refl _) (Nat.le_refl _) hx) (kz_Cmono (fun v M12 h => ?_) (fun _ _ h => h) h)
      obtain ⟨rfl, h⟩ := h
      show kz_Z G (d + 7) 0 0 mX12_wouldCount Qr Qx 40 [(0, .ref a0), (1, .int p1), (2, .int p2), (3, .int p3)] [] M12 0 0
      refine kz_aload_n (pc := 40) 0 (v := .ref a0) (i := 0) rfl rfl rfl dX12_wouldCount_40 ?_
      obtain ⟨⟨fs18, he⟩, h⟩ := h
      refine kz_callV (pc := 41) (μ' := mX12_rowCounting) (ci := 11) (q := (RX12, TX12, 32)) (b := a0) (d' := d + 6) (mc' := 0) (ms' := 0) (As := []) (st := []) (c := 0) (sl := 0) kmX12_rowCounting kw_1888 (by omega) rfl (Nat.le_of_ble_eq_true rfl) he rfl rfl (Nat.le_refl _) (Nat.le_refl _) dX12_wouldCount_41 (fun E M9 hx => kz_Tout rfl (Nat.le_refl _) (Nat.le_refl _) hx) (kz_Cmono (fun v M15 h => ?_) (fun _ _ h => h) h)
      obtain ⟨r16, rfl, h⟩ := h
      show kz_Z G (d + 7) 0 0 mX12_wouldCount Qr Qx 44 [(0, .ref a0), (1, .int p1), (2, .int p2), (3, .int p3)] [.int r16] M15 0 0
      exact kz_iret (pc := 44) rfl (Nat.le_refl _) (Nat.le_refl _) dX12_wouldCount_44 h
    · replace h := h.2 hb
      refine kz_iconst (pc := 26) (v := (-1)) (by decide) dX12_wouldCount_26 ?_
      exact kz_iret (pc := 27) rfl (Nat.le_refl _) (Nat.le_refl _) dX12_wouldCount_27 h
  · replace h := h.2 hb
    refine kz_iconst (pc := 15) (v := 0) (by decide) dX12_wouldCount_15 ?_
    exact kz_iret (pc := 16) rfl (Nat.le_refl _) (Nat.le_refl _) dX12_wouldCount_16 h
theorem dX12_wouldPay_0 : decode cX12_wouldPay 0 = .ok (.aload_n 0, 1) := by decide +kernel
theorem dX12_wouldPay_1 : decode cX12_wouldPay 1 = .ok (.iconst 0, 1) := by decide +kernel
theorem dX12_wouldPay_2 : decode cX12_wouldPay 2 = .ok (.putfield 60, 3) := by decide +kernel
theorem dX12_wouldPay_5 : decode cX12_wouldPay 5 = .ok (.aload_n 0, 1) := by decide +kernel
theorem dX12_wouldPay_6 : decode cX12_wouldPay 6 = .ok (.iload_n 1, 1) := by decide +kernel
theorem dX12_wouldPay_7 : decode cX12_wouldPay 7 = .ok (.iload_n 2, 1) := by decide +kernel
theorem dX12_wouldPay_8 : decode cX12_wouldPay 8 = .ok (.iload_n 3, 1) := by decide +kernel
theorem dX12_wouldPay_9 : decode cX12_wouldPay 9 = .ok (.invokevirtual 388, 3) := by decide +kernel
theorem dX12_wouldPay_12 : decode cX12_wouldPay 12 = .ok (.ifCond .ne 12, 3) := by decide +kernel
theorem dX12_wouldPay_15 : decode cX12_wouldPay 15 = .ok (.aload_n 0, 1) := by decide +kernel
theorem dX12_wouldPay_16 : decode cX12_wouldPay 16 = .ok (.iload_n 2, 1) := by decide +kernel
theorem dX12_wouldPay_17 : decode cX12_wouldPay 17 = .ok (.iload_n 3, 1) := by decide +kernel
theorem dX12_wouldPay_18 : decode cX12_wouldPay 18 = .ok (.invokevirtual 391, 3) := by decide +kernel
theorem dX12_wouldPay_21 : decode cX12_wouldPay 21 = .ok (.ifCond .ne 5, 3) := by decide +kernel
theorem dX12_wouldPay_24 : decode cX12_wouldPay 24 = .ok (.iconst 0, 1) := by decide +kernel
theorem dX12_wouldPay_25 : decode cX12_wouldPay 25 = .ok (.ireturn, 1) := by decide +kernel
theorem dX12_wouldPay_26 : decode cX12_wouldPay 26 = .ok (.aload_n 0, 1) := by decide +kernel
theorem dX12_wouldPay_27 : decode cX12_wouldPay 27 = .ok (.iload_n 2, 1) := by decide +kernel
theorem dX12_wouldPay_28 : decode cX12_wouldPay 28 = .ok (.iload_n 1, 1) := by decide +kernel
theorem dX12_wouldPay_29 : decode cX12_wouldPay 29 = .ok (.aload_n 0, 1) := by decide +kernel
theorem dX12_wouldPay_30 : decode cX12_wouldPay 30 = .ok (.getfield 7, 3) := by decide +kernel
theorem dX12_wouldPay_33 : decode cX12_wouldPay 33 = .ok (.iconst 1, 1) := by decide +kernel
theorem dX12_wouldPay_34 : decode cX12_wouldPay 34 = .ok (.iaload, 1) := by decide +kernel
theorem dX12_wouldPay_35 : decode cX12_wouldPay 35 = .ok (.invokevirtual 394, 3) := by decide +kernel
theorem dX12_wouldPay_38 : decode cX12_wouldPay 38 = .ok (.aload_n 0, 1) := by decide +kernel
theorem dX12_wouldPay_39 : decode cX12_wouldPay 39 = .ok (.invokevirtual 398, 3) := by decide +kernel
theorem dX12_wouldPay_42 : decode cX12_wouldPay 42 = .ok (.aload_n 0, 1) := by decide +kernel
theorem dX12_wouldPay_43 : decode cX12_wouldPay 43 = .ok (.invokevirtual 401, 3) := by decide +kernel
theorem dX12_wouldPay_46 : decode cX12_wouldPay 46 = .ok (.isub, 1) := by decide +kernel
theorem dX12_wouldPay_47 : decode cX12_wouldPay 47 = .ok (.ireturn, 1) := by decide +kernel
theorem rX12_wouldPay_0 {G : kz_G} {d : Nat} {Qr : Option Value → kz_M → Prop} {Qx : String → kz_M → Prop} {a0 : Nat} {p1 : Int32} {p2 : Int32} {p3 : Int32}  {M : kz_M} (h : ∃ fs1, (M).1 a0 = some (.inl (11, fs1)) ∧ 9 < fs1.length ∧ ((∃ fs25, ((kz_up M a0 (.inl (11, fs1.set 9 (.int 0))))).1 a0 = some (.inl (11, fs25))) ∧ kz_C G (d + 6) 0 0 mX12_noReading [.ref a0, .int p1, .int p2, .int p3] (kz_up M a0 (.inl (11, fs1.set 9 (.int 0)))) (fun v M2 => ∃ r3 : Int32, v = some (.int r3) ∧ ((¬ r3 = 0 → Qr (some (.int 0)) M2) ∧ (r3 = 0 → (∃ fs24, (M2).1 a0 = some (.inl (11, fs24))) ∧ kz_C G (d + 6) 0 0 mX12_readsRow [.ref a0, .int p2, .int p3] M2 (fun v M5 => ∃ r6 : Int32, v = some (.int r6) ∧ ((¬ r6 = 0 → ∃ fs8 v9, (M5).1 a0 = some (.inl (11, fs8)) ∧ fs8[0]? = some (.ref v9) ∧ (∃ n10 f11, (M5).1 v9 = some (.inr (.int, n10, .inl f11)) ∧ vp_in (1 : Int32) n10 ∧ ((∃ fs23, (M5).1 a0 = some (.inl (11, fs23))) ∧ kz_C G (d + 6) 0 0 mX12_looks [.ref a0, .int p2, .int p1, .int (f11 (1 : Int32).toNatClampNeg)] M5 (fun v M12 => v = none ∧ ((∃ fs22, (M12).1 a0 = some (.inl (11, fs22))) ∧ kz_C G (d + 6) 0 0 mX12_rowPays [.ref a0] M12 (fun v M15 => ∃ r16 : Int32, v = some (.int r16) ∧ ((∃ fs21, (M15).1 a0 = some (.inl (11, fs21))) ∧ kz_C G (d + 6) 0 0 mX12_rowFines [.ref a0] M15 (fun v M18 => ∃ r19 : Int32, v = some (.int r19) ∧ (Qr (some (.int (r16 - r19))) M18)) Qx)) Qx)) Qx))) ∧ (r6 = 0 → Qr (some (.int 0)) M5))) Qx))) Qx)) : kz_C G (d + 7) 0 0 mX12_wouldPay [.ref a0, .int p1, .int p2, .int p3] M Qr Qx := by
  refine kz_enter (n := 3) kmX12_wouldPay.1 (Nat.le_of_ble_eq_true rfl) (ls := [(0, .ref a0), (1, .int p1), (2, .int p2), (3, .int p3)]) rfl ?_
  refine kz_aload_n (pc := 0) 0 (v := .ref a0) (i := 0) rfl rfl rfl dX12_wouldPay_0 ?_
  refine kz_iconst (pc := 1) (v := 0) (by decide) dX12_wouldPay_1 ?_
  obtain ⟨fs1, hM, hlen, h⟩ := h
  refine kz_putf (pc := 2) (k := 9) kcX12 hM (by decide) hlen kw_1387 rfl rfl rfl dX12_wouldPay_2 ?_
  refine kz_aload_n (pc := 5) 0 (v := .ref a0) (i := 0) rfl rfl rfl dX12_wouldPay_5 ?_
  refine kz_iload_n (pc := 6) 1 (i := 1) rfl rfl dX12_wouldPay_6 ?_
  refine kz_iload_n (pc := 7) 2 (i := 2) rfl rfl dX12_wouldPay_7 ?_
  refine kz_iload_n (pc := 8) 3 (i := 3) rfl rfl dX12_wouldPay_8 ?_
  obtain ⟨⟨fs25, he⟩, h⟩ := h
  refine kz_callV (pc := 9) (μ' := mX12_noReading) (ci := 11) (q := (RX12, TX12, 32)) (b := a0) (d' := d + 6) (mc' := 0) (ms' := 0) (As := [.int p1, .int p2, .int p3]) (st := []) (c := 0) (sl := 0) kmX12_noReading kw_1851 (by omega) rfl (Nat.le_of_ble_eq_true rfl) he rfl rfl (Nat.le_refl _) (Nat.le_refl _) dX12_wouldPay_9 (fun E M9 hx => kz_Tout rfl (Nat.le_refl _) (Nat.le_refl _) hx) (kz_Cmono (fun v M2 h => ?_) (fun _ _ h => h) h)
  obtain ⟨r3, rfl, h⟩ := h
  show kz_Z G (d + 7) 0 0 mX12_wouldPay Qr Qx 12 [(0, .ref a0), (1, .int p1), (2, .int p2), (3, .int p3)] [.int r3] M2 0 0
  refine kz_if_ne (pc := 12) (tgt := 24) (by decide) dX12_wouldPay_12 (fun hb => ?_) (fun hb => ?_)
  · replace h := h.1 hb
    refine kz_iconst (pc := 24) (v := 0) (by decide) dX12_wouldPay_24 ?_
    exact kz_iret (pc := 25) rfl (Nat.le_refl _) (Nat.le_refl _) dX12_wouldPay_25 h
  · replace h := h.2 hb
    refine kz_aload_n (pc := 15) 0 (v := .ref a0) (i := 0) rfl rfl rfl dX12_wouldPay_15 ?_
    refine kz_iload_n (pc := 16) 2 (i := 2) rfl rfl dX12_wouldPay_16 ?_
    refine kz_iload_n (pc := 17) 3 (i := 3) rfl rfl dX12_wouldPay_17 ?_
    obtain ⟨⟨fs24, he⟩, h⟩ := h
    refine kz_callV (pc := 18) (μ' := mX12_readsRow) (ci := 11) (q := (RX12, TX12, 32)) (b := a0) (d' := d + 6) (mc' := 0) (ms' := 0) (As := [.int p2, .int p3]) (st := []) (c := 0) (sl := 0) kmX12_readsRow kw_1856 (by omega) rfl (Nat.le_of_ble_eq_true rfl) he rfl rfl (Nat.le_refl _) (Nat.le_refl _) dX12_wouldPay_18 (fun E M9 hx => kz_Tout rfl (Nat.le_refl _) (Nat.le_refl _) hx) (kz_Cmono (fun v M5 h => ?_) (fun _ _ h => h) h)
    obtain ⟨r6, rfl, h⟩ := h
    show kz_Z G (d + 7) 0 0 mX12_wouldPay Qr Qx 21 [(0, .ref a0), (1, .int p1), (2, .int p2), (3, .int p3)] [.int r6] M5 0 0
    refine kz_if_ne (pc := 21) (tgt := 26) (by decide) dX12_wouldPay_21 (fun hb => ?_) (fun hb => ?_)
    · replace h := h.1 hb
      refine kz_aload_n (pc := 26) 0 (v := .ref a0) (i := 0) rfl rfl rfl dX12_wouldPay_26 ?_
      refine kz_iload_n (pc := 27) 2 (i := 2) rfl rfl dX12_wouldPay_27 ?_
      refine kz_iload_n (pc := 28) 1 (i := 1) rfl rfl dX12_wouldPay_28 ?_
      refine kz_aload_n (pc := 29) 0 (v := .ref a0) (i := 0) rfl rfl rfl dX12_wouldPay_29 ?_
      obtain ⟨fs8, v9, hM, hv, h⟩ := h
      refine kz_getf (pc := 30) (k := 0) kcX12 hM hv (by decide) kw_1378 dX12_wouldPay_30 ?_
      refine kz_iconst (pc := 33) (v := 1) (by decide) dX12_wouldPay_33 ?_
      obtain ⟨n10, f11, hM, hi, h⟩ := h
      refine kz_iald (pc := 34) hM hi dX12_wouldPay_34 ?_
      obtain ⟨⟨fs23, he⟩, h⟩ := h
      refine kz_callV (pc := 35) (μ' := mX12_looks) (ci := 11) (q := (RX12, TX12, 32)) (b := a0) (d' := d + 6) (mc' := 0) (ms' := 0) (As := [.int p2, .int p1, .int (f11 (1 : Int32).toNatClampNeg)]) (st := []) (c := 0) (sl := 0) kmX12_looks kw_1860 (by omega) rfl (Nat.le_of_ble_eq_true rfl) he rfl rfl (Nat.le_refl _) (Nat.le_refl _) dX12_wouldPay_35 (fun E M9 hx => kz_Tout rfl (Nat.le_refl _) (Nat.le_refl _) hx) (kz_Cmono (fun v M12 h => ?_) (fun _ _ h => h) h)
      obtain ⟨rfl, h⟩ := h
      show kz_Z G (d + 7) 0 0 mX12_wouldPay Qr Qx 38 [(0, .ref a0), (1, .int p1), (2, .int p2), (3, .int p3)] [] M12 0 0
      refine kz_aload_n (pc := 38) 0 (v := .ref a0) (i := 0) rfl rfl rfl dX12_wouldPay_38 ?_
      obtain ⟨⟨fs22, he⟩, h⟩ := h
      refine kz_callV (pc := 39) (μ' := mX12_rowPays) (ci := 11) (q := (RX12, TX12, 32)) (b := a0) (d' := d + 6) (mc' := 0) (ms' := 0) (As := []) (st := []) (c := 0) (sl := 0) kmX12_rowPays kw_1896 (by omega) rfl (Nat.le_of_ble_eq_true rfl) he rfl rfl (Nat.le_refl _) (Nat.le_refl _) dX12_wouldPay_39 (fun E M9 hx => kz_Tout rfl (Nat.le_refl _) (Nat.le_refl _) hx) (kz_Cmono (fun v M15 h => ?_) (fun _ _ h => h) h)
      obtain ⟨r16, rfl, h⟩ := h
      show kz_Z G (d + 7) 0 0 mX12_wouldPay Qr Qx 42 [(0, .ref a0), (1, .int p1), (2, .int p2), (3, .int p3)] [.int r16] M15 0 0
      refine kz_aload_n (pc := 42) 0 (v := .ref a0) (i := 0) rfl rfl rfl dX12_wouldPay_42 ?_
      obtain ⟨⟨fs21, he⟩, h⟩ := h
      refine kz_callV (pc := 43) (μ' := mX12_rowFines) (ci := 11) (q := (RX12, TX12, 32)) (b := a0) (d' := d + 6) (mc' := 0) (ms' := 0) (As := []) (st := [.int r16]) (c := 0) (sl := 0) kmX12_rowFines kw_1900 (by omega) rfl (Nat.le_of_ble_eq_true rfl) he rfl rfl (Nat.le_refl _) (Nat.le_refl _) dX12_wouldPay_43 (fun E M9 hx => kz_Tout rfl (Nat.le_refl _) (Nat.le_refl _) hx) (kz_Cmono (fun v M18 h => ?_) (fun _ _ h => h) h)
      obtain ⟨r19, rfl, h⟩ := h
      show kz_Z G (d + 7) 0 0 mX12_wouldPay Qr Qx 46 [(0, .ref a0), (1, .int p1), (2, .int p2), (3, .int p3)] [.int r19, .int r16] M18 0 0
      refine kz_isub (pc := 46) dX12_wouldPay_46 ?_
      exact kz_iret (pc := 47) rfl (Nat.le_refl _) (Nat.le_refl _) dX12_wouldPay_47 h
    · replace h := h.2 hb
      refine kz_iconst (pc := 24) (v := 0) (by decide) dX12_wouldPay_24 ?_
      exact kz_iret (pc := 25) rfl (Nat.le_refl _) (Nat.le_refl _) dX12_wouldPay_25 h
theorem dX12_countsIf_0 : decode cX12_countsIf 0 = .ok (.aload_n 0, 1) := by decide +kernel
theorem dX12_countsIf_1 : decode cX12_countsIf 1 = .ok (.iconst 0, 1) := by decide +kernel
theorem dX12_countsIf_2 : decode cX12_countsIf 2 = .ok (.putfield 60, 3) := by decide +kernel
theorem dX12_countsIf_5 : decode cX12_countsIf 5 = .ok (.aload_n 0, 1) := by decide +kernel
theorem dX12_countsIf_6 : decode cX12_countsIf 6 = .ok (.iload_n 1, 1) := by decide +kernel
theorem dX12_countsIf_7 : decode cX12_countsIf 7 = .ok (.invokevirtual 314, 3) := by decide +kernel
theorem dX12_countsIf_10 : decode cX12_countsIf 10 = .ok (.ifCond .ne 24, 3) := by decide +kernel
theorem dX12_countsIf_13 : decode cX12_countsIf 13 = .ok (.aload_n 0, 1) := by decide +kernel
theorem dX12_countsIf_14 : decode cX12_countsIf 14 = .ok (.iload_n 2, 1) := by decide +kernel
theorem dX12_countsIf_15 : decode cX12_countsIf 15 = .ok (.iload_n 3, 1) := by decide +kernel
theorem dX12_countsIf_16 : decode cX12_countsIf 16 = .ok (.invokestatic 404, 3) := by decide +kernel
theorem dX12_countsIf_19 : decode cX12_countsIf 19 = .ok (.ifCond .ne 7, 3) := by decide +kernel
theorem dX12_countsIf_22 : decode cX12_countsIf 22 = .ok (.iconst 1, 1) := by decide +kernel
theorem dX12_countsIf_23 : decode cX12_countsIf 23 = .ok (.goto 4, 3) := by decide +kernel
theorem dX12_countsIf_26 : decode cX12_countsIf 26 = .ok (.iconst 0, 1) := by decide +kernel
theorem dX12_countsIf_27 : decode cX12_countsIf 27 = .ok (.iconst 2, 1) := by decide +kernel
theorem dX12_countsIf_28 : decode cX12_countsIf 28 = .ok (.invokevirtual 310, 3) := by decide +kernel
theorem dX12_countsIf_31 : decode cX12_countsIf 31 = .ok (.ifCond .eq 5, 3) := by decide +kernel
theorem dX12_countsIf_34 : decode cX12_countsIf 34 = .ok (.iconst 0, 1) := by decide +kernel
theorem dX12_countsIf_35 : decode cX12_countsIf 35 = .ok (.ireturn, 1) := by decide +kernel
theorem dX12_countsIf_36 : decode cX12_countsIf 36 = .ok (.aload_n 0, 1) := by decide +kernel
theorem dX12_countsIf_37 : decode cX12_countsIf 37 = .ok (.iload_n 2, 1) := by decide +kernel
theorem dX12_countsIf_38 : decode cX12_countsIf 38 = .ok (.invokevirtual 141, 3) := by decide +kernel
theorem dX12_countsIf_41 : decode cX12_countsIf 41 = .ok (.istore 4, 2) := by decide +kernel
theorem dX12_countsIf_43 : decode cX12_countsIf 43 = .ok (.aload_n 0, 1) := by decide +kernel
theorem dX12_countsIf_44 : decode cX12_countsIf 44 = .ok (.iload_n 2, 1) := by decide +kernel
theorem dX12_countsIf_45 : decode cX12_countsIf 45 = .ok (.iload_n 3, 1) := by decide +kernel
theorem dX12_countsIf_46 : decode cX12_countsIf 46 = .ok (.invokevirtual 63, 3) := by decide +kernel
theorem dX12_countsIf_49 : decode cX12_countsIf 49 = .ok (.aload_n 0, 1) := by decide +kernel
theorem dX12_countsIf_50 : decode cX12_countsIf 50 = .ok (.iload_n 1, 1) := by decide +kernel
theorem dX12_countsIf_51 : decode cX12_countsIf 51 = .ok (.invokevirtual 379, 3) := by decide +kernel
theorem dX12_countsIf_54 : decode cX12_countsIf 54 = .ok (.aload_n 0, 1) := by decide +kernel
theorem dX12_countsIf_55 : decode cX12_countsIf 55 = .ok (.aload_n 0, 1) := by decide +kernel
theorem dX12_countsIf_56 : decode cX12_countsIf 56 = .ok (.iload_n 1, 1) := by decide +kernel
theorem dX12_countsIf_57 : decode cX12_countsIf 57 = .ok (.iconst 1, 1) := by decide +kernel
theorem dX12_countsIf_58 : decode cX12_countsIf 58 = .ok (.invokevirtual 101, 3) := by decide +kernel
theorem dX12_countsIf_61 : decode cX12_countsIf 61 = .ok (.aload_n 0, 1) := by decide +kernel
theorem dX12_countsIf_62 : decode cX12_countsIf 62 = .ok (.iload_n 1, 1) := by decide +kernel
theorem dX12_countsIf_63 : decode cX12_countsIf 63 = .ok (.iconst 0, 1) := by decide +kernel
theorem dX12_countsIf_64 : decode cX12_countsIf 64 = .ok (.invokevirtual 101, 3) := by decide +kernel
theorem dX12_countsIf_67 : decode cX12_countsIf 67 = .ok (.iload_n 1, 1) := by decide +kernel
theorem dX12_countsIf_68 : decode cX12_countsIf 68 = .ok (.invokevirtual 394, 3) := by decide +kernel
theorem dX12_countsIf_71 : decode cX12_countsIf 71 = .ok (.aload_n 0, 1) := by decide +kernel
theorem dX12_countsIf_72 : decode cX12_countsIf 72 = .ok (.iload_n 2, 1) := by decide +kernel
theorem dX12_countsIf_73 : decode cX12_countsIf 73 = .ok (.iload 4, 2) := by decide +kernel
theorem dX12_countsIf_75 : decode cX12_countsIf 75 = .ok (.invokevirtual 63, 3) := by decide +kernel
theorem dX12_countsIf_78 : decode cX12_countsIf 78 = .ok (.aload_n 0, 1) := by decide +kernel
theorem dX12_countsIf_79 : decode cX12_countsIf 79 = .ok (.invokevirtual 170, 3) := by decide +kernel
theorem dX12_countsIf_82 : decode cX12_countsIf 82 = .ok (.ireturn, 1) := by decide +kernel
theorem rX12_countsIf_0 {G : kz_G} {d : Nat} {Qr : Option Value → kz_M → Prop} {Qx : String → kz_M → Prop} {a0 : Nat} {p1 : Int32} {p2 : Int32} {p3 : Int32}  {M : kz_M} (h : ∃ fs1, (M).1 a0 = some (.inl (11, fs1)) ∧ 9 < fs1.length ∧ ((∃ fs81, ((kz_up M a0 (.inl (11, fs1.set 9 (.int 0))))).1 a0 = some (.inl (11, fs81))) ∧ kz_C G (d + 6) 0 0 mX12_noWork [.ref a0, .int p1] (kz_up M a0 (.inl (11, fs1.set 9 (.int 0)))) (fun v M2 => ∃ r3 : Int32, v = some (.int r3) ∧ ((¬ r3 = 0 → Qr (some (.int 0)) M2) ∧ (r3 = 0 → kz_C G (d + 6) 0 0 mX12_mayBe [.int p2, .int p3] M2 (fun v M5 => ∃ r6 : Int32, v = some (.int r6) ∧ ((¬ r6 = 0 → (∃ fs43, (M5).1 a0 = some (.inl (11, fs43))) ∧ kz_C G (d + 6) 0 0 mX12_fails [.ref a0, .int 0, .int 2] M5 (fun v M8 => ∃ r9 : Int32, v = some (.int r9) ∧ ((r9 = 0 → (∃ fs42, (M8).1 a0 = some (.inl (11, fs42))) ∧ kz_C G (d + 6) 0 0 mX12_its [.ref a0, .int p2] M8 (fun v M11 => ∃ r12 : Int32, v = some (.int r12) ∧ ((∃ fs41, (M11).1 a0 = some (.inl (11, fs41))) ∧ kz_C G (d + 6) 0 0 mX12_sets [.ref a0, .int p2, .int p3] M11 (fun v M14 => v = none ∧ ((∃ fs40, (M14).1 a0 = some (.inl (11, fs40))) ∧ kz_C G (d + 6) 0 0 mX12_takes [.ref a0, .int p1] M14 (fun v M17 => v = none ∧ ((∃ fs39, (M17).1 a0 = some (.inl (11, fs39))) ∧ kz_C G (d + 6) 0 0 mX12_of [.ref a0, .int p1, .int 1] M17 (fun v M20 => ∃ r21 : Int32, v = some (.int r21) ∧ ((∃ fs38, (M20).1 a0 = some (.inl (11, fs38))) ∧ kz_C G (d + 6) 0 0 mX12_of [.ref a0, .int p1, .int 0] M20 (fun v M23 => ∃ r24 : Int32, v = some (.int r24) ∧ ((∃ fs37, (M23).1 a0 = some (.inl (11, fs37))) ∧ kz_C G (d + 6) 0 0 mX12_looks [.ref a0, .int r21, .int r24, .int p1] M23 (fun v M26 => v = none ∧ ((∃ fs36, (M26).1 a0 = some (.inl (11, fs36))) ∧ kz_C G (d + 6) 0 0 mX12_sets [.ref a0, .int p2, .int r12] M26 (fun v M29 => v = none ∧ ((∃ fs35, (M29).1 a0 = some (.inl (11, fs35))) ∧ kz_C G (d + 6) 0 0 mX12_rowCounting [.ref a0] M29 (fun v M32 => ∃ r33 : Int32, v = some (.int r33) ∧ (Qr (some (.int r33)) M32)) Qx)) Qx)) Qx)) Qx)) Qx)) Qx)) Qx)) Qx) ∧ (¬ r9 = 0 → Qr (some (.int 0)) M8))) Qx) ∧ (r6 = 0 → (∃ fs79, (M5).1 a0 = some (.inl (11, fs79))) ∧ kz_C G (d + 6) 0 0 mX12_fails [.ref a0, .int 1, .int 2] M5 (fun v M44 => ∃ r45 : Int32, v = some (.int r45) ∧ ((r45 = 0 → (∃ fs78, (M44).1 a0 = some (.inl (11, fs78))) ∧ kz_C G (d + 6) 0 0 mX12_its [.ref a0, .int p2] M44 (fun v M47 => ∃ r48 : Int32, v = some (.int r48) ∧ ((∃ fs77, (M47).1 a0 = some (.inl (11, fs77))) ∧ kz_C G (d + 6) 0 0 mX12_sets [.ref a0, .int p2, .int p3] M47 (fun v M50 => v = none ∧ ((∃ fs76, (M50).1 a0 = some (.inl (11, fs76))) ∧ kz_C G (d + 6) 0 0 mX12_takes [.ref a0, .int p1] M50 (fun v M53 => v = none ∧ ((∃ fs75, (M53).1 a0 = some (.inl (11, fs75))) ∧ kz_C G (d + 6) 0 0 mX12_of [.ref a0, .int p1, .int 1] M53 (fun v M56 => ∃ r57 : Int32, v = some (.int r57) ∧ ((∃ fs74, (M56).1 a0 = some (.inl (11, fs74))) ∧ kz_C G (d + 6) 0 0 mX12_of [.ref a0, .int p1, .int 0] M56 (fun v M59 => ∃ r60 : Int32, v = some (.int r60) ∧ ((∃ fs73, (M59).1 a0 = some (.inl (11, fs73))) ∧ kz_C G (d + 6) 0 0 mX12_looks [.ref a0, .int r57, .int r60, .int p1] M59 (fun v M62 => v = none ∧ ((∃ fs72, (M62).1 a0 = some (.inl (11, fs72))) ∧ kz_C G (d + 6) 0 0 mX12_sets [.ref a0, .int p2, .int r48] M62 (fun v M65 => v = none ∧ ((∃ fs71, (M65).1 a0 = some (.inl (11, fs71))) ∧ kz_C G (d + 6) 0 0 mX12_rowCounting [.ref a0] M65 (fun v M68 => ∃ r69 : Int32, v = some (.int r69) ∧ (Qr (some (.int r69)) M68)) Qx)) Qx)) Qx)) Qx)) Qx)) Qx)) Qx)) Qx) ∧ (¬ r45 = 0 → Qr (some (.int 0)) M44))) Qx))) Qx))) Qx)) : kz_C G (d + 7) 0 0 mX12_countsIf [.ref a0, .int p1, .int p2, .int p3] M Qr Qx := by
  refine kz_enter (n := 3) kmX12_countsIf.1 (Nat.le_of_ble_eq_true rfl) (ls := [(0, .ref a0), (1, .int p1), (2, .int p2), (3, .int p3)]) rfl ?_
  refine kz_aload_n (pc := 0) 0 (v := .ref a0) (i := 0) rfl rfl rfl dX12_countsIf_0 ?_
  refine kz_iconst (pc := 1) (v := 0) (by decide) dX12_countsIf_1 ?_
  obtain ⟨fs1, hM, hlen, h⟩ := h
  refine kz_putf (pc := 2) (k := 9) kcX12 hM (by decide) hlen kw_1387 rfl rfl rfl dX12_countsIf_2 ?_
  refine kz_aload_n (pc := 5) 0 (v := .ref a0) (i := 0) rfl rfl rfl dX12_countsIf_5 ?_
  refine kz_iload_n (pc := 6) 1 (i := 1) rfl rfl dX12_countsIf_6 ?_
  obtain ⟨⟨fs81, he⟩, h⟩ := h
  refine kz_callV (pc := 7) (μ' := mX12_noWork) (ci := 11) (q := (RX12, TX12, 32)) (b := a0) (d' := d + 6) (mc' := 0) (ms' := 0) (As := [.int p1]) (st := []) (c := 0) (sl := 0) kmX12_noWork kw_1713 (by omega) rfl (Nat.le_of_ble_eq_true rfl) he rfl rfl (Nat.le_refl _) (Nat.le_refl _) dX12_countsIf_7 (fun E M9 hx => kz_Tout rfl (Nat.le_refl _) (Nat.le_refl _) hx) (kz_Cmono (fun v M2 h => ?_) (fun _ _ h => h) h)
  obtain ⟨r3, rfl, h⟩ := h
  show kz_Z G (d + 7) 0 0 mX12_countsIf Qr Qx 10 [(0, .ref a0), (1, .int p1), (2, .int p2), (3, .int p3)] [.int r3] M2 0 0
  refine kz_if_ne (pc := 10) (tgt := 34) (by decide) dX12_countsIf_10 (fun hb => ?_) (fun hb => ?_)
  · replace h := h.1 hb
    refine kz_iconst (pc := 34) (v := 0) (by decide) dX12_countsIf_34 ?_
    exact kz_iret (pc := 35) rfl (Nat.le_refl _) (Nat.le_refl _) dX12_countsIf_35 h
  · replace h := h.2 hb
    refine kz_aload_n (pc := 13) 0 (v := .ref a0) (i := 0) rfl rfl rfl dX12_countsIf_13 ?_
    refine kz_iload_n (pc := 14) 2 (i := 2) rfl rfl dX12_countsIf_14 ?_
    refine kz_iload_n (pc := 15) 3 (i := 3) rfl rfl dX12_countsIf_15 ?_
    refine kz_callS (pc := 16) (μ' := mX12_mayBe) (d' := d + 6) (mc' := 0) (ms' := 0) (As := [.int p2, .int p3]) (st := [.ref a0]) (c := 0) (sl := 0) kmX12_mayBe kw_1908 (by omega) rfl (Nat.le_of_ble_eq_true rfl) (Nat.le_refl _) (Nat.le_refl _) dX12_countsIf_16 (fun E M9 hx => kz_Tout rfl (Nat.le_refl _) (Nat.le_refl _) hx) (kz_Cmono (fun v M5 h => ?_) (fun _ _ h => h) h)
    obtain ⟨r6, rfl, h⟩ := h
    show kz_Z G (d + 7) 0 0 mX12_countsIf Qr Qx 19 [(0, .ref a0), (1, .int p1), (2, .int p2), (3, .int p3)] [.int r6, .ref a0] M5 0 0
    refine kz_if_ne (pc := 19) (tgt := 26) (by decide) dX12_countsIf_19 (fun hb => ?_) (fun hb => ?_)
    · replace h := h.1 hb
      refine kz_iconst (pc := 26) (v := 0) (by decide) dX12_countsIf_26 ?_
      refine kz_iconst (pc := 27) (v := 2) (by decide) dX12_countsIf_27 ?_
      obtain ⟨⟨fs43, he⟩, h⟩ := h
      refine kz_callV (pc := 28) (μ' := mX12_fails) (ci := 11) (q := (RX12, TX12, 32)) (b := a0) (d' := d + 6) (mc' := 0) (ms' := 0) (As := [.int 0, .int 2]) (st := []) (c := 0) (sl := 0) kmX12_fails kw_1653 (by omega) rfl (Nat.le_of_ble_eq_true rfl) he rfl rfl (Nat.le_refl _) (Nat.le_refl _) dX12_countsIf_28 (fun E M9 hx => kz_Tout rfl (Nat.le_refl _) (Nat.le_refl _) hx) (kz_Cmono (fun v M8 h => ?_) (fun _ _ h => h) h)
      obtain ⟨r9, rfl, h⟩ := h
      show kz_Z G (d + 7) 0 0 mX12_countsIf Qr Qx 31 [(0, .ref a0), (1, .int p1), (2, .int p2), (3, .int p3)] [.int r9] M8 0 0
      refine kz_if_eq (pc := 31) (tgt := 36) (by decide) dX12_countsIf_31 (fun hb => ?_) (fun hb => ?_)
      · replace h := h.1 hb
        refine kz_aload_n (pc := 36) 0 (v := .ref a0) (i := 0) rfl rfl rfl dX12_countsIf_36 ?_
        refine kz_iload_n (pc := 37) 2 (i := 2) rfl rfl dX12_countsIf_37 ?_
        obtain ⟨⟨fs42, he⟩, h⟩ := h
        refine kz_callV (pc := 38) (μ' := mX12_its) (ci := 11) (q := (RX12, TX12, 32)) (b := a0) (d' := d + 6) (mc' := 0) (ms' := 0) (As := [.int p2]) (st := []) (c := 0) (sl := 0) kmX12_its kw_1657 (by omega) rfl (Nat.le_of_ble_eq_true rfl) he rfl rfl (Nat.le_refl _) (Nat.le_refl _) dX12_countsIf_38 (fun E M9 hx => kz_Tout rfl (Nat.le_refl _) (Nat.le_refl _) hx) (kz_Cmono (fun v M11 h => ?_) (fun _ _ h => h) h)
        obtain ⟨r12, rfl, h⟩ := h
        show kz_Z G (d + 7) 0 0 mX12_countsIf Qr Qx 41 [(0, .ref a0), (1, .int p1), (2, .int p2), (3, .int p3)] [.int r12] M11 0 0
        refine kz_istore (pc := 41) (i := 4) (ls' := [(0, .ref a0), (1, .int p1), (2, .int p2), (3, .int p3)]) (by decide) rfl dX12_countsIf_41 ?_
        refine kz_aload_n (pc := 43) 1 (v := .ref a0) (i := 0) rfl rfl rfl dX12_countsIf_43 ?_
        refine kz_iload_n (pc := 44) 3 (i := 2) rfl rfl dX12_countsIf_44 ?_
        refine kz_iload_n (pc := 45) 4 (i := 3) rfl rfl dX12_countsIf_45 ?_
        obtain ⟨⟨fs41, he⟩, h⟩ := h
        refine kz_callV (pc := 46) (μ' := mX12_sets) (ci := 11) (q := (RX12, TX12, 32)) (b := a0) (d' := d + 6) (mc' := 0) (ms' := 0) (As := [.int p2, .int p3]) (st := []) (c := 0) (sl := 0) kmX12_sets kw_1374 (by omega) rfl (Nat.le_of_ble_eq_true rfl) he rfl rfl (Nat.le_refl _) (Nat.le_refl _) dX12_countsIf_46 (fun E M9 hx => kz_Tout rfl (Nat.le_refl _) (Nat.le_refl _) hx) (kz_Cmono (fun v M14 h => ?_) (fun _ _ h => h) h)
        obtain ⟨rfl, h⟩ := h
        show kz_Z G (d + 7) 0 0 mX12_countsIf Qr Qx 49 [(4, .int r12), (0, .ref a0), (1, .int p1), (2, .int p2), (3, .int p3)] [] M14 0 0
        refine kz_aload_n (pc := 49) 1 (v := .ref a0) (i := 0) rfl rfl rfl dX12_countsIf_49 ?_
        refine kz_iload_n (pc := 50) 2 (i := 1) rfl rfl dX12_countsIf_50 ?_
        obtain ⟨⟨fs40, he⟩, h⟩ := h
        refine kz_callV (pc := 51) (μ' := mX12_takes) (ci := 11) (q := (RX12, TX12, 32)) (b := a0) (d' := d + 6) (mc' := 0) (ms' := 0) (As := [.int p1]) (st := []) (c := 0) (sl := 0) kmX12_takes kw_1820 (by omega) rfl (Nat.le_of_ble_eq_true rfl) he rfl rfl (Nat.le_refl _) (Nat.le_refl _) dX12_countsIf_51 (fun E M9 hx => kz_Tout rfl (Nat.le_refl _) (Nat.le_refl _) hx) (kz_Cmono (fun v M17 h => ?_) (fun _ _ h => h) h)
        obtain ⟨rfl, h⟩ := h
        show kz_Z G (d + 7) 0 0 mX12_countsIf Qr Qx 54 [(4, .int r12), (0, .ref a0), (1, .int p1), (2, .int p2), (3, .int p3)] [] M17 0 0
        refine kz_aload_n (pc := 54) 1 (v := .ref a0) (i := 0) rfl rfl rfl dX12_countsIf_54 ?_
        refine kz_aload_n (pc := 55) 1 (v := .ref a0) (i := 0) rfl rfl rfl dX12_countsIf_55 ?_
        refine kz_iload_n (pc := 56) 2 (i := 1) rfl rfl dX12_countsIf_56 ?_
        refine kz_iconst (pc := 57) (v := 1) (by decide) dX12_countsIf_57 ?_
        obtain ⟨⟨fs39, he⟩, h⟩ := h
        refine kz_callV (pc := 58) (μ' := mX12_of) (ci := 11) (q := (RX12, TX12, 32)) (b := a0) (d' := d + 6) (mc' := 0) (ms' := 0) (As := [.int p1, .int 1]) (st := [.ref a0]) (c := 0) (sl := 0) kmX12_of kw_1620 (by omega) rfl (Nat.le_of_ble_eq_true rfl) he rfl rfl (Nat.le_refl _) (Nat.le_refl _) dX12_countsIf_58 (fun E M9 hx => kz_Tout rfl (Nat.le_refl _) (Nat.le_refl _) hx) (kz_Cmono (fun v M20 h => ?_) (fun _ _ h => h) h)
        obtain ⟨r21, rfl, h⟩ := h
        show kz_Z G (d + 7) 0 0 mX12_countsIf Qr Qx 61 [(4, .int r12), (0, .ref a0), (1, .int p1), (2, .int p2), (3, .int p3)] [.int r21, .ref a0] M20 0 0
        refine kz_aload_n (pc := 61) 1 (v := .ref a0) (i := 0) rfl rfl rfl dX12_countsIf_61 ?_
        refine kz_iload_n (pc := 62) 2 (i := 1) rfl rfl dX12_countsIf_62 ?_
        refine kz_iconst (pc := 63) (v := 0) (by decide) dX12_countsIf_63 ?_
        obtain ⟨⟨fs38, he⟩, h⟩ := h
        refine kz_callV (pc := 64) (μ' := mX12_of) (ci := 11) (q := (RX12, TX12, 32)) (b := a0) (d' := d + 6) (mc' := 0) (ms' := 0) (As := [.int p1, .int 0]) (st := [.int r21, .ref a0]) (c := 0) (sl := 0) kmX12_of kw_1620 (by omega) rfl (Nat.le_of_ble_eq_true rfl) he rfl rfl (Nat.le_refl _) (Nat.le_refl _) dX12_countsIf_64 (fun E M9 hx => kz_Tout rfl (Nat.le_refl _) (Nat.le_refl _) hx) (kz_Cmono (fun v M23 h => ?_) (fun _ _ h => h) h)
        obtain ⟨r24, rfl, h⟩ := h
        show kz_Z G (d + 7) 0 0 mX12_countsIf Qr Qx 67 [(4, .int r12), (0, .ref a0), (1, .int p1), (2, .int p2), (3, .int p3)] [.int r24, .int r21, .ref a0] M23 0 0
        refine kz_iload_n (pc := 67) 2 (i := 1) rfl rfl dX12_countsIf_67 ?_
        obtain ⟨⟨fs37, he⟩, h⟩ := h
        refine kz_callV (pc := 68) (μ' := mX12_looks) (ci := 11) (q := (RX12, TX12, 32)) (b := a0) (d' := d + 6) (mc' := 0) (ms' := 0) (As := [.int r21, .int r24, .int p1]) (st := []) (c := 0) (sl := 0) kmX12_looks kw_1860 (by omega) rfl (Nat.le_of_ble_eq_true rfl) he rfl rfl (Nat.le_refl _) (Nat.le_refl _) dX12_countsIf_68 (fun E M9 hx => kz_Tout rfl (Nat.le_refl _) (Nat.le_refl _) hx) (kz_Cmono (fun v M26 h => ?_) (fun _ _ h => h) h)
        obtain ⟨rfl, h⟩ := h
        show kz_Z G (d + 7) 0 0 mX12_countsIf Qr Qx 71 [(4, .int r12), (0, .ref a0), (1, .int p1), (2, .int p2), (3, .int p3)] [] M26 0 0
        refine kz_aload_n (pc := 71) 1 (v := .ref a0) (i := 0) rfl rfl rfl dX12_countsIf_71 ?_
        refine kz_iload_n (pc := 72) 3 (i := 2) rfl rfl dX12_countsIf_72 ?_
        refine kz_iload (pc := 73) 0 (i := 4) rfl dX12_countsIf_73 ?_
        obtain ⟨⟨fs36, he⟩, h⟩ := h
        refine kz_callV (pc := 75) (μ' := mX12_sets) (ci := 11) (q := (RX12, TX12, 32)) (b := a0) (d' := d + 6) (mc' := 0) (ms' := 0) (As := [.int p2, .int r12]) (st := []) (c := 0) (sl := 0) kmX12_sets kw_1374 (by omega) rfl (Nat.le_of_ble_eq_true rfl) he rfl rfl (Nat.le_refl _) (Nat.le_refl _) dX12_countsIf_75 (fun E M9 hx => kz_Tout rfl (Nat.le_refl _) (Nat.le_refl _) hx) (kz_Cmono (fun v M29 h => ?_) (fun _ _ h => h) h)
        obtain ⟨rfl, h⟩ := h
        show kz_Z G (d + 7) 0 0 mX12_countsIf Qr Qx 78 [(4, .int r12), (0, .ref a0), (1, .int p1), (2, .int p2), (3, .int p3)] [] M29 0 0
        refine kz_aload_n (pc := 78) 1 (v := .ref a0) (i := 0) rfl rfl rfl dX12_countsIf_78 ?_
        obtain ⟨⟨fs35, he⟩, h⟩ := h
        refine kz_callV (pc := 79) (μ' := mX12_rowCounting) (ci := 11) (q := (RX12, TX12, 32)) (b := a0) (d' := d + 6) (mc' := 0) (ms' := 0) (As := []) (st := []) (c := 0) (sl := 0) kmX12_rowCounting kw_1888 (by omega) rfl (Nat.le_of_ble_eq_true rfl) he rfl rfl (Nat.le_refl _) (Nat.le_refl _) dX12_countsIf_79 (fun E M9 hx => kz_Tout rfl (Nat.le_refl _) (Nat.le_refl _) hx) (kz_Cmono (fun v M32 h => ?_) (fun _ _ h => h) h)
        obtain ⟨r33, rfl, h⟩ := h
        show kz_Z G (d + 7) 0 0 mX12_countsIf Qr Qx 82 [(4, .int r12), (0, .ref a0), (1, .int p1), (2, .int p2), (3, .int p3)] [.int r33] M32 0 0
        exact kz_iret (pc := 82) rfl (Nat.le_refl _) (Nat.le_refl _) dX12_countsIf_82 h
      · replace h := h.2 hb
        refine kz_iconst (pc := 34) (v := 0) (by decide) dX12_countsIf_34 ?_
        exact kz_iret (pc := 35) rfl (Nat.le_refl _) (Nat.le_refl _) dX12_countsIf_35 h
    · replace h := h.2 hb
      refine kz_iconst (pc := 22) (v := 1) (by decide) dX12_countsIf_22 ?_
      refine kz_goto (pc := 23) (tgt := 27) (by decide) dX12_countsIf_23 ?_
      refine kz_iconst (pc := 27) (v := 2) (by decide) dX12_countsIf_27 ?_
      obtain ⟨⟨fs79, he⟩, h⟩ := h
      refine kz_callV (pc := 28) (μ' := mX12_fails) (ci := 11) (q := (RX12, TX12, 32)) (b := a0) (d' := d + 6) (mc' := 0) (ms' := 0) (As := [.int 1, .int 2]) (st := []) (c := 0) (sl := 0) kmX12_fails kw_1653 (by omega) rfl (Nat.le_of_ble_eq_true rfl) he rfl rfl (Nat.le_refl _) (Nat.le_refl _) dX12_countsIf_28 (fun E M9 hx => kz_Tout rfl (Nat.le_refl _) (Nat.le_refl _) hx) (kz_Cmono (fun v M44 h => ?_) (fun _ _ h => h) h)
      obtain ⟨r45, rfl, h⟩ := h
      show kz_Z G (d + 7) 0 0 mX12_countsIf Qr Qx 31 [(0, .ref a0), (1, .int p1), (2, .int p2), (3, .int p3)] [.int r45] M44 0 0
      refine kz_if_eq (pc := 31) (tgt := 36) (by decide) dX12_countsIf_31 (fun hb => ?_) (fun hb => ?_)
      · replace h := h.1 hb
        refine kz_aload_n (pc := 36) 0 (v := .ref a0) (i := 0) rfl rfl rfl dX12_countsIf_36 ?_
        refine kz_iload_n (pc := 37) 2 (i := 2) rfl rfl dX12_countsIf_37 ?_
        obtain ⟨⟨fs78, he⟩, h⟩ := h
        refine kz_callV (pc := 38) (μ' := mX12_its) (ci := 11) (q := (RX12, TX12, 32)) (b := a0) (d' := d + 6) (mc' := 0) (ms' := 0) (As := [.int p2]) (st := []) (c := 0) (sl := 0) kmX12_its kw_1657 (by omega) rfl (Nat.le_of_ble_eq_true rfl) he rfl rfl (Nat.le_refl _) (Nat.le_refl _) dX12_countsIf_38 (fun E M9 hx => kz_Tout rfl (Nat.le_refl _) (Nat.le_refl _) hx) (kz_Cmono (fun v M47 h => ?_) (fun _ _ h => h) h)
        obtain ⟨r48, rfl, h⟩ := h
        show kz_Z G (d + 7) 0 0 mX12_countsIf Qr Qx 41 [(0, .ref a0), (1, .int p1), (2, .int p2), (3, .int p3)] [.int r48] M47 0 0
        refine kz_istore (pc := 41) (i := 4) (ls' := [(0, .ref a0), (1, .int p1), (2, .int p2), (3, .int p3)]) (by decide) rfl dX12_countsIf_41 ?_
        refine kz_aload_n (pc := 43) 1 (v := .ref a0) (i := 0) rfl rfl rfl dX12_countsIf_43 ?_
        refine kz_iload_n (pc := 44) 3 (i := 2) rfl rfl dX12_countsIf_44 ?_
        refine kz_iload_n (pc := 45) 4 (i := 3) rfl rfl dX12_countsIf_45 ?_
        obtain ⟨⟨fs77, he⟩, h⟩ := h
        refine kz_callV (pc := 46) (μ' := mX12_sets) (ci := 11) (q := (RX12, TX12, 32)) (b := a0) (d' := d + 6) (mc' := 0) (ms' := 0) (As := [.int p2, .int p3]) (st := []) (c := 0) (sl := 0) kmX12_sets kw_1374 (by omega) rfl (Nat.le_of_ble_eq_true rfl) he rfl rfl (Nat.le_refl _) (Nat.le_refl _) dX12_countsIf_46 (fun E M9 hx => kz_Tout rfl (Nat.le_refl _) (Nat.le_refl _) hx) (kz_Cmono (fun v M50 h => ?_) (fun _ _ h => h) h)
        obtain ⟨rfl, h⟩ := h
        show kz_Z G (d + 7) 0 0 mX12_countsIf Qr Qx 49 [(4, .int r48), (0, .ref a0), (1, .int p1), (2, .int p2), (3, .int p3)] [] M50 0 0
        refine kz_aload_n (pc := 49) 1 (v := .ref a0) (i := 0) rfl rfl rfl dX12_countsIf_49 ?_
        refine kz_iload_n (pc := 50) 2 (i := 1) rfl rfl dX12_countsIf_50 ?_
        obtain ⟨⟨fs76, he⟩, h⟩ := h
        refine kz_callV (pc := 51) (μ' := mX12_takes) (ci := 11) (q := (RX12, TX12, 32)) (b := a0) (d' := d + 6) (mc' := 0) (ms' := 0) (As := [.int p1]) (st := []) (c := 0) (sl := 0) kmX12_takes kw_1820 (by omega) rfl (Nat.le_of_ble_eq_true rfl) he rfl rfl (Nat.le_refl _) (Nat.le_refl _) dX12_countsIf_51 (fun E M9 hx => kz_Tout rfl (Nat.le_refl _) (Nat.le_refl _) hx) (kz_Cmono (fun v M53 h => ?_) (fun _ _ h => h) h)
        obtain ⟨rfl, h⟩ := h
        show kz_Z G (d + 7) 0 0 mX12_countsIf Qr Qx 54 [(4, .int r48), (0, .ref a0), (1, .int p1), (2, .int p2), (3, .int p3)] [] M53 0 0
        refine kz_aload_n (pc := 54) 1 (v := .ref a0) (i := 0) rfl rfl rfl dX12_countsIf_54 ?_
        refine kz_aload_n (pc := 55) 1 (v := .ref a0) (i := 0) rfl rfl rfl dX12_countsIf_55 ?_
        refine kz_iload_n (pc := 56) 2 (i := 1) rfl rfl dX12_countsIf_56 ?_
        refine kz_iconst (pc := 57) (v := 1) (by decide) dX12_countsIf_57 ?_
        obtain ⟨⟨fs75, he⟩, h⟩ := h
        refine kz_callV (pc := 58) (μ' := mX12_of) (ci := 11) (q := (RX12, TX12, 32)) (b := a0) (d' := d + 6) (mc' := 0) (ms' := 0) (As := [.int p1, .int 1]) (st := [.ref a0]) (c := 0) (sl := 0) kmX12_of kw_1620 (by omega) rfl (Nat.le_of_ble_eq_true rfl) he rfl rfl (Nat.le_refl _) (Nat.le_refl _) dX12_countsIf_58 (fun E M9 hx => kz_Tout rfl (Nat.le_refl _) (Nat.le_refl _) hx) (kz_Cmono (fun v M56 h => ?_) (fun _ _ h => h) h)
        obtain ⟨r57, rfl, h⟩ := h
        show kz_Z G (d + 7) 0 0 mX12_countsIf Qr Qx 61 [(4, .int r48), (0, .ref a0), (1, .int p1), (2, .int p2), (3, .int p3)] [.int r57, .ref a0] M56 0 0
        refine kz_aload_n (pc := 61) 1 (v := .ref a0) (i := 0) rfl rfl rfl dX12_countsIf_61 ?_
        refine kz_iload_n (pc := 62) 2 (i := 1) rfl rfl dX12_countsIf_62 ?_
        refine kz_iconst (pc := 63) (v := 0) (by decide) dX12_countsIf_63 ?_
        obtain ⟨⟨fs74, he⟩, h⟩ := h
        refine kz_callV (pc := 64) (μ' := mX12_of) (ci := 11) (q := (RX12, TX12, 32)) (b := a0) (d' := d + 6) (mc' := 0) (ms' := 0) (As := [.int p1, .int 0]) (st := [.int r57, .ref a0]) (c := 0) (sl := 0) kmX12_of kw_1620 (by omega) rfl (Nat.le_of_ble_eq_true rfl) he rfl rfl (Nat.le_refl _) (Nat.le_refl _) dX12_countsIf_64 (fun E M9 hx => kz_Tout rfl (Nat.le_refl _) (Nat.le_refl _) hx) (kz_Cmono (fun v M59 h => ?_) (fun _ _ h => h) h)
        obtain ⟨r60, rfl, h⟩ := h
        show kz_Z G (d + 7) 0 0 mX12_countsIf Qr Qx 67 [(4, .int r48), (0, .ref a0), (1, .int p1), (2, .int p2), (3, .int p3)] [.int r60, .int r57, .ref a0] M59 0 0
        refine kz_iload_n (pc := 67) 2 (i := 1) rfl rfl dX12_countsIf_67 ?_
        obtain ⟨⟨fs73, he⟩, h⟩ := h
        refine kz_callV (pc := 68) (μ' := mX12_looks) (ci := 11) (q := (RX12, TX12, 32)) (b := a0) (d' := d + 6) (mc' := 0) (ms' := 0) (As := [.int r57, .int r60, .int p1]) (st := []) (c := 0) (sl := 0) kmX12_looks kw_1860 (by omega) rfl (Nat.le_of_ble_eq_true rfl) he rfl rfl (Nat.le_refl _) (Nat.le_refl _) dX12_countsIf_68 (fun E M9 hx => kz_Tout rfl (Nat.le_refl _) (Nat.le_refl _) hx) (kz_Cmono (fun v M62 h => ?_) (fun _ _ h => h) h)
        obtain ⟨rfl, h⟩ := h
        show kz_Z G (d + 7) 0 0 mX12_countsIf Qr Qx 71 [(4, .int r48), (0, .ref a0), (1, .int p1), (2, .int p2), (3, .int p3)] [] M62 0 0
        refine kz_aload_n (pc := 71) 1 (v := .ref a0) (i := 0) rfl rfl rfl dX12_countsIf_71 ?_
        refine kz_iload_n (pc := 72) 3 (i := 2) rfl rfl dX12_countsIf_72 ?_
        refine kz_iload (pc := 73) 0 (i := 4) rfl dX12_countsIf_73 ?_
        obtain ⟨⟨fs72, he⟩, h⟩ := h
        refine kz_callV (pc := 75) (μ' := mX12_sets) (ci := 11) (q := (RX12, TX12, 32)) (b := a0) (d' := d + 6) (mc' := 0) (ms' := 0) (As := [.int p2, .int r48]) (st := []) (c := 0) (sl := 0) kmX12_sets kw_1374 (by omega) rfl (Nat.le_of_ble_eq_true rfl) he rfl rfl (Nat.le_refl _) (Nat.le_refl _) dX12_countsIf_75 (fun E M9 hx => kz_Tout rfl (Nat.le_refl _) (Nat.le_refl _) hx) (kz_Cmono (fun v M65 h => ?_) (fun _ _ h => h) h)
        obtain ⟨rfl, h⟩ := h
        show kz_Z G (d + 7) 0 0 mX12_countsIf Qr Qx 78 [(4, .int r48), (0, .ref a0), (1, .int p1), (2, .int p2), (3, .int p3)] [] M65 0 0
        refine kz_aload_n (pc := 78) 1 (v := .ref a0) (i := 0) rfl rfl rfl dX12_countsIf_78 ?_
        obtain ⟨⟨fs71, he⟩, h⟩ := h
        refine kz_callV (pc := 79) (μ' := mX12_rowCounting) (ci := 11) (q := (RX12, TX12, 32)) (b := a0) (d' := d + 6) (mc' := 0) (ms' := 0) (As := []) (st := []) (c := 0) (sl := 0) kmX12_rowCounting kw_1888 (by omega) rfl (Nat.le_of_ble_eq_true rfl) he rfl rfl (Nat.le_refl _) (Nat.le_refl _) dX12_countsIf_79 (fun E M9 hx => kz_Tout rfl (Nat.le_refl _) (Nat.le_refl _) hx) (kz_Cmono (fun v M68 h => ?_) (fun _ _ h => h) h)
        obtain ⟨r69, rfl, h⟩ := h
        show kz_Z G (d + 7) 0 0 mX12_countsIf Qr Qx 82 [(4, .int r48), (0, .ref a0), (1, .int p1), (2, .int p2), (3, .int p3)] [.int r69] M68 0 0
        exact kz_iret (pc := 82) rfl (Nat.le_refl _) (Nat.le_refl _) dX12_countsIf_82 h
      · replace h := h.2 hb
        refine kz_iconst (pc := 34) (v := 0) (by decide) dX12_countsIf_34 ?_
        exact kz_iret (pc := 35) rfl (Nat.le_refl _) (Nat.le_refl _) dX12_countsIf_35 h
theorem dX12_against_0 : decode cX12_against 0 = .ok (.aload_n 0, 1) := by decide +kernel
theorem dX12_against_1 : decode cX12_against 1 = .ok (.iload_n 1, 1) := by decide +kernel
theorem dX12_against_2 : decode cX12_against 2 = .ok (.iload_n 2, 1) := by decide +kernel
theorem dX12_against_3 : decode cX12_against 3 = .ok (.iconst 2, 1) := by decide +kernel
theorem dX12_against_4 : decode cX12_against 4 = .ok (.invokevirtual 93, 3) := by decide +kernel
theorem dX12_against_7 : decode cX12_against 7 = .ok (.iconst 1, 1) := by decide +kernel
theorem dX12_against_8 : decode cX12_against 8 = .ok (.if_icmp .eq 5, 3) := by decide +kernel
theorem dX12_against_11 : decode cX12_against 11 = .ok (.iconst 1, 1) := by decide +kernel
theorem dX12_against_12 : decode cX12_against 12 = .ok (.ireturn, 1) := by decide +kernel
theorem dX12_against_13 : decode cX12_against 13 = .ok (.aload_n 0, 1) := by decide +kernel
theorem dX12_against_14 : decode cX12_against 14 = .ok (.getfield 7, 3) := by decide +kernel
theorem dX12_against_17 : decode cX12_against 17 = .ok (.iconst 2, 1) := by decide +kernel
theorem dX12_against_18 : decode cX12_against 18 = .ok (.iaload, 1) := by decide +kernel
theorem dX12_against_19 : decode cX12_against 19 = .ok (.aload_n 0, 1) := by decide +kernel
theorem dX12_against_20 : decode cX12_against 20 = .ok (.iload_n 1, 1) := by decide +kernel
theorem dX12_against_21 : decode cX12_against 21 = .ok (.iconst 2, 1) := by decide +kernel
theorem dX12_against_22 : decode cX12_against 22 = .ok (.invokevirtual 101, 3) := by decide +kernel
theorem dX12_against_25 : decode cX12_against 25 = .ok (.aload_n 0, 1) := by decide +kernel
theorem dX12_against_26 : decode cX12_against 26 = .ok (.iconst 4, 1) := by decide +kernel
theorem dX12_against_27 : decode cX12_against 27 = .ok (.invokevirtual 141, 3) := by decide +kernel
theorem dX12_against_30 : decode cX12_against 30 = .ok (.iadd, 1) := by decide +kernel
theorem dX12_against_31 : decode cX12_against 31 = .ok (.if_icmp .le 5, 3) := by decide +kernel
theorem dX12_against_34 : decode cX12_against 34 = .ok (.iconst 2, 1) := by decide +kernel
theorem dX12_against_35 : decode cX12_against 35 = .ok (.ireturn, 1) := by decide +kernel
theorem dX12_against_36 : decode cX12_against 36 = .ok (.aload_n 0, 1) := by decide +kernel
theorem dX12_against_37 : decode cX12_against 37 = .ok (.aload_n 0, 1) := by decide +kernel
theorem dX12_against_38 : decode cX12_against 38 = .ok (.iload_n 1, 1) := by decide +kernel
theorem dX12_against_39 : decode cX12_against 39 = .ok (.iconst 0, 1) := by decide +kernel
theorem dX12_against_40 : decode cX12_against 40 = .ok (.invokevirtual 101, 3) := by decide +kernel
theorem dX12_against_43 : decode cX12_against 43 = .ok (.iconst 3, 1) := by decide +kernel
theorem dX12_against_44 : decode cX12_against 44 = .ok (.invokevirtual 334, 3) := by decide +kernel
theorem dX12_against_47 : decode cX12_against 47 = .ok (.iconst 3, 1) := by decide +kernel
theorem dX12_against_48 : decode cX12_against 48 = .ok (.if_icmp .lt 7, 3) := by decide +kernel
theorem dX12_against_51 : decode cX12_against 51 = .ok (.iconst 3, 1) := by decide +kernel
theorem dX12_against_52 : decode cX12_against 52 = .ok (.goto 4, 3) := by decide +kernel
theorem dX12_against_55 : decode cX12_against 55 = .ok (.iconst 0, 1) := by decide +kernel
theorem dX12_against_56 : decode cX12_against 56 = .ok (.ireturn, 1) := by decide +kernel
theorem rX12_against_0 {G : kz_G} {d : Nat} {Qr : Option Value → kz_M → Prop} {Qx : String → kz_M → Prop} {a0 : Nat} {p1 : Int32} {p2 : Int32}  {M : kz_M} (h : (∃ fs24, (M).1 a0 = some (.inl (11, fs24))) ∧ kz_C G (d + 2) 0 0 mX12_ofLine [.ref a0, .int p1, .int p2, .int 2] M (fun v M1 => ∃ r2 : Int32, v = some (.int r2) ∧ ((r2 = (1 : Int32) → ∃ fs4 v5, (M1).1 a0 = some (.inl (11, fs4)) ∧ fs4[0]? = some (.ref v5) ∧ (∃ n6 f7, (M1).1 v5 = some (.inr (.int, n6, .inl f7)) ∧ vp_in (2 : Int32) n6 ∧ ((∃ fs23, (M1).1 a0 = some (.inl (11, fs23))) ∧ kz_C G (d + 2) 0 0 mX12_of [.ref a0, .int p1, .int 2] M1 (fun v M8 => ∃ r9 : Int32, v = some (.int r9) ∧ ((∃ fs22, (M8).1 a0 = some (.inl (11, fs22))) ∧ kz_C G (d + 2) 0 0 mX12_its [.ref a0, .int 4] M8 (fun v M11 => ∃ r12 : Int32, v = some (.int r12) ∧ (((f7 (2 : Int32).toNatClampNeg) ≤ (r9 + r12) → (∃ fs21, (M11).1 a0 = some (.inl (11, fs21))) ∧ kz_C G (d + 2) 0 0 mX12_of [.ref a0, .int p1, .int 0] M11 (fun v M14 => ∃ r15 : Int32, v = some (.int r15) ∧ ((∃ fs20, (M14).1 a0 = some (.inl (11, fs20))) ∧ kz_C G (d + 2) 0 0 mX12_inState [.ref a0, .int r15, .int 3] M14 (fun v M17 => ∃ r18 : Int32, v = some (.int r18) ∧ ((r18 < (3 : Int32) → Qr (some (.int 0)) M17) ∧ (¬ r18 < (3 : Int32) → Qr (some (.int 3)) M17))) Qx)) Qx) ∧ (¬ (f7 (2 : Int32).toNatClampNeg) ≤ (r9 + r12) → Qr (some (.int 2)) M11))) Qx)) Qx))) ∧ (¬ r2 = (1 : Int32) → Qr (some (.int 1)) M1))) Qx) : kz_C G (d + 3) 0 0 mX12_against [.ref a0, .int p1, .int p2] M Qr Qx := by
  refine kz_enter (n := 2) kmX12_against.1 (Nat.le_of_ble_eq_true rfl) (ls := [(0, .ref a0), (1, .int p1), (2, .int p2)]) rfl ?_
  refine kz_aload_n (pc := 0) 0 (v := .ref a0) (i := 0) rfl rfl rfl dX12_against_0 ?_
  refine kz_iload_n (pc := 1) 1 (i := 1) rfl rfl dX12_against_1 ?_
  refine kz_iload_n (pc := 2) 2 (i := 2) rfl rfl dX12_against_2 ?_
  refine kz_iconst (pc := 3) (v := 2) (by decide) dX12_against_3 ?_
  obtain ⟨⟨fs24, he⟩, h⟩ := h
  refine kz_callV (pc := 4) (μ' := mX12_ofLine) (ci := 11) (q := (RX12, TX12, 32)) (b := a0) (d' := d + 2) (mc' := 0) (ms' := 0) (As := [.int p1, .int p2, .int 2]) (st := []) (c := 0) (sl := 0) kmX12_ofLine kw_1636 (by omega) rfl (Nat.le_of_ble_eq_true rfl) he rfl rfl (Nat.le_refl _) (Nat.le_refl _) dX12_against_4 (fun E M9 hx => kz_Tout rfl (Nat.le_refl _) (Nat.le_refl _) hx) (kz_Cmono (fun v M1 h => ?_) (fun _ _ h => h) h)
  obtain ⟨r2, rfl, h⟩ := h
  show kz_Z G (d + 3) 0 0 mX12_against Qr Qx 7 [(0, .ref a0), (1, .int p1), (2, .int p2)] [.int r2] M1 0 0
  refine kz_iconst (pc := 7) (v := 1) (by decide) dX12_against_7 ?_
  refine kz_icmp_eq (pc := 8) (tgt := 13) (by decide) dX12_against_8 (fun hb => ?_) (fun hb => ?_)
  · replace h := h.1 hb
    refine kz_aload_n (pc := 13) 0 (v := .ref a0) (i := 0) rfl rfl rfl dX12_against_13 ?_
    obtain ⟨fs4, v5, hM, hv, h⟩ := h
    refine kz_getf (pc := 14) (k := 0) kcX12 hM hv (by decide) kw_1378 dX12_against_14 ?_
    refine kz_iconst (pc := 17) (v := 2) (by decide) dX12_against_17 ?_
    obtain ⟨n6, f7, hM, hi, h⟩ := h
    refine kz_iald (pc := 18) hM hi dX12_against_18 ?_
    refine kz_aload_n (pc := 19) 0 (v := .ref a0) (i := 0) rfl rfl rfl dX12_against_19 ?_
    refine kz_iload_n (pc := 20) 1 (i := 1) rfl rfl dX12_against_20 ?_
    refine kz_iconst (pc := 21) (v := 2) (by decide) dX12_against_21 ?_
    obtain ⟨⟨fs23, he⟩, h⟩ := h
    refine kz_callV (pc := 22) (μ' := mX12_of) (ci := 11) (q := (RX12, TX12, 32)) (b := a0) (d' := d + 2) (mc' := 0) (ms' := 0) (As := [.int p1, .int 2]) (st := [.int (f7 (2 : Int32).toNatClampNeg)]) (c := 0) (sl := 0) kmX12_of kw_1620 (by omega) rfl (Nat.le_of_ble_eq_true rfl) he rfl rfl (Nat.le_refl _) (Nat.le_refl _) dX12_against_22 (fun E M9 hx => kz_Tout rfl (Nat.le_refl _) (Nat.le_refl _) hx) (kz_Cmono (fun v M8 h => ?_) (fun _ _ h => h) h)
    obtain ⟨r9, rfl, h⟩ := h
    show kz_Z G (d + 3) 0 0 mX12_against Qr Qx 25 [(0, .ref a0), (1, .int p1), (2, .int p2)] [.int r9, .int (f7 (2 : Int32).toNatClampNeg)] M8 0 0
    refine kz_aload_n (pc := 25) 0 (v := .ref a0) (i := 0) rfl rfl rfl dX12_against_25 ?_
    refine kz_iconst (pc := 26) (v := 4) (by decide) dX12_against_26 ?_
    obtain ⟨⟨fs22, he⟩, h⟩ := h
    refine kz_callV (pc := 27) (μ' := mX12_its) (ci := 11) (q := (RX12, TX12, 32)) (b := a0) (d' := d + 2) (mc' := 0) (ms' := 0) (As := [.int 4]) (st := [.int r9, .int (f7 (2 : Int32).toNatClampNeg)]) (c := 0) (sl := 0) kmX12_its kw_1657 (by omega) rfl (Nat.le_of_ble_eq_true rfl) he rfl rfl (Nat.le_refl _) (Nat.le_refl _) dX12_against_27 (fun E M9 hx => kz_Tout rfl (Nat.le_refl _) (Nat.le_refl _) hx) (kz_Cmono (fun v M11 h => ?_) (fun _ _ h => h) h)
    obtain ⟨r12, rfl, h⟩ := h
    show kz_Z G (d + 3) 0 0 mX12_against Qr Qx 30 [(0, .ref a0), (1, .int p1), (2, .int p2)] [.int r12, .int r9, .int (f7 (2 : Int32).toNatClampNeg)] M11 0 0
    refine kz_iadd (pc := 30) dX12_against_30 ?_
    refine kz_icmp_le (pc := 31) (tgt := 36) (by decide) dX12_against_31 (fun hb => ?_) (fun hb => ?_)
    · replace h := h.1 hb
      refine kz_aload_n (pc := 36) 0 (v := .ref a0) (i := 0) rfl rfl rfl dX12_against_36 ?_
      refine kz_aload_n (pc := 37) 0 (v := .ref a0) (i := 0) rfl rfl rfl dX12_against_37 ?_
      refine kz_iload_n (pc := 38) 1 (i := 1) rfl rfl dX12_against_38 ?_
      refine kz_iconst (pc := 39) (v := 0) (by decide) dX12_against_39 ?_
      obtain ⟨⟨fs21, he⟩, h⟩ := h
      refine kz_callV (pc := 40) (μ' := mX12_of) (ci := 11) (q := (RX12, TX12, 32)) (b := a0) (d' := d + 2) (mc' := 0) (ms' := 0) (As := [.int p1, .int 0]) (st := [.ref a0]) (c := 0) (sl := 0) kmX12_of kw_1620 (by omega) rfl (Nat.le_of_ble_eq_true rfl) he rfl rfl (Nat.le_refl _) (Nat.le_refl _) dX12_against_40 (fun E M9 hx => kz_Tout rfl (Nat.le_refl _) (Nat.le_refl _) hx) (kz_Cmono (fun v M14 h => ?_) (fun _ _ h => h) h)
      obtain ⟨r15, rfl, h⟩ := h
      show kz_Z G (d + 3) 0 0 mX12_against Qr Qx 43 [(0, .ref a0), (1, .int p1), (2, .int p2)] [.int r15, .ref a0] M14 0 0
      refine kz_iconst (pc := 43) (v := 3) (by decide) dX12_against_43 ?_
      obtain ⟨⟨fs20, he⟩, h⟩ := h
      refine kz_callV (pc := 44) (μ' := mX12_inState) (ci := 11) (q := (RX12, TX12, 32)) (b := a0) (d' := d + 2) (mc' := 0) (ms' := 0) (As := [.int r15, .int 3]) (st := []) (c := 0) (sl := 0) kmX12_inState kw_1677 (by omega) rfl (Nat.le_of_ble_eq_true rfl) he rfl rfl (Nat.le_refl _) (Nat.le_refl _) dX12_against_44 (fun E M9 hx => kz_Tout rfl (Nat.le_refl _) (Nat.le_refl _) hx) (kz_Cmono (fun v M17 h => ?_) (fun _ _ h => h) h)
      obtain ⟨r18, rfl, h⟩ := h
      show kz_Z G (d + 3) 0 0 mX12_against Qr Qx 47 [(0, .ref a0), (1, .int p1), (2, .int p2)] [.int r18] M17 0 0
      refine kz_iconst (pc := 47) (v := 3) (by decide) dX12_against_47 ?_
      refine kz_icmp_lt (pc := 48) (tgt := 55) (by decide) dX12_against_48 (fun hb => ?_) (fun hb => ?_)
      · replace h := h.1 hb
        refine kz_iconst (pc := 55) (v := 0) (by decide) dX12_against_55 ?_
        exact kz_iret (pc := 56) rfl (Nat.le_refl _) (Nat.le_refl _) dX12_against_56 h
      · replace h := h.2 hb
        refine kz_iconst (pc := 51) (v := 3) (by decide) dX12_against_51 ?_
        refine kz_goto (pc := 52) (tgt := 56) (by decide) dX12_against_52 ?_
        exact kz_iret (pc := 56) rfl (Nat.le_refl _) (Nat.le_refl _) dX12_against_56 h
    · replace h := h.2 hb
      refine kz_iconst (pc := 34) (v := 2) (by decide) dX12_against_34 ?_
      exact kz_iret (pc := 35) rfl (Nat.le_refl _) (Nat.le_refl _) dX12_against_35 h
  · replace h := h.2 hb
    refine kz_iconst (pc := 11) (v := 1) (by decide) dX12_against_11 ?_
    exact kz_iret (pc := 12) rfl (Nat.le_refl _) (Nat.le_refl _) dX12_against_12 h
theorem dX12_isVaried_0 : decode cX12_isVaried 0 = .ok (.aload_n 0, 1) := by decide +kernel
theorem dX12_isVaried_1 : decode cX12_isVaried 1 = .ok (.iload_n 1, 1) := by decide +kernel
theorem dX12_isVaried_2 : decode cX12_isVaried 2 = .ok (.iload_n 2, 1) := by decide +kernel
theorem dX12_isVaried_3 : decode cX12_isVaried 3 = .ok (.invokevirtual 364, 3) := by decide +kernel
theorem dX12_isVaried_6 : decode cX12_isVaried 6 = .ok (.aload_n 0, 1) := by decide +kernel
theorem dX12_isVaried_7 : decode cX12_isVaried 7 = .ok (.iconst 5, 1) := by decide +kernel
theorem dX12_isVaried_8 : decode cX12_isVaried 8 = .ok (.invokevirtual 141, 3) := by decide +kernel
theorem dX12_isVaried_11 : decode cX12_isVaried 11 = .ok (.if_icmp .lt 7, 3) := by decide +kernel
theorem dX12_isVaried_14 : decode cX12_isVaried 14 = .ok (.iconst 1, 1) := by decide +kernel
theorem dX12_isVaried_15 : decode cX12_isVaried 15 = .ok (.goto 4, 3) := by decide +kernel
theorem dX12_isVaried_18 : decode cX12_isVaried 18 = .ok (.iconst 0, 1) := by decide +kernel
theorem dX12_isVaried_19 : decode cX12_isVaried 19 = .ok (.ireturn, 1) := by decide +kernel
theorem rX12_isVaried_0 {G : kz_G} {d : Nat} {Qr : Option Value → kz_M → Prop} {Qx : String → kz_M → Prop} {a0 : Nat} {p1 : Int32} {p2 : Int32}  {M : kz_M} (h : (∃ fs8, (M).1 a0 = some (.inl (11, fs8))) ∧ kz_C G (d + 3) 0 0 mX12_distinctOf [.ref a0, .int p1, .int p2] M (fun v M1 => ∃ r2 : Int32, v = some (.int r2) ∧ ((∃ fs7, (M1).1 a0 = some (.inl (11, fs7))) ∧ kz_C G (d + 3) 0 0 mX12_its [.ref a0, .int 5] M1 (fun v M4 => ∃ r5 : Int32, v = some (.int r5) ∧ ((r2 < r5 → Qr (some (.int 0)) M4) ∧ (¬ r2 < r5 → Qr (some (.int 1)) M4))) Qx)) Qx) : kz_C G (d + 4) 0 0 mX12_isVaried [.ref a0, .int p1, .int p2] M Qr Qx := by
  refine kz_enter (n := 2) kmX12_isVaried.1 (Nat.le_of_ble_eq_true rfl) (ls := [(0, .ref a0), (1, .int p1), (2, .int p2)]) rfl ?_
  refine kz_aload_n (pc := 0) 0 (v := .ref a0) (i := 0) rfl rfl rfl dX12_isVaried_0 ?_
  refine kz_iload_n (pc := 1) 1 (i := 1) rfl rfl dX12_isVaried_1 ?_
  refine kz_iload_n (pc := 2) 2 (i := 2) rfl rfl dX12_isVaried_2 ?_
  obtain ⟨⟨fs8, he⟩, h⟩ := h
  refine kz_callV (pc := 3) (μ' := mX12_distinctOf) (ci := 11) (q := (RX12, TX12, 32)) (b := a0) (d' := d + 3) (mc' := 0) (ms' := 0) (As := [.int p1, .int p2]) (st := []) (c := 0) (sl := 0) kmX12_distinctOf kw_1740 (by omega) rfl (Nat.le_of_ble_eq_true rfl) he rfl rfl (Nat.le_refl _) (Nat.le_refl _) dX12_isVaried_3 (fun E M9 hx => kz_Tout rfl (Nat.le_refl _) (Nat.le_refl _) hx) (kz_Cmono (fun v M1 h => ?_) (fun _ _ h => h) h)
  obtain ⟨r2, rfl, h⟩ := h
  show kz_Z G (d + 4) 0 0 mX12_isVaried Qr Qx 6 [(0, .ref a0), (1, .int p1), (2, .int p2)] [.int r2] M1 0 0
  refine kz_aload_n (pc := 6) 0 (v := .ref a0) (i := 0) rfl rfl rfl dX12_isVaried_6 ?_
  refine kz_iconst (pc := 7) (v := 5) (by decide) dX12_isVaried_7 ?_
  obtain ⟨⟨fs7, he⟩, h⟩ := h
  refine kz_callV (pc := 8) (μ' := mX12_its) (ci := 11) (q := (RX12, TX12, 32)) (b := a0) (d' := d + 3) (mc' := 0) (ms' := 0) (As := [.int 5]) (st := [.int r2]) (c := 0) (sl := 0) kmX12_its kw_1657 (by omega) rfl (Nat.le_of_ble_eq_true rfl) he rfl rfl (Nat.le_refl _) (Nat.le_refl _) dX12_isVaried_8 (fun E M9 hx => kz_Tout rfl (Nat.le_refl _) (Nat.le_refl _) hx) (kz_Cmono (fun v M4 h => ?_) (fun _ _ h => h) h)
  obtain ⟨r5, rfl, h⟩ := h
  show kz_Z G (d + 4) 0 0 mX12_isVaried Qr Qx 11 [(0, .ref a0), (1, .int p1), (2, .int p2)] [.int r5, .int r2] M4 0 0
  refine kz_icmp_lt (pc := 11) (tgt := 18) (by decide) dX12_isVaried_11 (fun hb => ?_) (fun hb => ?_)
  · replace h := h.1 hb
    refine kz_iconst (pc := 18) (v := 0) (by decide) dX12_isVaried_18 ?_
    exact kz_zret (pc := 19) (ty := .boolean) rfl (by decide) (Nat.le_refl _) (Nat.le_refl _) dX12_isVaried_19 h
  · replace h := h.2 hb
    refine kz_iconst (pc := 14) (v := 1) (by decide) dX12_isVaried_14 ?_
    refine kz_goto (pc := 15) (tgt := 19) (by decide) dX12_isVaried_15 ?_
    exact kz_zret (pc := 19) (ty := .boolean) rfl (by decide) (Nat.le_refl _) (Nat.le_refl _) dX12_isVaried_19 h
theorem dX12_whyNot_0 : decode cX12_whyNot 0 = .ok (.aload_n 0, 1) := by decide +kernel
theorem dX12_whyNot_1 : decode cX12_whyNot 1 = .ok (.iconst 0, 1) := by decide +kernel
theorem dX12_whyNot_2 : decode cX12_whyNot 2 = .ok (.putfield 60, 3) := by decide +kernel
theorem dX12_whyNot_5 : decode cX12_whyNot 5 = .ok (.aload_n 0, 1) := by decide +kernel
theorem dX12_whyNot_6 : decode cX12_whyNot 6 = .ok (.iload_n 1, 1) := by decide +kernel
theorem dX12_whyNot_7 : decode cX12_whyNot 7 = .ok (.iload_n 2, 1) := by decide +kernel
theorem dX12_whyNot_8 : decode cX12_whyNot 8 = .ok (.invokevirtual 358, 3) := by decide +kernel
theorem dX12_whyNot_11 : decode cX12_whyNot 11 = .ok (.ifCond .eq 7, 3) := by decide +kernel
theorem dX12_whyNot_14 : decode cX12_whyNot 14 = .ok (.iconst 0, 1) := by decide +kernel
theorem dX12_whyNot_15 : decode cX12_whyNot 15 = .ok (.goto 9, 3) := by decide +kernel
theorem dX12_whyNot_18 : decode cX12_whyNot 18 = .ok (.aload_n 0, 1) := by decide +kernel
theorem dX12_whyNot_19 : decode cX12_whyNot 19 = .ok (.iload_n 1, 1) := by decide +kernel
theorem dX12_whyNot_20 : decode cX12_whyNot 20 = .ok (.iload_n 2, 1) := by decide +kernel
theorem dX12_whyNot_21 : decode cX12_whyNot 21 = .ok (.invokevirtual 407, 3) := by decide +kernel
theorem dX12_whyNot_24 : decode cX12_whyNot 24 = .ok (.ireturn, 1) := by decide +kernel
theorem rX12_whyNot_0 {G : kz_G} {d : Nat} {Qr : Option Value → kz_M → Prop} {Qx : String → kz_M → Prop} {a0 : Nat} {p1 : Int32} {p2 : Int32}  {M : kz_M} (h : ∃ fs1, (M).1 a0 = some (.inl (11, fs1)) ∧ 9 < fs1.length ∧ ((∃ fs9, ((kz_up M a0 (.inl (11, fs1.set 9 (.int 0))))).1 a0 = some (.inl (11, fs9))) ∧ kz_C G (d + 3) 0 0 mX12_noLine [.ref a0, .int p1, .int p2] (kz_up M a0 (.inl (11, fs1.set 9 (.int 0)))) (fun v M2 => ∃ r3 : Int32, v = some (.int r3) ∧ ((r3 = 0 → (∃ fs8, (M2).1 a0 = some (.inl (11, fs8))) ∧ kz_C G (d + 3) 0 0 mX12_against [.ref a0, .int p1, .int p2] M2 (fun v M5 => ∃ r6 : Int32, v = some (.int r6) ∧ (Qr (some (.int r6)) M5)) Qx) ∧ (¬ r3 = 0 → Qr (some (.int 0)) M2))) Qx)) : kz_C G (d + 4) 0 0 mX12_whyNot [.ref a0, .int p1, .int p2] M Qr Qx := by
  refine kz_enter (n := 2) kmX12_whyNot.1 (Nat.le_of_ble_eq_true rfl) (ls := [(0, .ref a0), (1, .int p1), (2, .int p2)]) rfl ?_
  refine kz_aload_n (pc := 0) 0 (v := .ref a0) (i := 0) rfl rfl rfl dX12_whyNot_0 ?_
  refine kz_iconst (pc := 1) (v := 0) (by decide) dX12_whyNot_1 ?_
  obtain ⟨fs1, hM, hlen, h⟩ := h
  refine kz_putf (pc := 2) (k := 9) kcX12 hM (by decide) hlen kw_1387 rfl rfl rfl dX12_whyNot_2 ?_
  refine kz_aload_n (pc := 5) 0 (v := .ref a0) (i := 0) rfl rfl rfl dX12_whyNot_5 ?_
  refine kz_iload_n (pc := 6) 1 (i := 1) rfl rfl dX12_whyNot_6 ?_
  refine kz_iload_n (pc := 7) 2 (i := 2) rfl rfl dX12_whyNot_7 ?_
  obtain ⟨⟨fs9, he⟩, h⟩ := h
  refine kz_callV (pc := 8) (μ' := mX12_noLine) (ci := 11) (q := (RX12, TX12, 32)) (b := a0) (d' := d + 3) (mc' := 0) (ms' := 0) (As := [.int p1, .int p2]) (st := []) (c := 0) (sl := 0) kmX12_noLine kw_1729 (by omega) rfl (Nat.le_of_ble_eq_true rfl) he rfl rfl (Nat.le_refl _) (Nat.le_refl _) dX12_whyNot_8 (fun E M9 hx => kz_Tout rfl (Nat.le_refl _) (Nat.le_refl _) hx) (kz_Cmono (fun v M2 h => ?_) (fun _ _ h => h) h)
  obtain ⟨r3, rfl, h⟩ := h
  show kz_Z G (d + 4) 0 0 mX12_whyNot Qr Qx 11 [(0, .ref a0), (1, .int p1), (2, .int p2)] [.int r3] M2 0 0
  refine kz_if_eq (pc := 11) (tgt := 18) (by decide) dX12_whyNot_11 (fun hb => ?_) (fun hb => ?_)
  · replace h := h.1 hb
    refine kz_aload_n (pc := 18) 0 (v := .ref a0) (i := 0) rfl rfl rfl dX12_whyNot_18 ?_
    refine kz_iload_n (pc := 19) 1 (i := 1) rfl rfl dX12_whyNot_19 ?_
    refine kz_iload_n (pc := 20) 2 (i := 2) rfl rfl dX12_whyNot_20 ?_
    obtain ⟨⟨fs8, he⟩, h⟩ := h
    refine kz_callV (pc := 21) (μ' := mX12_against) (ci := 11) (q := (RX12, TX12, 32)) (b := a0) (d' := d + 3) (mc' := 0) (ms' := 0) (As := [.int p1, .int p2]) (st := []) (c := 0) (sl := 0) kmX12_against kw_1915 (by omega) rfl (Nat.le_of_ble_eq_true rfl) he rfl rfl (Nat.le_refl _) (Nat.le_refl _) dX12_whyNot_21 (fun E M9 hx => kz_Tout rfl (Nat.le_refl _) (Nat.le_refl _) hx) (kz_Cmono (fun v M5 h => ?_) (fun _ _ h => h) h)
    obtain ⟨r6, rfl, h⟩ := h
    show kz_Z G (d + 4) 0 0 mX12_whyNot Qr Qx 24 [(0, .ref a0), (1, .int p1), (2, .int p2)] [.int r6] M5 0 0
    exact kz_iret (pc := 24) rfl (Nat.le_refl _) (Nat.le_refl _) dX12_whyNot_24 h
  · replace h := h.2 hb
    refine kz_iconst (pc := 14) (v := 0) (by decide) dX12_whyNot_14 ?_
    refine kz_goto (pc := 15) (tgt := 24) (by decide) dX12_whyNot_15 ?_
    exact kz_iret (pc := 24) rfl (Nat.le_refl _) (Nat.le_refl _) dX12_whyNot_24 h
theorem dX12_hopes_0 : decode cX12_hopes 0 = .ok (.aload_n 0, 1) := by decide +kernel
theorem dX12_hopes_1 : decode cX12_hopes 1 = .ok (.iconst 0, 1) := by decide +kernel
theorem dX12_hopes_2 : decode cX12_hopes 2 = .ok (.putfield 60, 3) := by decide +kernel
theorem dX12_hopes_5 : decode cX12_hopes 5 = .ok (.aload_n 0, 1) := by decide +kernel
theorem dX12_hopes_6 : decode cX12_hopes 6 = .ok (.iload_n 1, 1) := by decide +kernel
theorem dX12_hopes_7 : decode cX12_hopes 7 = .ok (.invokevirtual 340, 3) := by decide +kernel
theorem dX12_hopes_10 : decode cX12_hopes 10 = .ok (.ifCond .eq 5, 3) := by decide +kernel
theorem dX12_hopes_13 : decode cX12_hopes 13 = .ok (.iconst 0, 1) := by decide +kernel
theorem dX12_hopes_14 : decode cX12_hopes 14 = .ok (.ireturn, 1) := by decide +kernel
theorem dX12_hopes_15 : decode cX12_hopes 15 = .ok (.iconst 0, 1) := by decide +kernel
theorem dX12_hopes_16 : decode cX12_hopes 16 = .ok (.istore_n 2, 1) := by decide +kernel
theorem dX12_hopes_17 : decode cX12_hopes 17 = .ok (.iconst 0, 1) := by decide +kernel
theorem dX12_hopes_18 : decode cX12_hopes 18 = .ok (.istore_n 3, 1) := by decide +kernel
theorem dX12_hopes_19 : decode cX12_hopes 19 = .ok (.iload_n 3, 1) := by decide +kernel
theorem dX12_hopes_20 : decode cX12_hopes 20 = .ok (.aload_n 0, 1) := by decide +kernel
theorem dX12_hopes_21 : decode cX12_hopes 21 = .ok (.getfield 7, 3) := by decide +kernel
theorem dX12_hopes_24 : decode cX12_hopes 24 = .ok (.iconst 1, 1) := by decide +kernel
theorem dX12_hopes_25 : decode cX12_hopes 25 = .ok (.iaload, 1) := by decide +kernel
theorem dX12_hopes_26 : decode cX12_hopes 26 = .ok (.if_icmp .ge 69, 3) := by decide +kernel
theorem dX12_hopes_29 : decode cX12_hopes 29 = .ok (.aload_n 0, 1) := by decide +kernel
theorem dX12_hopes_30 : decode cX12_hopes 30 = .ok (.iload_n 3, 1) := by decide +kernel
theorem dX12_hopes_31 : decode cX12_hopes 31 = .ok (.iload_n 1, 1) := by decide +kernel
theorem dX12_hopes_32 : decode cX12_hopes 32 = .ok (.invokevirtual 116, 3) := by decide +kernel
theorem dX12_hopes_35 : decode cX12_hopes 35 = .ok (.ifCond .ne 6, 3) := by decide +kernel
theorem dX12_hopes_38 : decode cX12_hopes 38 = .ok (.goto 51, 3) := by decide +kernel
theorem dX12_hopes_41 : decode cX12_hopes 41 = .ok (.iconst 0, 1) := by decide +kernel
theorem dX12_hopes_42 : decode cX12_hopes 42 = .ok (.istore 4, 2) := by decide +kernel
theorem dX12_hopes_44 : decode cX12_hopes 44 = .ok (.iload 4, 2) := by decide +kernel
theorem dX12_hopes_46 : decode cX12_hopes 46 = .ok (.aload_n 0, 1) := by decide +kernel
theorem dX12_hopes_47 : decode cX12_hopes 47 = .ok (.iload_n 3, 1) := by decide +kernel
theorem dX12_hopes_48 : decode cX12_hopes 48 = .ok (.iconst 4, 1) := by decide +kernel
theorem dX12_hopes_49 : decode cX12_hopes 49 = .ok (.invokevirtual 101, 3) := by decide +kernel
theorem dX12_hopes_52 : decode cX12_hopes 52 = .ok (.if_icmp .ge 37, 3) := by decide +kernel
theorem dX12_hopes_55 : decode cX12_hopes 55 = .ok (.iload_n 2, 1) := by decide +kernel
theorem dX12_hopes_56 : decode cX12_hopes 56 = .ok (.aload_n 0, 1) := by decide +kernel
theorem dX12_hopes_57 : decode cX12_hopes 57 = .ok (.iload_n 3, 1) := by decide +kernel
theorem dX12_hopes_58 : decode cX12_hopes 58 = .ok (.iload 4, 2) := by decide +kernel
theorem dX12_hopes_60 : decode cX12_hopes 60 = .ok (.invokevirtual 407, 3) := by decide +kernel
theorem dX12_hopes_63 : decode cX12_hopes 63 = .ok (.ifCond .ne 17, 3) := by decide +kernel
theorem dX12_hopes_66 : decode cX12_hopes 66 = .ok (.aload_n 0, 1) := by decide +kernel
theorem dX12_hopes_67 : decode cX12_hopes 67 = .ok (.iload_n 3, 1) := by decide +kernel
theorem dX12_hopes_68 : decode cX12_hopes 68 = .ok (.iload 4, 2) := by decide +kernel
theorem dX12_hopes_70 : decode cX12_hopes 70 = .ok (.invokevirtual 410, 3) := by decide +kernel
theorem dX12_hopes_73 : decode cX12_hopes 73 = .ok (.ifCond .eq 7, 3) := by decide +kernel
theorem dX12_hopes_76 : decode cX12_hopes 76 = .ok (.iconst 1, 1) := by decide +kernel
theorem dX12_hopes_77 : decode cX12_hopes 77 = .ok (.goto 4, 3) := by decide +kernel
theorem dX12_hopes_80 : decode cX12_hopes 80 = .ok (.iconst 0, 1) := by decide +kernel
theorem dX12_hopes_81 : decode cX12_hopes 81 = .ok (.iadd, 1) := by decide +kernel
theorem dX12_hopes_82 : decode cX12_hopes 82 = .ok (.istore_n 2, 1) := by decide +kernel
theorem dX12_hopes_83 : decode cX12_hopes 83 = .ok (.iinc 4 1, 3) := by decide +kernel
theorem dX12_hopes_86 : decode cX12_hopes 86 = .ok (.goto (-42), 3) := by decide +kernel
theorem dX12_hopes_89 : decode cX12_hopes 89 = .ok (.iinc 3 1, 3) := by decide +kernel
theorem dX12_hopes_92 : decode cX12_hopes 92 = .ok (.goto (-73), 3) := by decide +kernel
theorem dX12_hopes_95 : decode cX12_hopes 95 = .ok (.iload_n 2, 1) := by decide +kernel
theorem dX12_hopes_96 : decode cX12_hopes 96 = .ok (.ireturn, 1) := by decide +kernel
def zX12_hopes_19 (G : kz_G) (d : Nat) (Qr : Option Value → kz_M → Prop) (Qx : String → kz_M → Prop) (x0 : Nat) (x1 : Int32) (x2 : Int32) (x3 : Int32)  (M : kz_M) : Prop := kz_Z G (d + 5) 0 0 mX12_hopes Qr Qx 19 [(0, .ref x0), (1, .int x1), (2, .int x2), (3, .int x3)] [] M 0 0
def zX12_hopes_44 (G : kz_G) (d : Nat) (Qr : Option Value → kz_M → Prop) (Qx : String → kz_M → Prop) (x0 : Nat) (x1 : Int32) (x2 : Int32) (x3 : Int32) (x4 : Int32)  (M : kz_M) : Prop := kz_Z G (d + 5) 0 0 mX12_hopes Qr Qx 44 [(0, .ref x0), (1, .int x1), (2, .int x2), (3, .int x3), (4, .int x4)] [] M 0 0
theorem rX12_hopes_0 {G : kz_G} {d : Nat} {Qr : Option Value → kz_M → Prop} {Qx : String → kz_M → Prop} {a0 : Nat} {p1 : Int32}  {M : kz_M} (h : ∃ fs1, (M).1 a0 = some (.inl (11, fs1)) ∧ 9 < fs1.length ∧ ((∃ fs5, ((kz_up M a0 (.inl (11, fs1.set 9 (.int 0))))).1 a0 = some (.inl (11, fs5))) ∧ kz_C G (d + 4) 0 0 mX12_noWriter [.ref a0, .int p1] (kz_up M a0 (.inl (11, fs1.set 9 (.int 0)))) (fun v M2 => ∃ r3 : Int32, v = some (.int r3) ∧ ((r3 = 0 → zX12_hopes_19 G d Qr Qx a0 p1 0 0 M2) ∧ (¬ r3 = 0 → Qr (some (.int 0)) M2))) Qx)) : kz_C G (d + 5) 0 0 mX12_hopes [.ref a0, .int p1] M Qr Qx := by
  refine kz_enter (n := 1) kmX12_hopes.1 (Nat.le_of_ble_eq_true rfl) (ls := [(0, .ref a0), (1, .int p1)]) rfl ?_
  refine kz_aload_n (pc := 0) 0 (v := .ref a0) (i := 0) rfl rfl rfl dX12_hopes_0 ?_
  refine kz_iconst (pc := 1) (v := 0) (by decide) dX12_hopes_1 ?_
  obtain ⟨fs1, hM, hlen, h⟩ := h
  refine kz_putf (pc := 2) (k := 9) kcX12 hM (by decide) hlen kw_1387 rfl rfl rfl dX12_hopes_2 ?_
  refine kz_aload_n (pc := 5) 0 (v := .ref a0) (i := 0) rfl rfl rfl dX12_hopes_5 ?_
  refine kz_iload_n (pc := 6) 1 (i := 1) rfl rfl dX12_hopes_6 ?_
  obtain ⟨⟨fs5, he⟩, h⟩ := h
  refine kz_callV (pc := 7) (μ' := mX12_noWriter) (ci := 11) (q := (RX12, TX12, 32)) (b := a0) (d' := d + 4) (mc' := 0) (ms' := 0) (As := [.int p1]) (st := []) (c := 0) (sl := 0) kmX12_noWriter kw_1665 (by omega) rfl (Nat.le_of_ble_eq_true rfl) he rfl rfl (Nat.le_refl _) (Nat.le_refl _) dX12_hopes_7 (fun E M9 hx => kz_Tout rfl (Nat.le_refl _) (Nat.le_refl _) hx) (kz_Cmono (fun v M2 h => ?_) (fun _ _ h => h) h)
  obtain ⟨r3, rfl, h⟩ := h
  show kz_Z G (d + 5) 0 0 mX12_hopes Qr Qx 10 [(0, .ref a0), (1, .int p1)] [.int r3] M2 0 0
  refine kz_if_eq (pc := 10) (tgt := 15) (by decide) dX12_hopes_10 (fun hb => ?_) (fun hb => ?_)
  · replace h := h.1 hb
    refine kz_iconst (pc := 15) (v := 0) (by decide) dX12_hopes_15 ?_
    refine kz_istore_n (pc := 16) (i := 2) (ls' := [(0, .ref a0), (1, .int p1)]) rfl (by decide) rfl dX12_hopes_16 ?_
    refine kz_iconst (pc := 17) (v := 0) (by decide) dX12_hopes_17 ?_
    refine kz_istore_n (pc := 18) (i := 3) (ls' := [(2, .int 0), (0, .ref a0), (1, .int p1)]) rfl (by decide) rfl dX12_hopes_18 ?_
    refine kz_sub [2, 3, 1, 0] rfl ?_
    exact h
  · replace h := h.2 hb
    refine kz_iconst (pc := 13) (v := 0) (by decide) dX12_hopes_13 ?_
    exact kz_iret (pc := 14) rfl (Nat.le_refl _) (Nat.le_refl _) dX12_hopes_14 h
theorem rX12_hopes_19 {G : kz_G} {d : Nat} {Qr : Option Value → kz_M → Prop} {Qx : String → kz_M → Prop} {x0 : Nat} {x1 : Int32} {x2 : Int32} {x3 : Int32}  {M : kz_M} (h : ∃ fs1 v2, (M).1 x0 = some (.inl (11, fs1)) ∧ fs1[0]? = some (.ref v2) ∧ (∃ n3 f4, (M).1 v2 = some (.inr (.int, n3, .inl f4)) ∧ vp_in (1 : Int32) n3 ∧ (((f4 (1 : Int32).toNatClampNeg) ≤ x3 → Qr (some (.int x2)) M) ∧ (¬ (f4 (1 : Int32).toNatClampNeg) ≤ x3 → (∃ fs8, (M).1 x0 = some (.inl (11, fs8))) ∧ kz_C G (d + 4) 0 0 mX12_isBy [.ref x0, .int x3, .int x1] M (fun v M5 => ∃ r6 : Int32, v = some (.int r6) ∧ ((¬ r6 = 0 → zX12_hopes_44 G d Qr Qx x0 x1 x2 x3 0 M5) ∧ (r6 = 0 → zX12_hopes_19 G d Qr Qx x0 x1 x2 (x3 + 1) M5))) Qx)))) : zX12_hopes_19 G d Qr Qx x0 x1 x2 x3  M := by
  show kz_Z G (d + 5) 0 0 mX12_hopes Qr Qx 19 [(0, .ref x0), (1, .int x1), (2, .int x2), (3, .int x3)] [] M 0 0
  refine kz_iload_n (pc := 19) 3 (i := 3) rfl rfl dX12_hopes_19 ?_
  refine kz_aload_n (pc := 20) 0 (v := .ref x0) (i := 0) rfl rfl rfl dX12_hopes_20 ?_
  obtain ⟨fs1, v2, hM, hv, h⟩ := h
  refine kz_getf (pc := 21) (k := 0) kcX12 hM hv (by decide) kw_1378 dX12_hopes_21 ?_
  refine kz_iconst (pc := 24) (v := 1) (by decide) dX12_hopes_24 ?_
  obtain ⟨n3, f4, hM, hi, h⟩ := h
  refine kz_iald (pc := 25) hM hi dX12_hopes_25 ?_
  refine kz_icmp_ge (pc := 26) (tgt := 95) (by decide) dX12_hopes_26 (fun hb => ?_) (fun hb => ?_)
  · replace h := h.1 hb
    refine kz_iload_n (pc := 95) 2 (i := 2) rfl rfl dX12_hopes_95 ?_
    exact kz_iret (pc := 96) rfl (Nat.le_refl _) (Nat.le_refl _) dX12_hopes_96 h
  · replace h := h.2 hb
    refine kz_aload_n (pc := 29) 0 (v := .ref x0) (i := 0) rfl rfl rfl dX12_hopes_29 ?_
    refine kz_iload_n (pc := 30) 3 (i := 3) rfl rfl dX12_hopes_30 ?_
    refine kz_iload_n (pc := 31) 1 (i := 1) rfl rfl dX12_hopes_31 ?_
    obtain ⟨⟨fs8, he⟩, h⟩ := h
    refine kz_callV (pc := 32) (μ' := mX12_isBy) (ci := 11) (q := (RX12, TX12, 32)) (b := x0) (d' := d + 4) (mc' := 0) (ms' := 0) (As := [.int x3, .int x1]) (st := []) (c := 0) (sl := 0) kmX12_isBy kw_1616 (by omega) rfl (Nat.le_of_ble_eq_true rfl) he rfl rfl (Nat.le_refl _) (Nat.le_refl _) dX12_hopes_32 (fun E M9 hx => kz_Tout rfl (Nat.le_refl _) (Nat.le_refl _) hx) (kz_Cmono (fun v M5 h => ?_) (fun _ _ h => h) h)
    obtain ⟨r6, rfl, h⟩ := h
    show kz_Z G (d + 5) 0 0 mX12_hopes Qr Qx 35 [(0, .ref x0), (1, .int x1), (2, .int x2), (3, .int x3)] [.int r6] M5 0 0
    refine kz_if_ne (pc := 35) (tgt := 41) (by decide) dX12_hopes_35 (fun hb => ?_) (fun hb => ?_)
    · replace h := h.1 hb
      refine kz_iconst (pc := 41) (v := 0) (by decide) dX12_hopes_41 ?_
      refine kz_istore (pc := 42) (i := 4) (ls' := [(0, .ref x0), (1, .int x1), (2, .int x2), (3, .int x3)]) (by decide) rfl dX12_hopes_42 ?_
      refine kz_sub [1, 2, 3, 4, 0] rfl ?_
      exact h
    · replace h := h.2 hb
      refine kz_goto (pc := 38) (tgt := 89) (by decide) dX12_hopes_38 ?_
      refine kz_iinc (pc := 89) 3 (i := 3) (v := x3 + 1) (ls' := [(0, .ref x0), (1, .int x1), (2, .int x2)]) rfl (congrArg (fun z => x3 + z) (by decide)) (by decide) rfl dX12_hopes_89 ?_
      refine kz_goto (pc := 92) (tgt := 19) (by decide) dX12_hopes_92 ?_
      refine kz_sub [1, 2, 3, 0] rfl ?_
      exact h
theorem rX12_hopes_44 {G : kz_G} {d : Nat} {Qr : Option Value → kz_M → Prop} {Qx : String → kz_M → Prop} {x0 : Nat} {x1 : Int32} {x2 : Int32} {x3 : Int32} {x4 : Int32}  {M : kz_M} (h : (∃ fs12, (M).1 x0 = some (.inl (11, fs12))) ∧ kz_C G (d + 4) 0 0 mX12_of [.ref x0, .int x3, .int 4] M (fun v M1 => ∃ r2 : Int32, v = some (.int r2) ∧ ((r2 ≤ x4 → zX12_hopes_19 G d Qr Qx x0 x1 x2 (x3 + 1) M1) ∧ (¬ r2 ≤ x4 → (∃ fs11, (M1).1 x0 = some (.inl (11, fs11))) ∧ kz_C G (d + 4) 0 0 mX12_against [.ref x0, .int x3, .int x4] M1 (fun v M4 => ∃ r5 : Int32, v = some (.int r5) ∧ ((¬ r5 = 0 → zX12_hopes_44 G d Qr Qx x0 x1 (x2 + 0) x3 (x4 + 1) M4) ∧ (r5 = 0 → (∃ fs10, (M4).1 x0 = some (.inl (11, fs10))) ∧ kz_C G (d + 4) 0 0 mX12_isVaried [.ref x0, .int x3, .int x4] M4 (fun v M7 => ∃ r8 : Int32, v = some (.int r8) ∧ ((r8 = 0 → zX12_hopes_44 G d Qr Qx x0 x1 (x2 + 0) x3 (x4 + 1) M7) ∧ (¬ r8 = 0 → zX12_hopes_44 G d Qr Qx x0 x1 (x2 + 1) x3 (x4 + 1) M7))) Qx))) Qx))) Qx) : zX12_hopes_44 G d Qr Qx x0 x1 x2 x3 x4  M := by
  show kz_Z G (d + 5) 0 0 mX12_hopes Qr Qx 44 [(0, .ref x0), (1, .int x1), (2, .int x2), (3, .int x3), (4, .int x4)] [] M 0 0
  refine kz_iload (pc := 44) 4 (i := 4) rfl dX12_hopes_44 ?_
  refine kz_aload_n (pc := 46) 0 (v := .ref x0) (i := 0) rfl rfl rfl dX12_hopes_46 ?_
  refine kz_iload_n (pc := 47) 3 (i := 3) rfl rfl dX12_hopes_47 ?_
  refine kz_iconst (pc := 48) (v := 4) (by decide) dX12_hopes_48 ?_
  obtain ⟨⟨fs12, he⟩, h⟩ := h
  refine kz_callV (pc := 49) (μ' := mX12_of) (ci := 11) (q := (RX12, TX12, 32)) (b := x0) (d' := d + 4) (mc' := 0) (ms' := 0) (As := [.int x3, .int 4]) (st := [.int x4]) (c := 0) (sl := 0) kmX12_of kw_1620 (by omega) rfl (Nat.le_of_ble_eq_true rfl) he rfl rfl (Nat.le_refl _) (Nat.le_refl _) dX12_hopes_49 (fun E M9 hx => kz_Tout rfl (Nat.le_refl _) (Nat.le_refl _) hx) (kz_Cmono (fun v M1 h => ?_) (fun _ _ h => h) h)
  obtain ⟨r2, rfl, h⟩ := h
  show kz_Z G (d + 5) 0 0 mX12_hopes Qr Qx 52 [(0, .ref x0), (1, .int x1), (2, .int x2), (3, .int x3), (4, .int x4)] [.int r2, .int x4] M1 0 0
  refine kz_icmp_ge (pc := 52) (tgt := 89) (by decide) dX12_hopes_52 (fun hb => ?_) (fun hb => ?_)
  · replace h := h.1 hb
    refine kz_iinc (pc := 89) 3 (i := 3) (v := x3 + 1) (ls' := [(0, .ref x0), (1, .int x1), (2, .int x2), (4, .int x4)]) rfl (congrArg (fun z => x3 + z) (by decide)) (by decide) rfl dX12_hopes_89 ?_
    refine kz_goto (pc := 92) (tgt := 19) (by decide) dX12_hopes_92 ?_
    refine kz_sub [1, 2, 3, 0] rfl ?_
    exact h
  · replace h := h.2 hb
    refine kz_iload_n (pc := 55) 2 (i := 2) rfl rfl dX12_hopes_55 ?_
    refine kz_aload_n (pc := 56) 0 (v := .ref x0) (i := 0) rfl rfl rfl dX12_hopes_56 ?_
    refine kz_iload_n (pc := 57) 3 (i := 3) rfl rfl dX12_hopes_57 ?_
    refine kz_iload (pc := 58) 4 (i := 4) rfl dX12_hopes_58 ?_
    obtain ⟨⟨fs11, he⟩, h⟩ := h
    refine kz_callV (pc := 60) (μ' := mX12_against) (ci := 11) (q := (RX12, TX12, 32)) (b := x0) (d' := d + 4) (mc' := 0) (ms' := 0) (As := [.int x3, .int x4]) (st := [.int x2]) (c := 0) (sl := 0) kmX12_against kw_1915 (by omega) rfl (Nat.le_of_ble_eq_true rfl) he rfl rfl (Nat.le_refl _) (Nat.le_refl _) dX12_hopes_60 (fun E M9 hx => kz_Tout rfl (Nat.le_refl _) (Nat.le_refl _) hx) (kz_Cmono (fun v M4 h => ?_) (fun _ _ h => h) h)
    obtain ⟨r5, rfl, h⟩ := h
    show kz_Z G (d + 5) 0 0 mX12_hopes Qr Qx 63 [(0, .ref x0), (1, .int x1), (2, .int x2), (3, .int x3), (4, .int x4)] [.int r5, .int x2] M4 0 0
    refine kz_if_ne (pc := 63) (tgt := 80) (by decide) dX12_hopes_63 (fun hb => ?_) (fun hb => ?_)
    · replace h := h.1 hb
      refine kz_iconst (pc := 80) (v := 0) (by decide) dX12_hopes_80 ?_
      refine kz_iadd (pc := 81) dX12_hopes_81 ?_
      refine kz_istore_n (pc := 82) (i := 2) (ls' := [(0, .ref x0), (1, .int x1), (3, .int x3), (4, .int x4)]) rfl (by decide) rfl dX12_hopes_82 ?_
      refine kz_iinc (pc := 83) 4 (i := 4) (v := x4 + 1) (ls' := [(2, .int (x2 + 0)), (0, .ref x0), (1, .int x1), (3, .int x3)]) rfl (congrArg (fun z => x4 + z) (by decide)) (by decide) rfl dX12_hopes_83 ?_
      refine kz_goto (pc := 86) (tgt := 44) (by decide) dX12_hopes_86 ?_
      refine kz_sub [2, 3, 1, 4, 0] rfl ?_
      exact h
    · replace h := h.2 hb
      refine kz_aload_n (pc := 66) 0 (v := .ref x0) (i := 0) rfl rfl rfl dX12_hopes_66 ?_
      refine kz_iload_n (pc := 67) 3 (i := 3) rfl rfl dX12_hopes_67 ?_
      refine kz_iload (pc := 68) 4 (i := 4) rfl dX12_hopes_68 ?_
      obtain ⟨⟨fs10, he⟩, h⟩ := h
      refine kz_callV (pc := 70) (μ' := mX12_isVaried) (ci := 11) (q := (RX12, TX12, 32)) (b := x0) (d' := d + 4) (mc' := 0) (ms' := 0) (As := [.int x3, .int x4]) (st := [.int x2]) (c := 0) (sl := 0) kmX12_isVaried kw_1923 (by omega) rfl (Nat.le_of_ble_eq_true rfl) he rfl rfl (Nat.le_refl _) (Nat.le_refl _) dX12_hopes_70 (fun E M9 hx => kz_Tout rfl (Nat.le_refl _) (Nat.le_refl _) hx) (kz_Cmono (fun v M7 h => ?_) (fun _ _ h => h) h)
      obtain ⟨r8, rfl, h⟩ := h
      show kz_Z G (d + 5) 0 0 mX12_hopes Qr Qx 73 [(0, .ref x0), (1, .int x1), (2, .int x2), (3, .int x3), (4, .int x4)] [.int r8, .int x2] M7 0 0
      refine kz_if_eq (pc := 73) (tgt := 80) (by decide) dX12_hopes_73 (fun hb => ?_) (fun hb => ?_)
      · replace h := h.1 hb
        refine kz_iconst (pc := 80) (v := 0) (by decide) dX12_hopes_80 ?_
        refine kz_iadd (pc := 81) dX12_hopes_81 ?_
        refine kz_istore_n (pc := 82) (i := 2) (ls' := [(0, .ref x0), (1, .int x1), (3, .int x3), (4, .int x4)]) rfl (by decide) rfl dX12_hopes_82 ?_
        refine kz_iinc (pc := 83) 4 (i := 4) (v := x4 + 1) (ls' := [(2, .int (x2 + 0)), (0, .ref x0), (1, .int x1), (3, .int x3)]) rfl (congrArg (fun z => x4 + z) (by decide)) (by decide) rfl dX12_hopes_83 ?_
        refine kz_goto (pc := 86) (tgt := 44) (by decide) dX12_hopes_86 ?_
        refine kz_sub [2, 3, 1, 4, 0] rfl ?_
        exact h
      · replace h := h.2 hb
        refine kz_iconst (pc := 76) (v := 1) (by decide) dX12_hopes_76 ?_
        refine kz_goto (pc := 77) (tgt := 81) (by decide) dX12_hopes_77 ?_
        refine kz_iadd (pc := 81) dX12_hopes_81 ?_
        refine kz_istore_n (pc := 82) (i := 2) (ls' := [(0, .ref x0), (1, .int x1), (3, .int x3), (4, .int x4)]) rfl (by decide) rfl dX12_hopes_82 ?_
        refine kz_iinc (pc := 83) 4 (i := 4) (v := x4 + 1) (ls' := [(2, .int (x2 + 1)), (0, .ref x0), (1, .int x1), (3, .int x3)]) rfl (congrArg (fun z => x4 + z) (by decide)) (by decide) rfl dX12_hopes_83 ?_
        refine kz_goto (pc := 86) (tgt := 44) (by decide) dX12_hopes_86 ?_
        refine kz_sub [2, 3, 1, 4, 0] rfl ?_
        exact h
theorem dX12_longestRun_0 : decode cX12_longestRun 0 = .ok (.aload_n 0, 1) := by decide +kernel
theorem dX12_longestRun_1 : decode cX12_longestRun 1 = .ok (.iconst 0, 1) := by decide +kernel
theorem dX12_longestRun_2 : decode cX12_longestRun 2 = .ok (.putfield 60, 3) := by decide +kernel
theorem dX12_longestRun_5 : decode cX12_longestRun 5 = .ok (.aload_n 0, 1) := by decide +kernel
theorem dX12_longestRun_6 : decode cX12_longestRun 6 = .ok (.iload_n 1, 1) := by decide +kernel
theorem dX12_longestRun_7 : decode cX12_longestRun 7 = .ok (.invokevirtual 314, 3) := by decide +kernel
theorem dX12_longestRun_10 : decode cX12_longestRun 10 = .ok (.ifCond .eq 5, 3) := by decide +kernel
theorem dX12_longestRun_13 : decode cX12_longestRun 13 = .ok (.iconst 0, 1) := by decide +kernel
theorem dX12_longestRun_14 : decode cX12_longestRun 14 = .ok (.ireturn, 1) := by decide +kernel
theorem dX12_longestRun_15 : decode cX12_longestRun 15 = .ok (.iconst 0, 1) := by decide +kernel
theorem dX12_longestRun_16 : decode cX12_longestRun 16 = .ok (.istore_n 2, 1) := by decide +kernel
theorem dX12_longestRun_17 : decode cX12_longestRun 17 = .ok (.iconst 0, 1) := by decide +kernel
theorem dX12_longestRun_18 : decode cX12_longestRun 18 = .ok (.istore_n 3, 1) := by decide +kernel
theorem dX12_longestRun_19 : decode cX12_longestRun 19 = .ok (.iconst 0, 1) := by decide +kernel
theorem dX12_longestRun_20 : decode cX12_longestRun 20 = .ok (.istore 4, 2) := by decide +kernel
theorem dX12_longestRun_22 : decode cX12_longestRun 22 = .ok (.iload 4, 2) := by decide +kernel
theorem dX12_longestRun_24 : decode cX12_longestRun 24 = .ok (.aload_n 0, 1) := by decide +kernel
theorem dX12_longestRun_25 : decode cX12_longestRun 25 = .ok (.iload_n 1, 1) := by decide +kernel
theorem dX12_longestRun_26 : decode cX12_longestRun 26 = .ok (.iconst 4, 1) := by decide +kernel
theorem dX12_longestRun_27 : decode cX12_longestRun 27 = .ok (.invokevirtual 101, 3) := by decide +kernel
theorem dX12_longestRun_30 : decode cX12_longestRun 30 = .ok (.if_icmp .ge 33, 3) := by decide +kernel
theorem dX12_longestRun_33 : decode cX12_longestRun 33 = .ok (.aload_n 0, 1) := by decide +kernel
theorem dX12_longestRun_34 : decode cX12_longestRun 34 = .ok (.iload_n 1, 1) := by decide +kernel
theorem dX12_longestRun_35 : decode cX12_longestRun 35 = .ok (.iload 4, 2) := by decide +kernel
theorem dX12_longestRun_37 : decode cX12_longestRun 37 = .ok (.invokevirtual 120, 3) := by decide +kernel
theorem dX12_longestRun_40 : decode cX12_longestRun 40 = .ok (.ifCond .eq 9, 3) := by decide +kernel
theorem dX12_longestRun_43 : decode cX12_longestRun 43 = .ok (.iload_n 3, 1) := by decide +kernel
theorem dX12_longestRun_44 : decode cX12_longestRun 44 = .ok (.iconst 1, 1) := by decide +kernel
theorem dX12_longestRun_45 : decode cX12_longestRun 45 = .ok (.iadd, 1) := by decide +kernel
theorem dX12_longestRun_46 : decode cX12_longestRun 46 = .ok (.goto 4, 3) := by decide +kernel
theorem dX12_longestRun_49 : decode cX12_longestRun 49 = .ok (.iconst 0, 1) := by decide +kernel
theorem dX12_longestRun_50 : decode cX12_longestRun 50 = .ok (.istore_n 3, 1) := by decide +kernel
theorem dX12_longestRun_51 : decode cX12_longestRun 51 = .ok (.iload_n 2, 1) := by decide +kernel
theorem dX12_longestRun_52 : decode cX12_longestRun 52 = .ok (.iload_n 3, 1) := by decide +kernel
theorem dX12_longestRun_53 : decode cX12_longestRun 53 = .ok (.invokestatic 320, 3) := by decide +kernel
theorem dX12_longestRun_56 : decode cX12_longestRun 56 = .ok (.istore_n 2, 1) := by decide +kernel
theorem dX12_longestRun_57 : decode cX12_longestRun 57 = .ok (.iinc 4 1, 3) := by decide +kernel
theorem dX12_longestRun_60 : decode cX12_longestRun 60 = .ok (.goto (-38), 3) := by decide +kernel
theorem dX12_longestRun_63 : decode cX12_longestRun 63 = .ok (.iload_n 2, 1) := by decide +kernel
theorem dX12_longestRun_64 : decode cX12_longestRun 64 = .ok (.ireturn, 1) := by decide +kernel
def zX12_longestRun_22 (G : kz_G) (d : Nat) (Qr : Option Value → kz_M → Prop) (Qx : String → kz_M → Prop) (x0 : Nat) (x1 : Int32) (x2 : Int32) (x3 : Int32) (x4 : Int32)  (M : kz_M) : Prop := kz_Z G (d + 3) 0 0 mX12_longestRun Qr Qx 22 [(0, .ref x0), (1, .int x1), (2, .int x2), (3, .int x3), (4, .int x4)] [] M 0 0
theorem rX12_longestRun_0 {G : kz_G} {d : Nat} {Qr : Option Value → kz_M → Prop} {Qx : String → kz_M → Prop} {a0 : Nat} {p1 : Int32}  {M : kz_M} (h : ∃ fs1, (M).1 a0 = some (.inl (11, fs1)) ∧ 9 < fs1.length ∧ ((∃ fs5, ((kz_up M a0 (.inl (11, fs1.set 9 (.int 0))))).1 a0 = some (.inl (11, fs5))) ∧ kz_C G (d + 2) 0 0 mX12_noWork [.ref a0, .int p1] (kz_up M a0 (.inl (11, fs1.set 9 (.int 0)))) (fun v M2 => ∃ r3 : Int32, v = some (.int r3) ∧ ((r3 = 0 → zX12_longestRun_22 G d Qr Qx a0 p1 0 0 0 M2) ∧ (¬ r3 = 0 → Qr (some (.int 0)) M2))) Qx)) : kz_C G (d + 3) 0 0 mX12_longestRun [.ref a0, .int p1] M Qr Qx := by
  refine kz_enter (n := 1) kmX12_longestRun.1 (Nat.le_of_ble_eq_true rfl) (ls := [(0, .ref a0), (1, .int p1)]) rfl ?_
  refine kz_aload_n (pc := 0) 0 (v := .ref a0) (i := 0) rfl rfl rfl dX12_longestRun_0 ?_
  refine kz_iconst (pc := 1) (v := 0) (by decide) dX12_longestRun_1 ?_
  obtain ⟨fs1, hM, hlen, h⟩ := h
  refine kz_putf (pc := 2) (k := 9) kcX12 hM (by decide) hlen kw_1387 rfl rfl rfl dX12_longestRun_2 ?_
  refine kz_aload_n (pc := 5) 0 (v := .ref a0) (i := 0) rfl rfl rfl dX12_longestRun_5 ?_
  refine kz_iload_n (pc := 6) 1 (i := 1) rfl rfl dX12_longestRun_6 ?_
  obtain ⟨⟨fs5, he⟩, h⟩ := h
  refine kz_callV (pc := 7) (μ' := mX12_noWork) (ci := 11) (q := (RX12, TX12, 32)) (b := a0) (d' := d + 2) (mc' := 0) (ms' := 0) (As := [.int p1]) (st := []) (c := 0) (sl := 0) kmX12_noWork kw_1713 (by omega) rfl (Nat.le_of_ble_eq_true rfl) he rfl rfl (Nat.le_refl _) (Nat.le_refl _) dX12_longestRun_7 (fun E M9 hx => kz_Tout rfl (Nat.le_refl _) (Nat.le_refl _) hx) (kz_Cmono (fun v M2 h => ?_) (fun _ _ h => h) h)
  obtain ⟨r3, rfl, h⟩ := h
  show kz_Z G (d + 3) 0 0 mX12_longestRun Qr Qx 10 [(0, .ref a0), (1, .int p1)] [.int r3] M2 0 0
  refine kz_if_eq (pc := 10) (tgt := 15) (by decide) dX12_longestRun_10 (fun hb => ?_) (fun hb => ?_)
  · replace h := h.1 hb
    refine kz_iconst (pc := 15) (v := 0) (by decide) dX12_longestRun_15 ?_
    refine kz_istore_n (pc := 16) (i := 2) (ls' := [(0, .ref a0), (1, .int p1)]) rfl (by decide) rfl dX12_longestRun_16 ?_
    refine kz_iconst (pc := 17) (v := 0) (by decide) dX12_longestRun_17 ?_
    refine kz_istore_n (pc := 18) (i := 3) (ls' := [(2, .int 0), (0, .ref a0), (1, .int p1)]) rfl (by decide) rfl dX12_longestRun_18 ?_
    refine kz_iconst (pc := 19) (v := 0) (by decide) dX12_longestRun_19 ?_
    refine kz_istore (pc := 20) (i := 4) (ls' := [(3, .int 0), (2, .int 0), (0, .ref a0), (1, .int p1)]) (by decide) rfl dX12_longestRun_20 ?_
    refine kz_sub [3, 4, 2, 1, 0] rfl ?_
    exact h
  · replace h := h.2 hb
    refine kz_iconst (pc := 13) (v := 0) (by decide) dX12_longestRun_13 ?_
    exact kz_iret (pc := 14) rfl (Nat.le_refl _) (Nat.le_refl _) dX12_longestRun_14 h
theorem rX12_longestRun_22 {G : kz_G} {d : Nat} {Qr : Option Value → kz_M → Prop} {Qx : String → kz_M → Prop} {x0 : Nat} {x1 : Int32} {x2 : Int32} {x3 : Int32} {x4 : Int32}  {M : kz_M} (h : (∃ fs8, (M).1 x0 = some (.inl (11, fs8))) ∧ kz_C G (d + 2) 0 0 mX12_of [.ref x0, .int x1, .int 4] M (fun v M1 => ∃ r2 : Int32, v = some (.int r2) ∧ ((r2 ≤ x4 → Qr (some (.int x2)) M1) ∧ (¬ r2 ≤ x4 → (∃ fs7, (M1).1 x0 = some (.inl (11, fs7))) ∧ kz_C G (d + 2) 0 0 mX12_countsNow [.ref x0, .int x1, .int x4] M1 (fun v M4 => ∃ r5 : Int32, v = some (.int r5) ∧ ((r5 = 0 → zX12_longestRun_22 G d Qr Qx x0 x1 (if x2 < 0 then 0 else x2) 0 (x4 + 1) M4) ∧ (¬ r5 = 0 → zX12_longestRun_22 G d Qr Qx x0 x1 (if x2 < (x3 + 1) then (x3 + 1) else x2) (x3 + 1) (x4 + 1) M4))) Qx))) Qx) : zX12_longestRun_22 G d Qr Qx x0 x1 x2 x3 x4  M := by
  show kz_Z G (d + 3) 0 0 mX12_longestRun Qr Qx 22 [(0, .ref x0), (1, .int x1), (2, .int x2), (3, .int x3), (4, .int x4)] [] M 0 0
  refine kz_iload (pc := 22) 4 (i := 4) rfl dX12_longestRun_22 ?_
  refine kz_aload_n (pc := 24) 0 (v := .ref x0) (i := 0) rfl rfl rfl dX12_longestRun_24 ?_
  refine kz_iload_n (pc := 25) 1 (i := 1) rfl rfl dX12_longestRun_25 ?_
  refine kz_iconst (pc := 26) (v := 4) (by decide) dX12_longestRun_26 ?_
  obtain ⟨⟨fs8, he⟩, h⟩ := h
  refine kz_callV (pc := 27) (μ' := mX12_of) (ci := 11) (q := (RX12, TX12, 32)) (b := x0) (d' := d + 2) (mc' := 0) (ms' := 0) (As := [.int x1, .int 4]) (st := [.int x4]) (c := 0) (sl := 0) kmX12_of kw_1620 (by omega) rfl (Nat.le_of_ble_eq_true rfl) he rfl rfl (Nat.le_refl _) (Nat.le_refl _) dX12_longestRun_27 (fun E M9 hx => kz_Tout rfl (Nat.le_refl _) (Nat.le_refl _) hx) (kz_Cmono (fun v M1 h => ?_) (fun _ _ h => h) h)
  obtain ⟨r2, rfl, h⟩ := h
  show kz_Z G (d + 3) 0 0 mX12_longestRun Qr Qx 30 [(0, .ref x0), (1, .int x1), (2, .int x2), (3, .int x3), (4, .int x4)] [.int r2, .int x4] M1 0 0
  refine kz_icmp_ge (pc := 30) (tgt := 63) (by decide) dX12_longestRun_30 (fun hb => ?_) (fun hb => ?_)
  · replace h := h.1 hb
    refine kz_iload_n (pc := 63) 2 (i := 2) rfl rfl dX12_longestRun_63 ?_
    exact kz_iret (pc := 64) rfl (Nat.le_refl _) (Nat.le_refl _) dX12_longestRun_64 h
  · replace h := h.2 hb
    refine kz_aload_n (pc := 33) 0 (v := .ref x0) (i := 0) rfl rfl rfl dX12_longestRun_33 ?_
    refine kz_iload_n (pc := 34) 1 (i := 1) rfl rfl dX12_longestRun_34 ?_
    refine kz_iload (pc := 35) 4 (i := 4) rfl dX12_longestRun_35 ?_
    obtain ⟨⟨fs7, he⟩, h⟩ := h
    refine kz_callV (pc := 37) (μ' := mX12_countsNow) (ci := 11) (q := (RX12, TX12, 32)) (b := x0) (d' := d + 2) (mc' := 0) (ms' := 0) (As := [.int x1, .int x4]) (st := []) (c := 0) (sl := 0) kmX12_countsNow kw_1632 (by omega) rfl (Nat.le_of_ble_eq_true rfl) he rfl rfl (Nat.le_refl _) (Nat.le_refl _) dX12_longestRun_37 (fun E M9 hx => kz_Tout rfl (Nat.le_refl _) (Nat.le_refl _) hx) (kz_Cmono (fun v M4 h => ?_) (fun _ _ h => h) h)
    obtain ⟨r5, rfl, h⟩ := h
    show kz_Z G (d + 3) 0 0 mX12_longestRun Qr Qx 40 [(0, .ref x0), (1, .int x1), (2, .int x2), (3, .int x3), (4, .int x4)] [.int r5] M4 0 0
    refine kz_if_eq (pc := 40) (tgt := 49) (by decide) dX12_longestRun_40 (fun hb => ?_) (fun hb => ?_)
    · replace h := h.1 hb
      refine kz_iconst (pc := 49) (v := 0) (by decide) dX12_longestRun_49 ?_
      refine kz_istore_n (pc := 50) (i := 3) (ls' := [(0, .ref x0), (1, .int x1), (2, .int x2), (4, .int x4)]) rfl (by decide) rfl dX12_longestRun_50 ?_
      refine kz_iload_n (pc := 51) 3 (i := 2) rfl rfl dX12_longestRun_51 ?_
      refine kz_iload_n (pc := 52) 0 (i := 3) rfl rfl dX12_longestRun_52 ?_
      refine kz_mmax (pc := 53) kw_1648 kw_547 kw_15 kw_548 (by omega) (Nat.le_of_ble_eq_true rfl) (Nat.le_refl _) (Nat.le_refl _) dX12_longestRun_53 ?_
      refine kz_istore_n (pc := 56) (i := 2) (ls' := [(3, .int 0), (0, .ref x0), (1, .int x1), (4, .int x4)]) rfl (by decide) rfl dX12_longestRun_56 ?_
      refine kz_iinc (pc := 57) 4 (i := 4) (v := x4 + 1) (ls' := [(2, .int (if x2 < 0 then 0 else x2)), (3, .int 0), (0, .ref x0), (1, .int x1)]) rfl (congrArg (fun z => x4 + z) (by decide)) (by decide) rfl dX12_longestRun_57 ?_
      refine kz_goto (pc := 60) (tgt := 22) (by decide) dX12_longestRun_60 ?_
      refine kz_sub [3, 4, 1, 2, 0] rfl ?_
      exact h
    · replace h := h.2 hb
      refine kz_iload_n (pc := 43) 3 (i := 3) rfl rfl dX12_longestRun_43 ?_
      refine kz_iconst (pc := 44) (v := 1) (by decide) dX12_longestRun_44 ?_
      refine kz_iadd (pc := 45) dX12_longestRun_45 ?_
      refine kz_goto (pc := 46) (tgt := 50) (by decide) dX12_longestRun_46 ?_
      refine kz_istore_n (pc := 50) (i := 3) (ls' := [(0, .ref x0), (1, .int x1), (2, .int x2), (4, .int x4)]) rfl (by decide) rfl dX12_longestRun_50 ?_
      refine kz_iload_n (pc := 51) 3 (i := 2) rfl rfl dX12_longestRun_51 ?_
      refine kz_iload_n (pc := 52) 0 (i := 3) rfl rfl dX12_longestRun_52 ?_
      refine kz_mmax (pc := 53) kw_1648 kw_547 kw_15 kw_548 (by omega) (Nat.le_of_ble_eq_true rfl) (Nat.le_refl _) (Nat.le_refl _) dX12_longestRun_53 ?_
      refine kz_istore_n (pc := 56) (i := 2) (ls' := [(3, .int (x3 + 1)), (0, .ref x0), (1, .int x1), (4, .int x4)]) rfl (by decide) rfl dX12_longestRun_56 ?_
      refine kz_iinc (pc := 57) 4 (i := 4) (v := x4 + 1) (ls' := [(2, .int (if x2 < (x3 + 1) then (x3 + 1) else x2)), (3, .int (x3 + 1)), (0, .ref x0), (1, .int x1)]) rfl (congrArg (fun z => x4 + z) (by decide)) (by decide) rfl dX12_longestRun_57 ?_
      refine kz_goto (pc := 60) (tgt := 22) (by decide) dX12_longestRun_60 ?_
      refine kz_sub [3, 4, 1, 2, 0] rfl ?_
      exact h
theorem dX12_keepsRow_0 : decode cX12_keepsRow 0 = .ok (.bipush 33, 2) := by decide +kernel
theorem dX12_keepsRow_2 : decode cX12_keepsRow 2 = .ok (.sipush 305, 3) := by decide +kernel
theorem dX12_keepsRow_5 : decode cX12_keepsRow 5 = .ok (.iload_n 1, 1) := by decide +kernel
theorem dX12_keepsRow_6 : decode cX12_keepsRow 6 = .ok (.imul, 1) := by decide +kernel
theorem dX12_keepsRow_7 : decode cX12_keepsRow 7 = .ok (.iadd, 1) := by decide +kernel
theorem dX12_keepsRow_8 : decode cX12_keepsRow 8 = .ok (.istore 4, 2) := by decide +kernel
theorem dX12_keepsRow_10 : decode cX12_keepsRow 10 = .ok (.aload_n 0, 1) := by decide +kernel
theorem dX12_keepsRow_11 : decode cX12_keepsRow 11 = .ok (.getfield 7, 3) := by decide +kernel
theorem dX12_keepsRow_14 : decode cX12_keepsRow 14 = .ok (.iload 4, 2) := by decide +kernel
theorem dX12_keepsRow_16 : decode cX12_keepsRow 16 = .ok (.iconst 0, 1) := by decide +kernel
theorem dX12_keepsRow_17 : decode cX12_keepsRow 17 = .ok (.iadd, 1) := by decide +kernel
theorem dX12_keepsRow_18 : decode cX12_keepsRow 18 = .ok (.iload_n 3, 1) := by decide +kernel
theorem dX12_keepsRow_19 : decode cX12_keepsRow 19 = .ok (.iastore, 1) := by decide +kernel
theorem dX12_keepsRow_20 : decode cX12_keepsRow 20 = .ok (.aload_n 0, 1) := by decide +kernel
theorem dX12_keepsRow_21 : decode cX12_keepsRow 21 = .ok (.getfield 7, 3) := by decide +kernel
theorem dX12_keepsRow_24 : decode cX12_keepsRow 24 = .ok (.iload 4, 2) := by decide +kernel
theorem dX12_keepsRow_26 : decode cX12_keepsRow 26 = .ok (.iconst 1, 1) := by decide +kernel
theorem dX12_keepsRow_27 : decode cX12_keepsRow 27 = .ok (.iadd, 1) := by decide +kernel
theorem dX12_keepsRow_28 : decode cX12_keepsRow 28 = .ok (.iload_n 2, 1) := by decide +kernel
theorem dX12_keepsRow_29 : decode cX12_keepsRow 29 = .ok (.iastore, 1) := by decide +kernel
theorem dX12_keepsRow_30 : decode cX12_keepsRow 30 = .ok (.aload_n 0, 1) := by decide +kernel
theorem dX12_keepsRow_31 : decode cX12_keepsRow 31 = .ok (.getfield 7, 3) := by decide +kernel
theorem dX12_keepsRow_34 : decode cX12_keepsRow 34 = .ok (.iload 4, 2) := by decide +kernel
theorem dX12_keepsRow_36 : decode cX12_keepsRow 36 = .ok (.iconst 2, 1) := by decide +kernel
theorem dX12_keepsRow_37 : decode cX12_keepsRow 37 = .ok (.iadd, 1) := by decide +kernel
theorem dX12_keepsRow_38 : decode cX12_keepsRow 38 = .ok (.aload_n 0, 1) := by decide +kernel
theorem dX12_keepsRow_39 : decode cX12_keepsRow 39 = .ok (.getfield 7, 3) := by decide +kernel
theorem dX12_keepsRow_42 : decode cX12_keepsRow 42 = .ok (.iconst 2, 1) := by decide +kernel
theorem dX12_keepsRow_43 : decode cX12_keepsRow 43 = .ok (.iaload, 1) := by decide +kernel
theorem dX12_keepsRow_44 : decode cX12_keepsRow 44 = .ok (.iastore, 1) := by decide +kernel
theorem dX12_keepsRow_45 : decode cX12_keepsRow 45 = .ok (.aload_n 0, 1) := by decide +kernel
theorem dX12_keepsRow_46 : decode cX12_keepsRow 46 = .ok (.getfield 7, 3) := by decide +kernel
theorem dX12_keepsRow_49 : decode cX12_keepsRow 49 = .ok (.iload 4, 2) := by decide +kernel
theorem dX12_keepsRow_51 : decode cX12_keepsRow 51 = .ok (.iconst 3, 1) := by decide +kernel
theorem dX12_keepsRow_52 : decode cX12_keepsRow 52 = .ok (.iadd, 1) := by decide +kernel
theorem dX12_keepsRow_53 : decode cX12_keepsRow 53 = .ok (.aload_n 0, 1) := by decide +kernel
theorem dX12_keepsRow_54 : decode cX12_keepsRow 54 = .ok (.getfield 127, 3) := by decide +kernel
theorem dX12_keepsRow_57 : decode cX12_keepsRow 57 = .ok (.iastore, 1) := by decide +kernel
theorem dX12_keepsRow_58 : decode cX12_keepsRow 58 = .ok (.aload_n 0, 1) := by decide +kernel
theorem dX12_keepsRow_59 : decode cX12_keepsRow 59 = .ok (.getfield 7, 3) := by decide +kernel
theorem dX12_keepsRow_62 : decode cX12_keepsRow 62 = .ok (.iload 4, 2) := by decide +kernel
theorem dX12_keepsRow_64 : decode cX12_keepsRow 64 = .ok (.iconst 4, 1) := by decide +kernel
theorem dX12_keepsRow_65 : decode cX12_keepsRow 65 = .ok (.iadd, 1) := by decide +kernel
theorem dX12_keepsRow_66 : decode cX12_keepsRow 66 = .ok (.aload_n 0, 1) := by decide +kernel
theorem dX12_keepsRow_67 : decode cX12_keepsRow 67 = .ok (.getfield 134, 3) := by decide +kernel
theorem dX12_keepsRow_70 : decode cX12_keepsRow 70 = .ok (.iastore, 1) := by decide +kernel
theorem dX12_keepsRow_71 : decode cX12_keepsRow 71 = .ok (.aload_n 0, 1) := by decide +kernel
theorem dX12_keepsRow_72 : decode cX12_keepsRow 72 = .ok (.getfield 32, 3) := by decide +kernel
theorem dX12_keepsRow_75 : decode cX12_keepsRow 75 = .ok (.iconst 0, 1) := by decide +kernel
theorem dX12_keepsRow_76 : decode cX12_keepsRow 76 = .ok (.aload_n 0, 1) := by decide +kernel
theorem dX12_keepsRow_77 : decode cX12_keepsRow 77 = .ok (.getfield 22, 3) := by decide +kernel
theorem dX12_keepsRow_80 : decode cX12_keepsRow 80 = .ok (.bipush 60, 2) := by decide +kernel
theorem dX12_keepsRow_82 : decode cX12_keepsRow 82 = .ok (.iload_n 1, 1) := by decide +kernel
theorem dX12_keepsRow_83 : decode cX12_keepsRow 83 = .ok (.imul, 1) := by decide +kernel
theorem dX12_keepsRow_84 : decode cX12_keepsRow 84 = .ok (.bipush 60, 2) := by decide +kernel
theorem dX12_keepsRow_86 : decode cX12_keepsRow 86 = .ok (.invokestatic 85, 3) := by decide +kernel
theorem dX12_keepsRow_89 : decode cX12_keepsRow 89 = .ok (.aload_n 0, 1) := by decide +kernel
theorem dX12_keepsRow_90 : decode cX12_keepsRow 90 = .ok (.getfield 22, 3) := by decide +kernel
theorem dX12_keepsRow_93 : decode cX12_keepsRow 93 = .ok (.sipush 720, 3) := by decide +kernel
theorem dX12_keepsRow_96 : decode cX12_keepsRow 96 = .ok (.iload_n 1, 1) := by decide +kernel
theorem dX12_keepsRow_97 : decode cX12_keepsRow 97 = .ok (.iadd, 1) := by decide +kernel
theorem dX12_keepsRow_98 : decode cX12_keepsRow 98 = .ok (.aload_n 0, 1) := by decide +kernel
theorem dX12_keepsRow_99 : decode cX12_keepsRow 99 = .ok (.getfield 130, 3) := by decide +kernel
theorem dX12_keepsRow_102 : decode cX12_keepsRow 102 = .ok (.lastore, 1) := by decide +kernel
theorem dX12_keepsRow_103 : decode cX12_keepsRow 103 = .ok (.iconst 0, 1) := by decide +kernel
theorem dX12_keepsRow_104 : decode cX12_keepsRow 104 = .ok (.istore 5, 2) := by decide +kernel
theorem dX12_keepsRow_106 : decode cX12_keepsRow 106 = .ok (.iload 5, 2) := by decide +kernel
theorem dX12_keepsRow_108 : decode cX12_keepsRow 108 = .ok (.aload_n 0, 1) := by decide +kernel
theorem dX12_keepsRow_109 : decode cX12_keepsRow 109 = .ok (.getfield 134, 3) := by decide +kernel
theorem dX12_keepsRow_112 : decode cX12_keepsRow 112 = .ok (.if_icmp .ge 106, 3) := by decide +kernel
theorem dX12_keepsRow_115 : decode cX12_keepsRow 115 = .ok (.aload_n 0, 1) := by decide +kernel
theorem dX12_keepsRow_116 : decode cX12_keepsRow 116 = .ok (.iload_n 1, 1) := by decide +kernel
theorem dX12_keepsRow_117 : decode cX12_keepsRow 117 = .ok (.iload 5, 2) := by decide +kernel
theorem dX12_keepsRow_119 : decode cX12_keepsRow 119 = .ok (.invokevirtual 89, 3) := by decide +kernel
theorem dX12_keepsRow_122 : decode cX12_keepsRow 122 = .ok (.istore 6, 2) := by decide +kernel
theorem dX12_keepsRow_124 : decode cX12_keepsRow 124 = .ok (.aload_n 0, 1) := by decide +kernel
theorem dX12_keepsRow_125 : decode cX12_keepsRow 125 = .ok (.getfield 7, 3) := by decide +kernel
theorem dX12_keepsRow_128 : decode cX12_keepsRow 128 = .ok (.iload 6, 2) := by decide +kernel
theorem dX12_keepsRow_130 : decode cX12_keepsRow 130 = .ok (.iconst 0, 1) := by decide +kernel
theorem dX12_keepsRow_131 : decode cX12_keepsRow 131 = .ok (.iadd, 1) := by decide +kernel
theorem dX12_keepsRow_132 : decode cX12_keepsRow 132 = .ok (.aload_n 0, 1) := by decide +kernel
theorem dX12_keepsRow_133 : decode cX12_keepsRow 133 = .ok (.getfield 35, 3) := by decide +kernel
theorem dX12_keepsRow_136 : decode cX12_keepsRow 136 = .ok (.iload 5, 2) := by decide +kernel
theorem dX12_keepsRow_138 : decode cX12_keepsRow 138 = .ok (.iaload, 1) := by decide +kernel
theorem dX12_keepsRow_139 : decode cX12_keepsRow 139 = .ok (.iastore, 1) := by decide +kernel
theorem dX12_keepsRow_140 : decode cX12_keepsRow 140 = .ok (.aload_n 0, 1) := by decide +kernel
theorem dX12_keepsRow_141 : decode cX12_keepsRow 141 = .ok (.getfield 7, 3) := by decide +kernel
theorem dX12_keepsRow_144 : decode cX12_keepsRow 144 = .ok (.iload 6, 2) := by decide +kernel
theorem dX12_keepsRow_146 : decode cX12_keepsRow 146 = .ok (.iconst 1, 1) := by decide +kernel
theorem dX12_keepsRow_147 : decode cX12_keepsRow 147 = .ok (.iadd, 1) := by decide +kernel
theorem dX12_keepsRow_148 : decode cX12_keepsRow 148 = .ok (.aload_n 0, 1) := by decide +kernel
theorem dX12_keepsRow_149 : decode cX12_keepsRow 149 = .ok (.getfield 38, 3) := by decide +kernel
theorem dX12_keepsRow_152 : decode cX12_keepsRow 152 = .ok (.iload 5, 2) := by decide +kernel
theorem dX12_keepsRow_154 : decode cX12_keepsRow 154 = .ok (.iaload, 1) := by decide +kernel
theorem dX12_keepsRow_155 : decode cX12_keepsRow 155 = .ok (.iastore, 1) := by decide +kernel
theorem dX12_keepsRow_156 : decode cX12_keepsRow 156 = .ok (.aload_n 0, 1) := by decide +kernel
theorem dX12_keepsRow_157 : decode cX12_keepsRow 157 = .ok (.getfield 7, 3) := by decide +kernel
theorem dX12_keepsRow_160 : decode cX12_keepsRow 160 = .ok (.iload 6, 2) := by decide +kernel
theorem dX12_keepsRow_162 : decode cX12_keepsRow 162 = .ok (.iconst 2, 1) := by decide +kernel
theorem dX12_keepsRow_163 : decode cX12_keepsRow 163 = .ok (.iadd, 1) := by decide +kernel
theorem dX12_keepsRow_164 : decode cX12_keepsRow 164 = .ok (.aload_n 0, 1) := by decide +kernel
theorem dX12_keepsRow_165 : decode cX12_keepsRow 165 = .ok (.getfield 41, 3) := by decide +kernel
theorem dX12_keepsRow_168 : decode cX12_keepsRow 168 = .ok (.iload 5, 2) := by decide +kernel
theorem dX12_keepsRow_170 : decode cX12_keepsRow 170 = .ok (.iaload, 1) := by decide +kernel
theorem dX12_keepsRow_171 : decode cX12_keepsRow 171 = .ok (.ifCond .ne 7, 3) := by decide +kernel
theorem dX12_keepsRow_174 : decode cX12_keepsRow 174 = .ok (.iconst 0, 1) := by decide +kernel
theorem dX12_keepsRow_175 : decode cX12_keepsRow 175 = .ok (.goto 4, 3) := by decide +kernel
theorem dX12_keepsRow_178 : decode cX12_keepsRow 178 = .ok (.iconst 1, 1) := by decide +kernel
theorem dX12_keepsRow_179 : decode cX12_keepsRow 179 = .ok (.iastore, 1) := by decide +kernel
theorem dX12_keepsRow_180 : decode cX12_keepsRow 180 = .ok (.aload_n 0, 1) := by decide +kernel
theorem dX12_keepsRow_181 : decode cX12_keepsRow 181 = .ok (.getfield 7, 3) := by decide +kernel
theorem dX12_keepsRow_184 : decode cX12_keepsRow 184 = .ok (.iload 6, 2) := by decide +kernel
theorem dX12_keepsRow_186 : decode cX12_keepsRow 186 = .ok (.iconst 3, 1) := by decide +kernel
theorem dX12_keepsRow_187 : decode cX12_keepsRow 187 = .ok (.iadd, 1) := by decide +kernel
theorem dX12_keepsRow_188 : decode cX12_keepsRow 188 = .ok (.aload_n 0, 1) := by decide +kernel
theorem dX12_keepsRow_189 : decode cX12_keepsRow 189 = .ok (.getfield 41, 3) := by decide +kernel
theorem dX12_keepsRow_192 : decode cX12_keepsRow 192 = .ok (.iload 5, 2) := by decide +kernel
theorem dX12_keepsRow_194 : decode cX12_keepsRow 194 = .ok (.iaload, 1) := by decide +kernel
theorem dX12_keepsRow_195 : decode cX12_keepsRow 195 = .ok (.iastore, 1) := by decide +kernel
theorem dX12_keepsRow_196 : decode cX12_keepsRow 196 = .ok (.aload_n 0, 1) := by decide +kernel
theorem dX12_keepsRow_197 : decode cX12_keepsRow 197 = .ok (.getfield 7, 3) := by decide +kernel
theorem dX12_keepsRow_200 : decode cX12_keepsRow 200 = .ok (.iload 6, 2) := by decide +kernel
theorem dX12_keepsRow_202 : decode cX12_keepsRow 202 = .ok (.iconst 4, 1) := by decide +kernel
theorem dX12_keepsRow_203 : decode cX12_keepsRow 203 = .ok (.iadd, 1) := by decide +kernel
theorem dX12_keepsRow_204 : decode cX12_keepsRow 204 = .ok (.aload_n 0, 1) := by decide +kernel
theorem dX12_keepsRow_205 : decode cX12_keepsRow 205 = .ok (.getfield 44, 3) := by decide +kernel
theorem dX12_keepsRow_208 : decode cX12_keepsRow 208 = .ok (.iload 5, 2) := by decide +kernel
theorem dX12_keepsRow_210 : decode cX12_keepsRow 210 = .ok (.iaload, 1) := by decide +kernel
theorem dX12_keepsRow_211 : decode cX12_keepsRow 211 = .ok (.iastore, 1) := by decide +kernel
theorem dX12_keepsRow_212 : decode cX12_keepsRow 212 = .ok (.iinc 5 1, 3) := by decide +kernel
theorem dX12_keepsRow_215 : decode cX12_keepsRow 215 = .ok (.goto (-109), 3) := by decide +kernel
theorem dX12_keepsRow_218 : decode cX12_keepsRow 218 = .ok (.aload_n 0, 1) := by decide +kernel
theorem dX12_keepsRow_219 : decode cX12_keepsRow 219 = .ok (.getfield 7, 3) := by decide +kernel
theorem dX12_keepsRow_222 : decode cX12_keepsRow 222 = .ok (.iconst 1, 1) := by decide +kernel
theorem dX12_keepsRow_223 : decode cX12_keepsRow 223 = .ok (.dup2, 1) := by decide +kernel
theorem dX12_keepsRow_224 : decode cX12_keepsRow 224 = .ok (.iaload, 1) := by decide +kernel
theorem dX12_keepsRow_225 : decode cX12_keepsRow 225 = .ok (.iconst 1, 1) := by decide +kernel
theorem dX12_keepsRow_226 : decode cX12_keepsRow 226 = .ok (.iadd, 1) := by decide +kernel
theorem dX12_keepsRow_227 : decode cX12_keepsRow 227 = .ok (.iastore, 1) := by decide +kernel
theorem dX12_keepsRow_228 : decode cX12_keepsRow 228 = .ok (.return_, 1) := by decide +kernel
def zX12_keepsRow_106 (G : kz_G) (d : Nat) (Qr : Option Value → kz_M → Prop) (Qx : String → kz_M → Prop) (x0 : Nat) (x1 : Int32) (x5 : Int32)  (M : kz_M) : Prop := kz_Z G (d + 1) 0 0 mX12_keepsRow Qr Qx 106 [(0, .ref x0), (1, .int x1), (5, .int x5)] [] M 0 0
theorem rX12_keepsRow_0 {G : kz_G} {d : Nat} {Qr : Option Value → kz_M → Prop} {Qx : String → kz_M → Prop} {a0 : Nat} {p1 : Int32} {p2 : Int32} {p3 : Int32}  {M : kz_M} (h : ∃ fs1 v2, (M).1 a0 = some (.inl (11, fs1)) ∧ fs1[0]? = some (.ref v2) ∧ (∃ n3 f4, (M).1 v2 = some (.inr (.int, n3, .inl f4)) ∧ vp_in ((33 + (305 * p1)) + 0) n3 ∧ (∃ fs5 v6, ((kz_up M v2 (.inr (.int, n3, .inl (upd f4 ((33 + (305 * p1)) + 0 : Int32).toNatClampNeg p3))))).1 a0 = some (.inl (11, fs5)) ∧ fs5[0]? = some (.ref v6) ∧ (∃ n7 f8, ((kz_up M v2 (.inr (.int, n3, .inl (upd f4 ((33 + (305 * p1)) + 0 : Int32).toNatClampNeg p3))))).1 v6 = some (.inr (.int, n7, .inl f8)) ∧ vp_in ((33 + (305 * p1)) + 1) n7 ∧ (∀ M9, M9 = kz_up (kz_up M v2 (.inr (.int, n3, .inl (upd f4 ((33 + (305 * p1)) + 0 : Int32).toNatClampNeg p3)))) v6 (.inr (.int, n7, .inl (upd f8 ((33 + (305 * p1)) + 1 : Int32).toNatClampNeg p2))) → ∃ fs10 v11, (M9).1 a0 = some (.inl (11, fs10)) ∧ fs10[0]? = some (.ref v11) ∧ (∃ fs12 v13, (M9).1 a0 = some (.inl (11, fs12)) ∧ fs12[0]? = some (.ref v13) ∧ (∃ n14 f15, (M9).1 v13 = some (.inr (.int, n14, .inl f15)) ∧ vp_in (2 : Int32) n14 ∧ (∃ n16 f17, (M9).1 v11 = some (.inr (.int, n16, .inl f17)) ∧ vp_in ((33 + (305 * p1)) + 2) n16 ∧ (∃ fs18 v19, ((kz_up M9 v11 (.inr (.int, n16, .inl (upd f17 ((33 + (305 * p1)) + 2 : Int32).toNatClampNeg (f15 (2 : Int32).toNatClampNeg)))))).1 a0 = some (.inl (11, fs18)) ∧ fs18[0]? = some (.ref v19) ∧ (∃ fs20 v21, ((kz_up M9 v11 (.inr (.int, n16, .inl (upd f17 ((33 + (305 * p1)) + 2 : Int32).toNatClampNeg (f15 (2 : Int32).toNatClampNeg)))))).1 a0 = some (.inl (11, fs20)) ∧ fs20[12]? = some (.int v21) ∧ (∃ n22 f23, ((kz_up M9 v11 (.inr (.int, n16, .inl (upd f17 ((33 + (305 * p1)) + 2 : Int32).toNatClampNeg (f15 (2 : Int32).toNatClampNeg)))))).1 v19 = some (.inr (.int, n22, .inl f23)) ∧ vp_in ((33 + (305 * p1)) + 3) n22 ∧ (∀ M24, M24 = kz_up (kz_up M9 v11 (.inr (.int, n16, .inl (upd f17 ((33 + (305 * p1)) + 2 : Int32).toNatClampNeg (f15 (2 : Int32).toNatClampNeg))))) v19 (.inr (.int, n22, .inl (upd f23 ((33 + (305 * p1)) + 3 : Int32).toNatClampNeg v21))) → ∃ fs25 v26, (M24).1 a0 = some (.inl (11, fs25)) ∧ fs25[0]? = some (.ref v26) ∧ (∃ fs27 v28, (M24).1 a0 = some (.inl (11, fs27)) ∧ fs27[13]? = some (.int v28) ∧ (∃ n29 f30, (M24).1 v26 = some (.inr (.int, n29, .inl f30)) ∧ vp_in ((33 + (305 * p1)) + 4) n29 ∧ (∃ fs31 v32, ((kz_up M24 v26 (.inr (.int, n29, .inl (upd f30 ((33 + (305 * p1)) + 4 : Int32).toNatClampNeg v28))))).1 a0 = some (.inl (11, fs31)) ∧ fs31[10]? = some (.ref v32) ∧ (∃ fs33 v34, ((kz_up M24 v26 (.inr (.int, n29, .inl (upd f30 ((33 + (305 * p1)) + 4 : Int32).toNatClampNeg v28))))).1 a0 = some (.inl (11, fs33)) ∧ fs33[4]? = some (.ref v34) ∧ (kz_C G (d + 0) 0 0 mX12_copiesWords [.ref v32, .int 0, .ref v34, .int (60 * p1), .int 60] (kz_up M24 v26 (.inr (.int, n29, .inl (upd f30 ((33 + (305 * p1)) + 4 : Int32).toNatClampNeg v28)))) (fun v M35 => v = none ∧ (∃ fs38 v39, (M35).1 a0 = some (.inl (11, fs38)) ∧ fs38[4]? = some (.ref v39) ∧ (∃ fs40 v41, (M35).1 a0 = some (.inl (11, fs40)) ∧ fs40[11]? = some (.long v41) ∧ (∃ n42 f43, (M35).1 v39 = some (.inr (.long, n42, .inr (.inl f43))) ∧ vp_in (720 + p1) n42 ∧ (zX12_keepsRow_106 G d Qr Qx a0 p1 0 (kz_up M35 v39 (.inr (.long, n42, .inr (.inl (vp_updL f43 (720 + p1 : Int32).toNatClampNeg v41)))))))))) Qx))))))))))))))))) : kz_C G (d + 1) 0 0 mX12_keepsRow [.ref a0, .int p1, .int p2, .int p3] M Qr Qx := by
  refine kz_enter (n := 3) kmX12_keepsRow.1 (Nat.le_of_ble_eq_true rfl) (ls := [(0, .ref a0), (1, .int p1), (2, .int p2), (3, .int p3)]) rfl ?_
  refine kz_bipush (pc := 0) (v := 33) (by decide) dX12_keepsRow_0 ?_
  refine kz_sipush (pc := 2) (v := 305) (by decide) dX12_keepsRow_2 ?_
  refine kz_iload_n (pc := 5) 1 (i := 1) rfl rfl dX12_keepsRow_5 ?_
  refine kz_imul (pc := 6) dX12_keepsRow_6 ?_
  refine kz_iadd (pc := 7) dX12_keepsRow_7 ?_
  refine kz_istore (pc := 8) (i := 4) (ls' := [(0, .ref a0), (1, .int p1), (2, .int p2), (3, .int p3)]) (by decide) rfl dX12_keepsRow_8 ?_
  refine kz_aload_n (pc := 10) 1 (v := .ref a0) (i := 0) rfl rfl rfl dX12_keepsRow_10 ?_
  obtain ⟨fs1, v2, hM, hv, h⟩ := h
  refine kz_getf (pc := 11) (k := 0) kcX12 hM hv (by decide) kw_1378 dX12_keepsRow_11 ?_
  refine kz_iload (pc := 14) 0 (i := 4) rfl dX12_keepsRow_14 ?_
  refine kz_iconst (pc := 16) (v := 0) (by decide) dX12_keepsRow_16 ?_
  refine kz_iadd (pc := 17) dX12_keepsRow_17 ?_
  refine kz_iload_n (pc := 18) 4 (i := 3) rfl rfl dX12_keepsRow_18 ?_
  obtain ⟨n3, f4, hM, hi, h⟩ := h
  refine kz_iast (pc := 19) hM hi dX12_keepsRow_19 ?_
  refine kz_aload_n (pc := 20) 1 (v := .ref a0) (i := 0) rfl rfl rfl dX12_keepsRow_20 ?_
  obtain ⟨fs5, v6, hM, hv, h⟩ := h
  refine kz_getf (pc := 21) (k := 0) kcX12 hM hv (by decide) kw_1378 dX12_keepsRow_21 ?_
  refine kz_iload (pc := 24) 0 (i := 4) rfl dX12_keepsRow_24 ?_
  refine kz_iconst (pc := 26) (v := 1) (by decide) dX12_keepsRow_26 ?_
  refine kz_iadd (pc := 27) dX12_keepsRow_27 ?_
  refine kz_iload_n (pc := 28) 3 (i := 2) rfl rfl dX12_keepsRow_28 ?_
  obtain ⟨n7, f8, hM, hi, h⟩ := h
  refine kz_iast (pc := 29) hM hi dX12_keepsRow_29 ?_
  refine kz_nameM (fun M9 e9 => ?_)
  replace h := h M9 e9
  refine kz_aload_n (pc := 30) 1 (v := .ref a0) (i := 0) rfl rfl rfl dX12_keepsRow_30 ?_
  obtain ⟨fs10, v11, hM, hv, h⟩ := h
  refine kz_getf (pc := 31) (k := 0) kcX12 hM hv (by decide) kw_1378 dX12_keepsRow_31 ?_
  refine kz_iload (pc := 34) 0 (i := 4) rfl dX12_keepsRow_34 ?_
  refine kz_iconst (pc := 36) (v := 2) (by decide) dX12_keepsRow_36 ?_
  refine kz_iadd (pc := 37) dX12_keepsRow_37 ?_
  refine kz_aload_n (pc := 38) 1 (v := .ref a0) (i := 0) rfl rfl rfl dX12_keepsRow_38 ?_
  obtain ⟨fs12, v13, hM, hv, h⟩ := h
  refine kz_getf (pc := 39) (k := 0) kcX12 hM hv (by decide) kw_1378 dX12_keepsRow_39 ?_
  refine kz_iconst (pc := 42) (v := 2) (by decide) dX12_keepsRow_42 ?_
  obtain ⟨n14, f15, hM, hi, h⟩ := h
  refine kz_iald (pc := 43) hM hi dX12_keepsRow_43 ?_
  obtain ⟨n16, f17, hM, hi, h⟩ := h
  refine kz_iast (pc := 44) hM hi dX12_keepsRow_44 ?_
  refine kz_aload_n (pc := 45) 1 (v := .ref a0) (i := 0) rfl rfl rfl dX12_keepsRow_45 ?_
  obtain ⟨fs18, v19, hM, hv, h⟩ := h
  refine kz_getf (pc := 46) (k := 0) kcX12 hM hv (by decide) kw_1378 dX12_keepsRow_46 ?_
  refine kz_iload (pc := 49) 0 (i := 4) rfl dX12_keepsRow_49 ?_
  refine kz_iconst (pc := 51) (v := 3) (by decide) dX12_keepsRow_51 ?_
  refine kz_iadd (pc := 52) dX12_keepsRow_52 ?_
  refine kz_aload_n (pc := 53) 1 (v := .ref a0) (i := 0) rfl rfl rfl dX12_keepsRow_53 ?_
  obtain ⟨fs20, v21, hM, hv, h⟩ := h
  refine kz_getf (pc := 54) (k := 12) kcX12 hM hv (by decide) kw_1390 dX12_keepsRow_54 ?_
  obtain ⟨n22, f23, hM, hi, h⟩ := h
  refine kz_iast (pc := 57) hM hi dX12_keepsRow_57 ?_
  refine kz_nameM (fun M24 e9 => ?_)
  replace h := h M24 e9
  refine kz_aload_n (pc := 58) 1 (v := .ref a0) (i := 0) rfl rfl rfl dX12_keepsRow_58 ?_
  obtain ⟨fs25, v26, hM, hv, h⟩ := h
  refine kz_getf (pc := 59) (k := 0) kcX12 hM hv (by decide) kw_1378 dX12_keepsRow_59 ?_
  refine kz_iload (pc := 62) 0 (i := 4) rfl dX12_keepsRow_62 ?_
  refine kz_iconst (pc := 64) (v := 4) (by decide) dX12_keepsRow_64 ?_
  refine kz_iadd (pc := 65) dX12_keepsRow_65 ?_
  refine kz_aload_n (pc := 66) 1 (v := .ref a0) (i := 0) rfl rfl rfl dX12_keepsRow_66 ?_
  obtain ⟨fs27, v28, hM, hv, h⟩ := h
  refine kz_getf (pc := 67) (k := 13) kcX12 hM hv (by decide) kw_1391 dX12_keepsRow_67 ?_
  obtain ⟨n29, f30, hM, hi, h⟩ := h
  refine kz_iast (pc := 70) hM hi dX12_keepsRow_70 ?_
  refine kz_aload_n (pc := 71) 1 (v := .ref a0) (i := 0) rfl rfl rfl dX12_keepsRow_71 ?_
  obtain ⟨fs31, v32, hM, hv, h⟩ := h
  refine kz_getf (pc := 72) (k := 10) kcX12 hM hv (by decide) kw_1388 dX12_keepsRow_72 ?_
  refine kz_iconst (pc := 75) (v := 0) (by decide) dX12_keepsRow_75 ?_
  refine kz_aload_n (pc := 76) 1 (v := .ref a0) (i := 0) rfl rfl rfl dX12_keepsRow_76 ?_
  obtain ⟨fs33, v34, hM, hv, h⟩ := h
  refine kz_getf (pc := 77) (k := 4) kcX12 hM hv (by decide) kw_1382 dX12_keepsRow_77 ?_
  refine kz_bipush (pc := 80) (v := 60) (by decide) dX12_keepsRow_80 ?_
  refine kz_iload_n (pc := 82) 2 (i := 1) rfl rfl dX12_keepsRow_82 ?_
  refine kz_imul (pc := 83) dX12_keepsRow_83 ?_
  refine kz_bipush (pc := 84) (v := 60) (by decide) dX12_keepsRow_84 ?_
  refine kz_callS (pc := 86) (μ' := mX12_copiesWords) (d' := d + 0) (mc' := 0) (ms' := 0) (As := [.ref v32, .int 0, .ref v34, .int (60 * p1), .int 60]) (st := []) (c := 0) (sl := 0) kmX12_copiesWords kw_1824 (by omega) rfl (Nat.le_of_ble_eq_true rfl) (Nat.le_refl _) (Nat.le_refl _) dX12_keepsRow_86 (fun E M9 hx => kz_Tout rfl (Nat.le_refl _) (Nat.le_refl _) hx) (kz_Cmono (fun v M35 h => ?_) (fun _ _ h => h) h)
  obtain ⟨rfl, h⟩ := h
  show kz_Z G (d + 1) 0 0 mX12_keepsRow Qr Qx 89 [(4, .int (33 + (305 * p1))), (0, .ref a0), (1, .int p1), (2, .int p2), (3, .int p3)] [] M35 0 0
  refine kz_aload_n (pc := 89) 1 (v := .ref a0) (i := 0) rfl rfl rfl dX12_keepsRow_89 ?_
  obtain ⟨fs38, v39, hM, hv, h⟩ := h
  refine kz_getf (pc := 90) (k := 4) kcX12 hM hv (by decide) kw_1382 dX12_keepsRow_90 ?_
  refine kz_sipush (pc := 93) (v := 720) (by decide) dX12_keepsRow_93 ?_
  refine kz_iload_n (pc := 96) 2 (i := 1) rfl rfl dX12_keepsRow_96 ?_
  refine kz_iadd (pc := 97) dX12_keepsRow_97 ?_
  refine kz_aload_n (pc := 98) 1 (v := .ref a0) (i := 0) rfl rfl rfl dX12_keepsRow_98 ?_
  obtain ⟨fs40, v41, hM, hv, h⟩ := h
  refine kz_getf (pc := 99) (k := 11) kcX12 hM hv (by decide) kw_1389 dX12_keepsRow_99 ?_
  obtain ⟨n42, f43, hM, hi, h⟩ := h
  refine kz_last (pc := 102) hM hi dX12_keepsRow_102 ?_
  refine kz_iconst (pc := 103) (v := 0) (by decide) dX12_keepsRow_103 ?_
  refine kz_istore (pc := 104) (i := 5) (ls' := [(4, .int (33 + (305 * p1))), (0, .ref a0), (1, .int p1), (2, .int p2), (3, .int p3)]) (by decide) rfl dX12_keepsRow_104 ?_
  refine kz_sub [2, 3, 0] rfl ?_
  exact h
theorem rX12_keepsRow_106 {G : kz_G} {d : Nat} {Qr : Option Value → kz_M → Prop} {Qx : String → kz_M → Prop} {x0 : Nat} {x1 : Int32} {x5 : Int32}  {M : kz_M} (h : ∃ fs1 v2, (M).1 x0 = some (.inl (11, fs1)) ∧ fs1[13]? = some (.int v2) ∧ ((v2 ≤ x5 → ∃ fs3 v4, (M).1 x0 = some (.inl (11, fs3)) ∧ fs3[0]? = some (.ref v4) ∧ (∃ n5 f6, (M).1 v4 = some (.inr (.int, n5, .inl f6)) ∧ vp_in (1 : Int32) n5 ∧ (∃ n7 f8, (M).1 v4 = some (.inr (.int, n7, .inl f8)) ∧ vp_in (1 : Int32) n7 ∧ (Qr none (kz_up M v4 (.inr (.int, n7, .inl (upd f8 (1 : Int32).toNatClampNeg ((f6 (1 : Int32).toNatClampNeg) + 1))))))))) ∧ (¬ v2 ≤ x5 → (∃ fs73, (M).1 x0 = some (.inl (11, fs73))) ∧ kz_C G (d + 0) 0 0 mX12_lineAt [.ref x0, .int x1, .int x5] M (fun v M9 => ∃ r10 : Int32, v = some (.int r10) ∧ (∃ fs12 v13, (M9).1 x0 = some (.inl (11, fs12)) ∧ fs12[0]? = some (.ref v13) ∧ (∃ fs14 v15, (M9).1 x0 = some (.inl (11, fs14)) ∧ fs14[14]? = some (.ref v15) ∧ (∃ n16 f17, (M9).1 v15 = some (.inr (.int, n16, .inl f17)) ∧ vp_in x5 n16 ∧ (∃ n18 f19, (M9).1 v13 = some (.inr (.int, n18, .inl f19)) ∧ vp_in (r10 + 0) n18 ∧ (∃ fs20 v21, ((kz_up M9 v13 (.inr (.int, n18, .inl (upd f19 (r10 + 0 : Int32).toNatClampNeg (f17 x5.toNatClampNeg)))))).1 x0 = some (.inl (11, fs20)) ∧ fs20[0]? = some (.ref v21) ∧ (∃ fs22 v23, ((kz_up M9 v13 (.inr (.int, n18, .inl (upd f19 (r10 + 0 : Int32).toNatClampNeg (f17 x5.toNatClampNeg)))))).1 x0 = some (.inl (11, fs22)) ∧ fs22[15]? = some (.ref v23) ∧ (∃ n24 f25, ((kz_up M9 v13 (.inr (.int, n18, .inl (upd f19 (r10 + 0 : Int32).toNatClampNeg (f17 x5.toNatClampNeg)))))).1 v23 = some (.inr (.int, n24, .inl f25)) ∧ vp_in x5 n24 ∧ (∃ n26 f27, ((kz_up M9 v13 (.inr (.int, n18, .inl (upd f19 (r10 + 0 : Int32).toNatClampNeg (f17 x5.toNatClampNeg)))))).1 v21 = some (.inr (.int, n26, .inl f27)) ∧ vp_in (r10 + 1) n26 ∧ (∀ M28, M28 = kz_up (kz_up M9 v13 (.inr (.int, n18, .inl (upd f19 (r10 + 0 : Int32).toNatClampNeg (f17 x5.toNatClampNeg))))) v21 (.inr (.int, n26, .inl (upd f27 (r10 + 1 : Int32).toNatClampNeg (f25 x5.toNatClampNeg)))) → ∃ fs29 v30, (M28).1 x0 = some (.inl (11, fs29)) ∧ fs29[0]? = some (.ref v30) ∧ (∃ fs31 v32, (M28).1 x0 = some (.inl (11, fs31)) ∧ fs31[16]? = some (.ref v32) ∧ (∃ n33 f34, (M28).1 v32 = some (.inr (.int, n33, .inl f34)) ∧ vp_in x5 n33 ∧ ((¬ (f34 x5.toNatClampNeg) = 0 → ∃ n35 f36, (M28).1 v30 = some (.inr (.int, n35, .inl f36)) ∧ vp_in (r10 + 2) n35 ∧ (∃ fs37 v38, ((kz_up M28 v30 (.inr (.int, n35, .inl (upd f36 (r10 + 2 : Int32).toNatClampNeg 1))))).1 x0 = some (.inl (11, fs37)) ∧ fs37[0]? = some (.ref v38) ∧ (∃ fs39 v40, ((kz_up M28 v30 (.inr (.int, n35, .inl (upd f36 (r10 + 2 : Int32).toNatClampNeg 1))))).1 x0 = some (.inl (11, fs39)) ∧ fs39[16]? = some (.ref v40) ∧ (∃ n41 f42, ((kz_up M28 v30 (.inr (.int, n35, .inl (upd f36 (r10 + 2 : Int32).toNatClampNeg 1))))).1 v40 = some (.inr (.int, n41, .inl f42)) ∧ vp_in x5 n41 ∧ (∃ n43 f44, ((kz_up M28 v30 (.inr (.int, n35, .inl (upd f36 (r10 + 2 : Int32).toNatClampNeg 1))))).1 v38 = some (.inr (.int, n43, .inl f44)) ∧ vp_in (r10 + 3) n43 ∧ (∀ M45, M45 = kz_up (kz_up M28 v30 (.inr (.int, n35, .inl (upd f36 (r10 + 2 : Int32).toNatClampNeg 1)))) v38 (.inr (.int, n43, .inl (upd f44 (r10 + 3 : Int32).toNatClampNeg (f42 x5.toNatClampNeg)))) → ∃ fs46 v47, (M45).1 x0 = some (.inl (11, fs46)) ∧ fs46[0]? = some (.ref v47) ∧ (∃ fs48 v49, (M45).1 x0 = some (.inl (11, fs48)) ∧ fs48[17]? = some (.ref v49) ∧ (∃ n50 f51, (M45).1 v49 = some (.inr (.int, n50, .inl f51)) ∧ vp_in x5 n50 ∧ (∃ n52 f53, (M45).1 v47 = some (.inr (.int, n52, .inl f53)) ∧ vp_in (r10 + 4) n52 ∧ (zX12_keepsRow_106 G d Qr Qx x0 x1 (x5 + 1) (kz_up M45 v47 (.inr (.int, n52, .inl (upd f53 (r10 + 4 : Int32).toNatClampNeg (f51 x5.toNatClampNeg))))))))))))))) ∧ ((f34 x5.toNatClampNeg) = 0 → ∃ n54 f55, (M28).1 v30 = some (.inr (.int, n54, .inl f55)) ∧ vp_in (r10 + 2) n54 ∧ (∃ fs56 v57, ((kz_up M28 v30 (.inr (.int, n54, .inl (upd f55 (r10 + 2 : Int32).toNatClampNeg 0))))).1 x0 = some (.inl (11, fs56)) ∧ fs56[0]? = some (.ref v57) ∧ (∃ fs58 v59, ((kz_up M28 v30 (.inr (.int, n54, .inl (upd f55 (r10 + 2 : Int32).toNatClampNeg 0))))).1 x0 = some (.inl (11, fs58)) ∧ fs58[16]? = some (.ref v59) ∧ (∃ n60 f61, ((kz_up M28 v30 (.inr (.int, n54, .inl (upd f55 (r10 + 2 : Int32).toNatClampNeg 0))))).1 v59 = some (.inr (.int, n60, .inl f61)) ∧ vp_in x5 n60 ∧ (∃ n62 f63, ((kz_up M28 v30 (.inr (.int, n54, .inl (upd f55 (r10 + 2 : Int32).toNatClampNeg 0))))).1 v57 = some (.inr (.int, n62, .inl f63)) ∧ vp_in (r10 + 3) n62 ∧ (∀ M64, M64 = kz_up (kz_up M28 v30 (.inr (.int, n54, .inl (upd f55 (r10 + 2 : Int32).toNatClampNeg 0)))) v57 (.inr (.int, n62, .inl (upd f63 (r10 + 3 : Int32).toNatClampNeg (f61 x5.toNatClampNeg)))) → ∃ fs65 v66, (M64).1 x0 = some (.inl (11, fs65)) ∧ fs65[0]? = some (.ref v66) ∧ (∃ fs67 v68, (M64).1 x0 = some (.inl (11, fs67)) ∧ fs67[17]? = some (.ref v68) ∧ (∃ n69 f70, (M64).1 v68 = some (.inr (.int, n69, .inl f70)) ∧ vp_in x5 n69 ∧ (∃ n71 f72, (M64).1 v66 = some (.inr (.int, n71, .inl f72)) ∧ vp_in (r10 + 4) n71 ∧ (zX12_keepsRow_106 G d Qr Qx x0 x1 (x5 + 1) (kz_up M64 v66 (.inr (.int, n71, .inl (upd f72 (r10 + 4 : Int32).toNatClampNeg (f70 x5.toNatClampNeg)))))))))))))))))))))))))))) Qx))) : zX12_keepsRow_106 G d Qr Qx x0 x1 x5  M := by
  show kz_Z G (d + 1) 0 0 mX12_keepsRow Qr Qx 106 [(0, .ref x0), (1, .int x1), (5, .int x5)] [] M 0 0
  refine kz_iload (pc := 106) 2 (i := 5) rfl dX12_keepsRow_106 ?_
  refine kz_aload_n (pc := 108) 0 (v := .ref x0) (i := 0) rfl rfl rfl dX12_keepsRow_108 ?_
  obtain ⟨fs1, v2, hM, hv, h⟩ := h
  refine kz_getf (pc := 109) (k := 13) kcX12 hM hv (by decide) kw_1391 dX12_keepsRow_109 ?_
  refine kz_icmp_ge (pc := 112) (tgt := 218) (by decide) dX12_keepsRow_112 (fun hb => ?_) (fun hb => ?_)
  · replace h := h.1 hb
    refine kz_aload_n (pc := 218) 0 (v := .ref x0) (i := 0) rfl rfl rfl dX12_keepsRow_218 ?_
    obtain ⟨fs3, v4, hM, hv, h⟩ := h
    refine kz_getf (pc := 219) (k := 0) kcX12 hM hv (by decide) kw_1378 dX12_keepsRow_219 ?_
    refine kz_iconst (pc := 222) (v := 1) (by decide) dX12_keepsRow_222 ?_
    refine kz_dup2_11 (pc := 223) rfl rfl dX12_keepsRow_223 ?_
    obtain ⟨n5, f6, hM, hi, h⟩ := h
    refine kz_iald (pc := 224) hM hi dX12_keepsRow_224 ?_
    refine kz_iconst (pc := 225) (v := 1) (by decide) dX12_keepsRow_225 ?_
    refine kz_iadd (pc := 226) dX12_keepsRow_226 ?_
    obtain ⟨n7, f8, hM, hi, h⟩ := h
    refine kz_iast (pc := 227) hM hi dX12_keepsRow_227 ?_
    exact kz_vret (pc := 228) rfl (Nat.le_refl _) (Nat.le_refl _) dX12_keepsRow_228 h
  · replace h := h.2 hb
    refine kz_aload_n (pc := 115) 0 (v := .ref x0) (i := 0) rfl rfl rfl dX12_keepsRow_115 ?_
    refine kz_iload_n (pc := 116) 1 (i := 1) rfl rfl dX12_keepsRow_116 ?_
    refine kz_iload (pc := 117) 2 (i := 5) rfl dX12_keepsRow_117 ?_
    obtain ⟨⟨fs73, he⟩, h⟩ := h
    refine kz_callV (pc := 119) (μ' := mX12_lineAt) (ci := 11) (q := (RX12, TX12, 32)) (b := x0) (d' := d + 0) (mc' := 0) (ms' := 0) (As := [.int x1, .int x5]) (st := []) (c := 0) (sl := 0) kmX12_lineAt kw_1640 (by omega) rfl (Nat.le_of_ble_eq_true rfl) he rfl rfl (Nat.le_refl _) (Nat.le_refl _) dX12_keepsRow_119 (fun E M9 hx => kz_Tout rfl (Nat.le_refl _) (Nat.le_refl _) hx) (kz_Cmono (fun v M9 h => ?_) (fun _ _ h => h) h)
    obtain ⟨r10, rfl, h⟩ := h
    show kz_Z G (d + 1) 0 0 mX12_keepsRow Qr Qx 122 [(0, .ref x0), (1, .int x1), (5, .int x5)] [.int r10] M9 0 0
    refine kz_istore (pc := 122) (i := 6) (ls' := [(0, .ref x0), (1, .int x1), (5, .int x5)]) (by decide) rfl dX12_keepsRow_122 ?_
    refine kz_aload_n (pc := 124) 1 (v := .ref x0) (i := 0) rfl rfl rfl dX12_keepsRow_124 ?_
    obtain ⟨fs12, v13, hM, hv, h⟩ := h
    refine kz_getf (pc := 125) (k := 0) kcX12 hM hv (by decide) kw_1378 dX12_keepsRow_125 ?_
    refine kz_iload (pc := 128) 0 (i := 6) rfl dX12_keepsRow_128 ?_
    refine kz_iconst (pc := 130) (v := 0) (by decide) dX12_keepsRow_130 ?_
    refine kz_iadd (pc := 131) dX12_keepsRow_131 ?_
    refine kz_aload_n (pc := 132) 1 (v := .ref x0) (i := 0) rfl rfl rfl dX12_keepsRow_132 ?_
    obtain ⟨fs14, v15, hM, hv, h⟩ := h
    refine kz_getf (pc := 133) (k := 14) kcX12 hM hv (by decide) kw_1392 dX12_keepsRow_133 ?_
    refine kz_iload (pc := 136) 3 (i := 5) rfl dX12_keepsRow_136 ?_
    obtain ⟨n16, f17, hM, hi, h⟩ := h
    refine kz_iald (pc := 138) hM hi dX12_keepsRow_138 ?_
    obtain ⟨n18, f19, hM, hi, h⟩ := h
    refine kz_iast (pc := 139) hM hi dX12_keepsRow_139 ?_
    refine kz_aload_n (pc := 140) 1 (v := .ref x0) (i := 0) rfl rfl rfl dX12_keepsRow_140 ?_
    obtain ⟨fs20, v21, hM, hv, h⟩ := h
    refine kz_getf (pc := 141) (k := 0) kcX12 hM hv (by decide) kw_1378 dX12_keepsRow_141 ?_
    refine kz_iload (pc := 144) 0 (i := 6) rfl dX12_keepsRow_144 ?_
    refine kz_iconst (pc := 146) (v := 1) (by decide) dX12_keepsRow_146 ?_
    refine kz_iadd (pc := 147) dX12_keepsRow_147 ?_
    refine kz_aload_n (pc := 148) 1 (v := .ref x0) (i := 0) rfl rfl rfl dX12_keepsRow_148 ?_
    obtain ⟨fs22, v23, hM, hv, h⟩ := h
    refine kz_getf (pc := 149) (k := 15) kcX12 hM hv (by decide) kw_1393 dX12_keepsRow_149 ?_
    refine kz_iload (pc := 152) 3 (i := 5) rfl dX12_keepsRow_152 ?_
    obtain ⟨n24, f25, hM, hi, h⟩ := h
    refine kz_iald (pc := 154) hM hi dX12_keepsRow_154 ?_
    obtain ⟨n26, f27, hM, hi, h⟩ := h
    refine kz_iast (pc := 155) hM hi dX12_keepsRow_155 ?_
    refine kz_nameM (fun M28 e9 => ?_)
    replace h := h M28 e9
    refine kz_aload_n (pc := 156) 1 (v := .ref x0) (i := 0) rfl rfl rfl dX12_keepsRow_156 ?_
    obtain ⟨fs29, v30, hM, hv, h⟩ := h
    refine kz_getf (pc := 157) (k := 0) kcX12 hM hv (by decide) kw_1378 dX12_keepsRow_157 ?_
    refine kz_iload (pc := 160) 0 (i := 6) rfl dX12_keepsRow_160 ?_
    refine kz_iconst (pc := 162) (v := 2) (by decide) dX12_keepsRow_162 ?_
    refine kz_iadd (pc := 163) dX12_keepsRow_163 ?_
    refine kz_aload_n (pc := 164) 1 (v := .ref x0) (i := 0) rfl rfl rfl dX12_keepsRow_164 ?_
    obtain ⟨fs31, v32, hM, hv, h⟩ := h
    refine kz_getf (pc := 165) (k := 16) kcX12 hM hv (by decide) kw_1394 dX12_keepsRow_165 ?_
    refine kz_iload (pc := 168) 3 (i := 5) rfl dX12_keepsRow_168 ?_
    obtain ⟨n33, f34, hM, hi, h⟩ := h
    refine kz_iald (pc := 170) hM hi dX12_keepsRow_170 ?_
    refine kz_if_ne (pc := 171) (tgt := 178) (by decide) dX12_keepsRow_171 (fun hb => ?_) (fun hb => ?_)
    · replace h := h.1 hb
      refine kz_iconst (pc := 178) (v := 1) (by decide) dX12_keepsRow_178 ?_
      obtain ⟨n35, f36, hM, hi, h⟩ := h
      refine kz_iast (pc := 179) hM hi dX12_keepsRow_179 ?_
      refine kz_aload_n (pc := 180) 1 (v := .ref x0) (i := 0) rfl rfl rfl dX12_keepsRow_180 ?_
      obtain ⟨fs37, v38, hM, hv, h⟩ := h
      refine kz_getf (pc := 181) (k := 0) kcX12 hM hv (by decide) kw_1378 dX12_keepsRow_181 ?_
      refine kz_iload (pc := 184) 0 (i := 6) rfl dX12_keepsRow_184 ?_
      refine kz_iconst (pc := 186) (v := 3) (by decide) dX12_keepsRow_186 ?_
      refine kz_iadd (pc := 187) dX12_keepsRow_187 ?_
      refine kz_aload_n (pc := 188) 1 (v := .ref x0) (i := 0) rfl rfl rfl dX12_keepsRow_188 ?_
      obtain ⟨fs39, v40, hM, hv, h⟩ := h
      refine kz_getf (pc := 189) (k := 16) kcX12 hM hv (by decide) kw_1394 dX12_keepsRow_189 ?_
      refine kz_iload (pc := 192) 3 (i := 5) rfl dX12_keepsRow_192 ?_
      obtain ⟨n41, f42, hM, hi, h⟩ := h
      refine kz_iald (pc := 194) hM hi dX12_keepsRow_194 ?_
      obtain ⟨n43, f44, hM, hi, h⟩ := h
      refine kz_iast (pc := 195) hM hi dX12_keepsRow_195 ?_
      refine kz_nameM (fun M45 e9 => ?_)
      replace h := h M45 e9
      refine kz_aload_n (pc := 196) 1 (v := .ref x0) (i := 0) rfl rfl rfl dX12_keepsRow_196 ?_
      obtain ⟨fs46, v47, hM, hv, h⟩ := h
      refine kz_getf (pc := 197) (k := 0) kcX12 hM hv (by decide) kw_1378 dX12_keepsRow_197 ?_
      refine kz_iload (pc := 200) 0 (i := 6) rfl dX12_keepsRow_200 ?_
      refine kz_iconst (pc := 202) (v := 4) (by decide) dX12_keepsRow_202 ?_
      refine kz_iadd (pc := 203) dX12_keepsRow_203 ?_
      refine kz_aload_n (pc := 204) 1 (v := .ref x0) (i := 0) rfl rfl rfl dX12_keepsRow_204 ?_
      obtain ⟨fs48, v49, hM, hv, h⟩ := h
      refine kz_getf (pc := 205) (k := 17) kcX12 hM hv (by decide) kw_1395 dX12_keepsRow_205 ?_
      refine kz_iload (pc := 208) 3 (i := 5) rfl dX12_keepsRow_208 ?_
      obtain ⟨n50, f51, hM, hi, h⟩ := h
      refine kz_iald (pc := 210) hM hi dX12_keepsRow_210 ?_
      obtain ⟨n52, f53, hM, hi, h⟩ := h
      refine kz_iast (pc := 211) hM hi dX12_keepsRow_211 ?_
      refine kz_iinc (pc := 212) 3 (i := 5) (v := x5 + 1) (ls' := [(6, .int r10), (0, .ref x0), (1, .int x1)]) rfl (congrArg (fun z => x5 + z) (by decide)) (by decide) rfl dX12_keepsRow_212 ?_
      refine kz_goto (pc := 215) (tgt := 106) (by decide) dX12_keepsRow_215 ?_
      refine kz_sub [2, 3, 0] rfl ?_
      exact h
    · replace h := h.2 hb
      refine kz_iconst (pc := 174) (v := 0) (by decide) dX12_keepsRow_174 ?_
      refine kz_goto (pc := 175) (tgt := 179) (by decide) dX12_keepsRow_175 ?_
      obtain ⟨n54, f55, hM, hi, h⟩ := h
      refine kz_iast (pc := 179) hM hi dX12_keepsRow_179 ?_
      refine kz_aload_n (pc := 180) 1 (v := .ref x0) (i := 0) rfl rfl rfl dX12_keepsRow_180 ?_
      obtain ⟨fs56, v57, hM, hv, h⟩ := h
      refine kz_getf (pc := 181) (k := 0) kcX12 hM hv (by decide) kw_1378 dX12_keepsRow_181 ?_
      refine kz_iload (pc := 184) 0 (i := 6) rfl dX12_keepsRow_184 ?_
      refine kz_iconst (pc := 186) (v := 3) (by decide) dX12_keepsRow_186 ?_
      refine kz_iadd (pc := 187) dX12_keepsRow_187 ?_
      refine kz_aload_n (pc := 188) 1 (v := .ref x0) (i := 0) rfl rfl rfl dX12_keepsRow_188 ?_
      obtain ⟨fs58, v59, hM, hv, h⟩ := h
      refine kz_getf (pc := 189) (k := 16) kcX12 hM hv (by decide) kw_1394 dX12_keepsRow_189 ?_
      refine kz_iload (pc := 192) 3 (i := 5) rfl dX12_keepsRow_192 ?_
      obtain ⟨n60, f61, hM, hi, h⟩ := h
      refine kz_iald (pc := 194) hM hi dX12_keepsRow_194 ?_
      obtain ⟨n62, f63, hM, hi, h⟩ := h
      refine kz_iast (pc := 195) hM hi dX12_keepsRow_195 ?_
      refine kz_nameM (fun M64 e9 => ?_)
      replace h := h M64 e9
      refine kz_aload_n (pc := 196) 1 (v := .ref x0) (i := 0) rfl rfl rfl dX12_keepsRow_196 ?_
      obtain ⟨fs65, v66, hM, hv, h⟩ := h
      refine kz_getf (pc := 197) (k := 0) kcX12 hM hv (by decide) kw_1378 dX12_keepsRow_197 ?_
      refine kz_iload (pc := 200) 0 (i := 6) rfl dX12_keepsRow_200 ?_
      refine kz_iconst (pc := 202) (v := 4) (by decide) dX12_keepsRow_202 ?_
      refine kz_iadd (pc := 203) dX12_keepsRow_203 ?_
      refine kz_aload_n (pc := 204) 1 (v := .ref x0) (i := 0) rfl rfl rfl dX12_keepsRow_204 ?_
      obtain ⟨fs67, v68, hM, hv, h⟩ := h
      refine kz_getf (pc := 205) (k := 17) kcX12 hM hv (by decide) kw_1395 dX12_keepsRow_205 ?_
      refine kz_iload (pc := 208) 3 (i := 5) rfl dX12_keepsRow_208 ?_
      obtain ⟨n69, f70, hM, hi, h⟩ := h
      refine kz_iald (pc := 210) hM hi dX12_keepsRow_210 ?_
      obtain ⟨n71, f72, hM, hi, h⟩ := h
      refine kz_iast (pc := 211) hM hi dX12_keepsRow_211 ?_
      refine kz_iinc (pc := 212) 3 (i := 5) (v := x5 + 1) (ls' := [(6, .int r10), (0, .ref x0), (1, .int x1)]) rfl (congrArg (fun z => x5 + z) (by decide)) (by decide) rfl dX12_keepsRow_212 ?_
      refine kz_goto (pc := 215) (tgt := 106) (by decide) dX12_keepsRow_215 ?_
      refine kz_sub [2, 3, 0] rfl ?_
      exact h
theorem dX12_submit_0 : decode cX12_submit 0 = .ok (.aload_n 0, 1) := by decide +kernel
theorem dX12_submit_1 : decode cX12_submit 1 = .ok (.iconst 0, 1) := by decide +kernel
theorem dX12_submit_2 : decode cX12_submit 2 = .ok (.putfield 60, 3) := by decide +kernel
theorem dX12_submit_5 : decode cX12_submit 5 = .ok (.aload_n 0, 1) := by decide +kernel
theorem dX12_submit_6 : decode cX12_submit 6 = .ok (.iload_n 1, 1) := by decide +kernel
theorem dX12_submit_7 : decode cX12_submit 7 = .ok (.iload_n 2, 1) := by decide +kernel
theorem dX12_submit_8 : decode cX12_submit 8 = .ok (.iload_n 3, 1) := by decide +kernel
theorem dX12_submit_9 : decode cX12_submit 9 = .ok (.invokevirtual 388, 3) := by decide +kernel
theorem dX12_submit_12 : decode cX12_submit 12 = .ok (.ifCond .eq 5, 3) := by decide +kernel
theorem dX12_submit_15 : decode cX12_submit 15 = .ok (.iconst 0, 1) := by decide +kernel
theorem dX12_submit_16 : decode cX12_submit 16 = .ok (.ireturn, 1) := by decide +kernel
theorem dX12_submit_17 : decode cX12_submit 17 = .ok (.aload_n 0, 1) := by decide +kernel
theorem dX12_submit_18 : decode cX12_submit 18 = .ok (.iload_n 2, 1) := by decide +kernel
theorem dX12_submit_19 : decode cX12_submit 19 = .ok (.iload_n 3, 1) := by decide +kernel
theorem dX12_submit_20 : decode cX12_submit 20 = .ok (.invokevirtual 391, 3) := by decide +kernel
theorem dX12_submit_23 : decode cX12_submit 23 = .ok (.istore 4, 2) := by decide +kernel
theorem dX12_submit_25 : decode cX12_submit 25 = .ok (.aload_n 0, 1) := by decide +kernel
theorem dX12_submit_26 : decode cX12_submit 26 = .ok (.iconst 0, 1) := by decide +kernel
theorem dX12_submit_27 : decode cX12_submit 27 = .ok (.putfield 177, 3) := by decide +kernel
theorem dX12_submit_30 : decode cX12_submit 30 = .ok (.iload 4, 2) := by decide +kernel
theorem dX12_submit_32 : decode cX12_submit 32 = .ok (.ifCond .ne 6, 3) := by decide +kernel
theorem dX12_submit_35 : decode cX12_submit 35 = .ok (.bipush (-2), 2) := by decide +kernel
theorem dX12_submit_37 : decode cX12_submit 37 = .ok (.ireturn, 1) := by decide +kernel
theorem dX12_submit_38 : decode cX12_submit 38 = .ok (.aload_n 0, 1) := by decide +kernel
theorem dX12_submit_39 : decode cX12_submit 39 = .ok (.getfield 7, 3) := by decide +kernel
theorem dX12_submit_42 : decode cX12_submit 42 = .ok (.iconst 1, 1) := by decide +kernel
theorem dX12_submit_43 : decode cX12_submit 43 = .ok (.iaload, 1) := by decide +kernel
theorem dX12_submit_44 : decode cX12_submit 44 = .ok (.istore 5, 2) := by decide +kernel
theorem dX12_submit_46 : decode cX12_submit 46 = .ok (.iload 5, 2) := by decide +kernel
theorem dX12_submit_48 : decode cX12_submit 48 = .ok (.bipush 12, 2) := by decide +kernel
theorem dX12_submit_50 : decode cX12_submit 50 = .ok (.if_icmp .ne 6, 3) := by decide +kernel
theorem dX12_submit_53 : decode cX12_submit 53 = .ok (.bipush (-3), 2) := by decide +kernel
theorem dX12_submit_55 : decode cX12_submit 55 = .ok (.ireturn, 1) := by decide +kernel
theorem dX12_submit_56 : decode cX12_submit 56 = .ok (.aload_n 0, 1) := by decide +kernel
theorem dX12_submit_57 : decode cX12_submit 57 = .ok (.invokevirtual 413, 3) := by decide +kernel
theorem dX12_submit_60 : decode cX12_submit 60 = .ok (.aload_n 0, 1) := by decide +kernel
theorem dX12_submit_61 : decode cX12_submit 61 = .ok (.iload_n 2, 1) := by decide +kernel
theorem dX12_submit_62 : decode cX12_submit 62 = .ok (.iload_n 1, 1) := by decide +kernel
theorem dX12_submit_63 : decode cX12_submit 63 = .ok (.iload 5, 2) := by decide +kernel
theorem dX12_submit_65 : decode cX12_submit 65 = .ok (.invokevirtual 394, 3) := by decide +kernel
theorem dX12_submit_68 : decode cX12_submit 68 = .ok (.aload_n 0, 1) := by decide +kernel
theorem dX12_submit_69 : decode cX12_submit 69 = .ok (.iload 5, 2) := by decide +kernel
theorem dX12_submit_71 : decode cX12_submit 71 = .ok (.iload_n 2, 1) := by decide +kernel
theorem dX12_submit_72 : decode cX12_submit 72 = .ok (.iload_n 1, 1) := by decide +kernel
theorem dX12_submit_73 : decode cX12_submit 73 = .ok (.invokevirtual 416, 3) := by decide +kernel
theorem dX12_submit_76 : decode cX12_submit 76 = .ok (.aload_n 0, 1) := by decide +kernel
theorem dX12_submit_77 : decode cX12_submit 77 = .ok (.iload_n 1, 1) := by decide +kernel
theorem dX12_submit_78 : decode cX12_submit 78 = .ok (.iconst 0, 1) := by decide +kernel
theorem dX12_submit_79 : decode cX12_submit 79 = .ok (.aload_n 0, 1) := by decide +kernel
theorem dX12_submit_80 : decode cX12_submit 80 = .ok (.invokevirtual 398, 3) := by decide +kernel
theorem dX12_submit_83 : decode cX12_submit 83 = .ok (.invokevirtual 419, 3) := by decide +kernel
theorem dX12_submit_86 : decode cX12_submit 86 = .ok (.aload_n 0, 1) := by decide +kernel
theorem dX12_submit_87 : decode cX12_submit 87 = .ok (.iload_n 1, 1) := by decide +kernel
theorem dX12_submit_88 : decode cX12_submit 88 = .ok (.iconst 1, 1) := by decide +kernel
theorem dX12_submit_89 : decode cX12_submit 89 = .ok (.aload_n 0, 1) := by decide +kernel
theorem dX12_submit_90 : decode cX12_submit 90 = .ok (.invokevirtual 401, 3) := by decide +kernel
theorem dX12_submit_93 : decode cX12_submit 93 = .ok (.ineg, 1) := by decide +kernel
theorem dX12_submit_94 : decode cX12_submit 94 = .ok (.invokevirtual 419, 3) := by decide +kernel
theorem dX12_submit_97 : decode cX12_submit 97 = .ok (.iload 5, 2) := by decide +kernel
theorem dX12_submit_99 : decode cX12_submit 99 = .ok (.ireturn, 1) := by decide +kernel
theorem rX12_submit_0 {G : kz_G} {d : Nat} {Qr : Option Value → kz_M → Prop} {Qx : String → kz_M → Prop} {a0 : Nat} {p1 : Int32} {p2 : Int32} {p3 : Int32}  {M : kz_M} (h : ∃ fs1, (M).1 a0 = some (.inl (11, fs1)) ∧ 9 < fs1.length ∧ ((∃ fs42, ((kz_up M a0 (.inl (11, fs1.set 9 (.int 0))))).1 a0 = some (.inl (11, fs42))) ∧ kz_C G (d + 6) 0 0 mX12_noReading [.ref a0, .int p1, .int p2, .int p3] (kz_up M a0 (.inl (11, fs1.set 9 (.int 0)))) (fun v M2 => ∃ r3 : Int32, v = some (.int r3) ∧ ((r3 = 0 → (∃ fs41, (M2).1 a0 = some (.inl (11, fs41))) ∧ kz_C G (d + 6) 0 0 mX12_readsRow [.ref a0, .int p2, .int p3] M2 (fun v M5 => ∃ r6 : Int32, v = some (.int r6) ∧ (∃ fs8, (M5).1 a0 = some (.inl (11, fs8)) ∧ 19 < fs8.length ∧ ((¬ r6 = 0 → ∃ fs9 v10, ((kz_up M5 a0 (.inl (11, fs8.set 19 (.int 0))))).1 a0 = some (.inl (11, fs9)) ∧ fs9[0]? = some (.ref v10) ∧ (∃ n11 f12, ((kz_up M5 a0 (.inl (11, fs8.set 19 (.int 0))))).1 v10 = some (.inr (.int, n11, .inl f12)) ∧ vp_in (1 : Int32) n11 ∧ ((¬ (f12 (1 : Int32).toNatClampNeg) = (12 : Int32) → (∃ fs40, ((kz_up M5 a0 (.inl (11, fs8.set 19 (.int 0))))).1 a0 = some (.inl (11, fs40))) ∧ kz_C G (d + 6) 0 0 mX12_remembers [.ref a0] (kz_up M5 a0 (.inl (11, fs8.set 19 (.int 0)))) (fun v M13 => v = none ∧ ((∃ fs39, (M13).1 a0 = some (.inl (11, fs39))) ∧ kz_C G (d + 6) 0 0 mX12_looks [.ref a0, .int p2, .int p1, .int (f12 (1 : Int32).toNatClampNeg)] M13 (fun v M16 => v = none ∧ ((∃ fs38, (M16).1 a0 = some (.inl (11, fs38))) ∧ kz_C G (d + 6) 0 0 mX12_keepsRow [.ref a0, .int (f12 (1 : Int32).toNatClampNeg), .int p2, .int p1] M16 (fun v M19 => v = none ∧ ((∃ fs37, (M19).1 a0 = some (.inl (11, fs37))) ∧ kz_C G (d + 6) 0 0 mX12_rowPays [.ref a0] M19 (fun v M22 => ∃ r23 : Int32, v = some (.int r23) ∧ ((∃ fs36, (M22).1 a0 = some (.inl (11, fs36))) ∧ kz_C G (d + 6) 0 0 mX12_books [.ref a0, .int p1, .int 0, .int r23] M22 (fun v M25 => v = none ∧ ((∃ fs35, (M25).1 a0 = some (.inl (11, fs35))) ∧ kz_C G (d + 6) 0 0 mX12_rowFines [.ref a0] M25 (fun v M28 => ∃ r29 : Int32, v = some (.int r29) ∧ ((∃ fs34, (M28).1 a0 = some (.inl (11, fs34))) ∧ kz_C G (d + 6) 0 0 mX12_books [.ref a0, .int p1, .int 1, .int (-r29)] M28 (fun v M31 => v = none ∧ (Qr (some (.int (f12 (1 : Int32).toNatClampNeg))) M31)) Qx)) Qx)) Qx)) Qx)) Qx)) Qx)) Qx) ∧ ((f12 (1 : Int32).toNatClampNeg) = (12 : Int32) → Qr (some (.int ((-3)))) (kz_up M5 a0 (.inl (11, fs8.set 19 (.int 0)))))))) ∧ (r6 = 0 → Qr (some (.int ((-2)))) (kz_up M5 a0 (.inl (11, fs8.set 19 (.int 0)))))))) Qx) ∧ (¬ r3 = 0 → Qr (some (.int 0)) M2))) Qx)) : kz_C G (d + 7) 0 0 mX12_submit [.ref a0, .int p1, .int p2, .int p3] M Qr Qx := by
  refine kz_enter (n := 3) kmX12_submit.1 (Nat.le_of_ble_eq_true rfl) (ls := [(0, .ref a0), (1, .int p1), (2, .int p2), (3, .int p3)]) rfl ?_
  refine kz_aload_n (pc := 0) 0 (v := .ref a0) (i := 0) rfl rfl rfl dX12_submit_0 ?_
  refine kz_iconst (pc := 1) (v := 0) (by decide) dX12_submit_1 ?_
  obtain ⟨fs1, hM, hlen, h⟩ := h
  refine kz_putf (pc := 2) (k := 9) kcX12 hM (by decide) hlen kw_1387 rfl rfl rfl dX12_submit_2 ?_
  refine kz_aload_n (pc := 5) 0 (v := .ref a0) (i := 0) rfl rfl rfl dX12_submit_5 ?_
  refine kz_iload_n (pc := 6) 1 (i := 1) rfl rfl dX12_submit_6 ?_
  refine kz_iload_n (pc := 7) 2 (i := 2) rfl rfl dX12_submit_7 ?_
  refine kz_iload_n (pc := 8) 3 (i := 3) rfl rfl dX12_submit_8 ?_
  obtain ⟨⟨fs42, he⟩, h⟩ := h
  refine kz_callV (pc := 9) (μ' := mX12_noReading) (ci := 11) (q := (RX12, TX12, 32)) (b := a0) (d' := d + 6) (mc' := 0) (ms' := 0) (As := [.int p1, .int p2, .int p3]) (st := []) (c := 0) (sl := 0) kmX12_noReading kw_1851 (by omega) rfl (Nat.le_of_ble_eq_true rfl) he rfl rfl (Nat.le_refl _) (Nat.le_refl _) dX12_submit_9 (fun E M9 hx => kz_Tout rfl (Nat.le_refl _) (Nat.le_refl _) hx) (kz_Cmono (fun v M2 h => ?_) (fun _ _ h => h) h)
  obtain ⟨r3, rfl, h⟩ := h
  show kz_Z G (d + 7) 0 0 mX12_submit Qr Qx 12 [(0, .ref a0), (1, .int p1), (2, .int p2), (3, .int p3)] [.int r3] M2 0 0
  refine kz_if_eq (pc := 12) (tgt := 17) (by decide) dX12_submit_12 (fun hb => ?_) (fun hb => ?_)
  · replace h := h.1 hb
    refine kz_aload_n (pc := 17) 0 (v := .ref a0) (i := 0) rfl rfl rfl dX12_submit_17 ?_
    refine kz_iload_n (pc := 18) 2 (i := 2) rfl rfl dX12_submit_18 ?_
    refine kz_iload_n (pc := 19) 3 (i := 3) rfl rfl dX12_submit_19 ?_
    obtain ⟨⟨fs41, he⟩, h⟩ := h
    refine kz_callV (pc := 20) (μ' := mX12_readsRow) (ci := 11) (q := (RX12, TX12, 32)) (b := a0) (d' := d + 6) (mc' := 0) (ms' := 0) (As := [.int p2, .int p3]) (st := []) (c := 0) (sl := 0) kmX12_readsRow kw_1856 (by omega) rfl (Nat.le_of_ble_eq_true rfl) he rfl rfl (Nat.le_refl _) (Nat.le_refl _) dX12_submit_20 (fun E M9 hx => kz_Tout rfl (Nat.le_refl _) (Nat.le_refl _) hx) (kz_Cmono (fun v M5 h => ?_) (fun _ _ h => h) h)
    obtain ⟨r6, rfl, h⟩ := h
    show kz_Z G (d + 7) 0 0 mX12_submit Qr Qx 23 [(0, .ref a0), (1, .int p1), (2, .int p2), (3, .int p3)] [.int r6] M5 0 0
    refine kz_istore (pc := 23) (i := 4) (ls' := [(0, .ref a0), (1, .int p1), (2, .int p2), (3, .int p3)]) (by decide) rfl dX12_submit_23 ?_
    refine kz_aload_n (pc := 25) 1 (v := .ref a0) (i := 0) rfl rfl rfl dX12_submit_25 ?_
    refine kz_iconst (pc := 26) (v := 0) (by decide) dX12_submit_26 ?_
    obtain ⟨fs8, hM, hlen, h⟩ := h
    refine kz_putf (pc := 27) (k := 19) kcX12 hM (by decide) hlen kw_1397 rfl rfl rfl dX12_submit_27 ?_
    refine kz_iload (pc := 30) 0 (i := 4) rfl dX12_submit_30 ?_
    refine kz_if_ne (pc := 32) (tgt := 38) (by decide) dX12_submit_32 (fun hb => ?_) (fun hb => ?_)
    · replace h := h.1 hb
      refine kz_aload_n (pc := 38) 1 (v := .ref a0) (i := 0) rfl rfl rfl dX12_submit_38 ?_
      obtain ⟨fs9, v10, hM, hv, h⟩ := h
      refine kz_getf (pc := 39) (k := 0) kcX12 hM hv (by decide) kw_1378 dX12_submit_39 ?_
      refine kz_iconst (pc := 42) (v := 1) (by decide) dX12_submit_42 ?_
      obtain ⟨n11, f12, hM, hi, h⟩ := h
      refine kz_iald (pc := 43) hM hi dX12_submit_43 ?_
      refine kz_istore (pc := 44) (i := 5) (ls' := [(4, .int r6), (0, .ref a0), (1, .int p1), (2, .int p2), (3, .int p3)]) (by decide) rfl dX12_submit_44 ?_
      refine kz_iload (pc := 46) 0 (i := 5) rfl dX12_submit_46 ?_
      refine kz_bipush (pc := 48) (v := 12) (by decide) dX12_submit_48 ?_
      refine kz_icmp_ne (pc := 50) (tgt := 56) (by decide) dX12_submit_50 (fun hb => ?_) (fun hb => ?_)
      · replace h := h.1 hb
        refine kz_aload_n (pc := 56) 2 (v := .ref a0) (i := 0) rfl rfl rfl dX12_submit_56 ?_
        obtain ⟨⟨fs40, he⟩, h⟩ := h
        refine kz_callV (pc := 57) (μ' := mX12_remembers) (ci := 11) (q := (RX12, TX12, 32)) (b := a0) (d' := d + 6) (mc' := 0) (ms' := 0) (As := []) (st := []) (c := 0) (sl := 0) kmX12_remembers kw_1935 (by omega) rfl (Nat.le_of_ble_eq_true rfl) he rfl rfl (Nat.le_refl _) (Nat.le_refl _) dX12_submit_57 (fun E M9 hx => kz_Tout rfl (Nat.le_refl _) (Nat.le_refl _) hx) (kz_Cmono (fun v M13 h => ?_) (fun _ _ h => h) h)
        obtain ⟨rfl, h⟩ := h
        show kz_Z G (d + 7) 0 0 mX12_submit Qr Qx 60 [(5, .int (f12 (1 : Int32).toNatClampNeg)), (4, .int r6), (0, .ref a0), (1, .int p1), (2, .int p2), (3, .int p3)] [] M13 0 0
        refine kz_aload_n (pc := 60) 2 (v := .ref a0) (i := 0) rfl rfl rfl dX12_submit_60 ?_
        refine kz_iload_n (pc := 61) 4 (i := 2) rfl rfl dX12_submit_61 ?_
        refine kz_iload_n (pc := 62) 3 (i := 1) rfl rfl dX12_submit_62 ?_
        refine kz_iload (pc := 63) 0 (i := 5) rfl dX12_submit_63 ?_
        obtain ⟨⟨fs39, he⟩, h⟩ := h
        refine kz_callV (pc := 65) (μ' := mX12_looks) (ci := 11) (q := (RX12, TX12, 32)) (b := a0) (d' := d + 6) (mc' := 0) (ms' := 0) (As := [.int p2, .int p1, .int (f12 (1 : Int32).toNatClampNeg)]) (st := []) (c := 0) (sl := 0) kmX12_looks kw_1860 (by omega) rfl (Nat.le_of_ble_eq_true rfl) he rfl rfl (Nat.le_refl _) (Nat.le_refl _) dX12_submit_65 (fun E M9 hx => kz_Tout rfl (Nat.le_refl _) (Nat.le_refl _) hx) (kz_Cmono (fun v M16 h => ?_) (fun _ _ h => h) h)
        obtain ⟨rfl, h⟩ := h
        show kz_Z G (d + 7) 0 0 mX12_submit Qr Qx 68 [(5, .int (f12 (1 : Int32).toNatClampNeg)), (4, .int r6), (0, .ref a0), (1, .int p1), (2, .int p2), (3, .int p3)] [] M16 0 0
        refine kz_aload_n (pc := 68) 2 (v := .ref a0) (i := 0) rfl rfl rfl dX12_submit_68 ?_
        refine kz_iload (pc := 69) 0 (i := 5) rfl dX12_submit_69 ?_
        refine kz_iload_n (pc := 71) 4 (i := 2) rfl rfl dX12_submit_71 ?_
        refine kz_iload_n (pc := 72) 3 (i := 1) rfl rfl dX12_submit_72 ?_
        obtain ⟨⟨fs38, he⟩, h⟩ := h
        refine kz_callV (pc := 73) (μ' := mX12_keepsRow) (ci := 11) (q := (RX12, TX12, 32)) (b := a0) (d' := d + 6) (mc' := 0) (ms' := 0) (As := [.int (f12 (1 : Int32).toNatClampNeg), .int p2, .int p1]) (st := []) (c := 0) (sl := 0) kmX12_keepsRow kw_1939 (by omega) rfl (Nat.le_of_ble_eq_true rfl) he rfl rfl (Nat.le_refl _) (Nat.le_refl _) dX12_submit_73 (fun E M9 hx => kz_Tout rfl (Nat.le_refl _) (Nat.le_refl _) hx) (kz_Cmono (fun v M19 h => ?_) (fun _ _ h => h) h)
        obtain ⟨rfl, h⟩ := h
        show kz_Z G (d + 7) 0 0 mX12_submit Qr Qx 76 [(5, .int (f12 (1 : Int32).toNatClampNeg)), (4, .int r6), (0, .ref a0), (1, .int p1), (2, .int p2), (3, .int p3)] [] M19 0 0
        refine kz_aload_n (pc := 76) 2 (v := .ref a0) (i := 0) rfl rfl rfl dX12_submit_76 ?_
        refine kz_iload_n (pc := 77) 3 (i := 1) rfl rfl dX12_submit_77 ?_
        refine kz_iconst (pc := 78) (v := 0) (by decide) dX12_submit_78 ?_
        refine kz_aload_n (pc := 79) 2 (v := .ref a0) (i := 0) rfl rfl rfl dX12_submit_79 ?_
        obtain ⟨⟨fs37, he⟩, h⟩ := h
        refine kz_callV (pc := 80) (μ' := mX12_rowPays) (ci := 11) (q := (RX12, TX12, 32)) (b := a0) (d' := d + 6) (mc' := 0) (ms' := 0) (As := []) (st := [.int 0, .int p1, .ref a0]) (c := 0) (sl := 0) kmX12_rowPays kw_1896 (by omega) rfl (Nat.le_of_ble_eq_true rfl) he rfl rfl (Nat.le_refl _) (Nat.le_refl _) dX12_submit_80 (fun E M9 hx => kz_Tout rfl (Nat.le_refl _) (Nat.le_refl _) hx) (kz_Cmono (fun v M22 h => ?_) (fun _ _ h => h) h)
        obtain ⟨r23, rfl, h⟩ := h
        show kz_Z G (d + 7) 0 0 mX12_submit Qr Qx 83 [(5, .int (f12 (1 : Int32).toNatClampNeg)), (4, .int r6), (0, .ref a0), (1, .int p1), (2, .int p2), (3, .int p3)] [.int r23, .int 0, .int p1, .ref a0] M22 0 0
        obtain ⟨⟨fs36, he⟩, h⟩ := h
        refine kz_callV (pc := 83) (μ' := mX12_books) (ci := 11) (q := (RX12, TX12, 32)) (b := a0) (d' := d + 6) (mc' := 0) (ms' := 0) (As := [.int p1, .int 0, .int r23]) (st := []) (c := 0) (sl := 0) kmX12_books kw_1943 (by omega) rfl (Nat.le_of_ble_eq_true rfl) he rfl rfl (Nat.le_refl _) (Nat.le_refl _) dX12_submit_83 (fun E M9 hx => kz_Tout rfl (Nat.le_refl _) (Nat.le_refl _) hx) (kz_Cmono (fun v M25 h => ?_) (fun _ _ h => h) h)
        obtain ⟨rfl, h⟩ := h
        show kz_Z G (d + 7) 0 0 mX12_submit Qr Qx 86 [(5, .int (f12 (1 : Int32).toNatClampNeg)), (4, .int r6), (0, .ref a0), (1, .int p1), (2, .int p2), (3, .int p3)] [] M25 0 0
        refine kz_aload_n (pc := 86) 2 (v := .ref a0) (i := 0) rfl rfl rfl dX12_submit_86 ?_
        refine kz_iload_n (pc := 87) 3 (i := 1) rfl rfl dX12_submit_87 ?_
        refine kz_iconst (pc := 88) (v := 1) (by decide) dX12_submit_88 ?_
        refine kz_aload_n (pc := 89) 2 (v := .ref a0) (i := 0) rfl rfl rfl dX12_submit_89 ?_
        obtain ⟨⟨fs35, he⟩, h⟩ := h
        refine kz_callV (pc := 90) (μ' := mX12_rowFines) (ci := 11) (q := (RX12, TX12, 32)) (b := a0) (d' := d + 6) (mc' := 0) (ms' := 0) (As := []) (st := [.int 1, .int p1, .ref a0]) (c := 0) (sl := 0) kmX12_rowFines kw_1900 (by omega) rfl (Nat.le_of_ble_eq_true rfl) he rfl rfl (Nat.le_refl _) (Nat.le_refl _) dX12_submit_90 (fun E M9 hx => kz_Tout rfl (Nat.le_refl _) (Nat.le_refl _) hx) (kz_Cmono (fun v M28 h => ?_) (fun _ _ h => h) h)
        obtain ⟨r29, rfl, h⟩ := h
        show kz_Z G (d + 7) 0 0 mX12_submit Qr Qx 93 [(5, .int (f12 (1 : Int32).toNatClampNeg)), (4, .int r6), (0, .ref a0), (1, .int p1), (2, .int p2), (3, .int p3)] [.int r29, .int 1, .int p1, .ref a0] M28 0 0
        refine kz_ineg (pc := 93) dX12_submit_93 ?_
        obtain ⟨⟨fs34, he⟩, h⟩ := h
        refine kz_callV (pc := 94) (μ' := mX12_books) (ci := 11) (q := (RX12, TX12, 32)) (b := a0) (d' := d + 6) (mc' := 0) (ms' := 0) (As := [.int p1, .int 1, .int (-r29)]) (st := []) (c := 0) (sl := 0) kmX12_books kw_1943 (by omega) rfl (Nat.le_of_ble_eq_true rfl) he rfl rfl (Nat.le_refl _) (Nat.le_refl _) dX12_submit_94 (fun E M9 hx => kz_Tout rfl (Nat.le_refl _) (Nat.le_refl _) hx) (kz_Cmono (fun v M31 h => ?_) (fun _ _ h => h) h)
        obtain ⟨rfl, h⟩ := h
        show kz_Z G (d + 7) 0 0 mX12_submit Qr Qx 97 [(5, .int (f12 (1 : Int32).toNatClampNeg)), (4, .int r6), (0, .ref a0), (1, .int p1), (2, .int p2), (3, .int p3)] [] M31 0 0
        refine kz_iload (pc := 97) 0 (i := 5) rfl dX12_submit_97 ?_
        exact kz_iret (pc := 99) rfl (Nat.le_refl _) (Nat.le_refl _) dX12_submit_99 h
      · replace h := h.2 hb
        refine kz_bipush (pc := 53) (v := (-3)) (by decide) dX12_submit_53 ?_
        exact kz_iret (pc := 55) rfl (Nat.le_refl _) (Nat.le_refl _) dX12_submit_55 h
    · replace h := h.2 hb
      refine kz_bipush (pc := 35) (v := (-2)) (by decide) dX12_submit_35 ?_
      exact kz_iret (pc := 37) rfl (Nat.le_refl _) (Nat.le_refl _) dX12_submit_37 h
  · replace h := h.2 hb
    refine kz_iconst (pc := 15) (v := 0) (by decide) dX12_submit_15 ?_
    exact kz_iret (pc := 16) rfl (Nat.le_refl _) (Nat.le_refl _) dX12_submit_16 h
theorem dX12_decides_0 : decode cX12_decides 0 = .ok (.aload_n 0, 1) := by decide +kernel
theorem dX12_decides_1 : decode cX12_decides 1 = .ok (.iload_n 1, 1) := by decide +kernel
theorem dX12_decides_2 : decode cX12_decides 2 = .ok (.iload_n 2, 1) := by decide +kernel
theorem dX12_decides_3 : decode cX12_decides 3 = .ok (.invokevirtual 410, 3) := by decide +kernel
theorem dX12_decides_6 : decode cX12_decides 6 = .ok (.ifCond .eq 38, 3) := by decide +kernel
theorem dX12_decides_9 : decode cX12_decides 9 = .ok (.aload_n 0, 1) := by decide +kernel
theorem dX12_decides_10 : decode cX12_decides 10 = .ok (.getfield 7, 3) := by decide +kernel
theorem dX12_decides_13 : decode cX12_decides 13 = .ok (.aload_n 0, 1) := by decide +kernel
theorem dX12_decides_14 : decode cX12_decides 14 = .ok (.iload_n 1, 1) := by decide +kernel
theorem dX12_decides_15 : decode cX12_decides 15 = .ok (.iload_n 2, 1) := by decide +kernel
theorem dX12_decides_16 : decode cX12_decides 16 = .ok (.invokevirtual 89, 3) := by decide +kernel
theorem dX12_decides_19 : decode cX12_decides 19 = .ok (.iconst 2, 1) := by decide +kernel
theorem dX12_decides_20 : decode cX12_decides 20 = .ok (.iadd, 1) := by decide +kernel
theorem dX12_decides_21 : decode cX12_decides 21 = .ok (.iconst 2, 1) := by decide +kernel
theorem dX12_decides_22 : decode cX12_decides 22 = .ok (.iastore, 1) := by decide +kernel
theorem dX12_decides_23 : decode cX12_decides 23 = .ok (.aload_n 0, 1) := by decide +kernel
theorem dX12_decides_24 : decode cX12_decides 24 = .ok (.iload_n 3, 1) := by decide +kernel
theorem dX12_decides_25 : decode cX12_decides 25 = .ok (.iconst 2, 1) := by decide +kernel
theorem dX12_decides_26 : decode cX12_decides 26 = .ok (.aload_n 0, 1) := by decide +kernel
theorem dX12_decides_27 : decode cX12_decides 27 = .ok (.iload_n 1, 1) := by decide +kernel
theorem dX12_decides_28 : decode cX12_decides 28 = .ok (.iload_n 2, 1) := by decide +kernel
theorem dX12_decides_29 : decode cX12_decides 29 = .ok (.iconst 4, 1) := by decide +kernel
theorem dX12_decides_30 : decode cX12_decides 30 = .ok (.invokevirtual 93, 3) := by decide +kernel
theorem dX12_decides_33 : decode cX12_decides 33 = .ok (.aload_n 0, 1) := by decide +kernel
theorem dX12_decides_34 : decode cX12_decides 34 = .ok (.iconst 3, 1) := by decide +kernel
theorem dX12_decides_35 : decode cX12_decides 35 = .ok (.invokevirtual 141, 3) := by decide +kernel
theorem dX12_decides_38 : decode cX12_decides 38 = .ok (.iadd, 1) := by decide +kernel
theorem dX12_decides_39 : decode cX12_decides 39 = .ok (.invokevirtual 419, 3) := by decide +kernel
theorem dX12_decides_42 : decode cX12_decides 42 = .ok (.iconst 1, 1) := by decide +kernel
theorem dX12_decides_43 : decode cX12_decides 43 = .ok (.ireturn, 1) := by decide +kernel
theorem dX12_decides_44 : decode cX12_decides 44 = .ok (.aload_n 0, 1) := by decide +kernel
theorem dX12_decides_45 : decode cX12_decides 45 = .ok (.getfield 7, 3) := by decide +kernel
theorem dX12_decides_48 : decode cX12_decides 48 = .ok (.aload_n 0, 1) := by decide +kernel
theorem dX12_decides_49 : decode cX12_decides 49 = .ok (.iload_n 1, 1) := by decide +kernel
theorem dX12_decides_50 : decode cX12_decides 50 = .ok (.iload_n 2, 1) := by decide +kernel
theorem dX12_decides_51 : decode cX12_decides 51 = .ok (.invokevirtual 89, 3) := by decide +kernel
theorem dX12_decides_54 : decode cX12_decides 54 = .ok (.iconst 2, 1) := by decide +kernel
theorem dX12_decides_55 : decode cX12_decides 55 = .ok (.iadd, 1) := by decide +kernel
theorem dX12_decides_56 : decode cX12_decides 56 = .ok (.iconst 3, 1) := by decide +kernel
theorem dX12_decides_57 : decode cX12_decides 57 = .ok (.iastore, 1) := by decide +kernel
theorem dX12_decides_58 : decode cX12_decides 58 = .ok (.aload_n 0, 1) := by decide +kernel
theorem dX12_decides_59 : decode cX12_decides 59 = .ok (.iload_n 3, 1) := by decide +kernel
theorem dX12_decides_60 : decode cX12_decides 60 = .ok (.iconst 3, 1) := by decide +kernel
theorem dX12_decides_61 : decode cX12_decides 61 = .ok (.aload_n 0, 1) := by decide +kernel
theorem dX12_decides_62 : decode cX12_decides 62 = .ok (.bipush 6, 2) := by decide +kernel
theorem dX12_decides_64 : decode cX12_decides 64 = .ok (.invokevirtual 141, 3) := by decide +kernel
theorem dX12_decides_67 : decode cX12_decides 67 = .ok (.ineg, 1) := by decide +kernel
theorem dX12_decides_68 : decode cX12_decides 68 = .ok (.invokevirtual 419, 3) := by decide +kernel
theorem dX12_decides_71 : decode cX12_decides 71 = .ok (.iconst 0, 1) := by decide +kernel
theorem dX12_decides_72 : decode cX12_decides 72 = .ok (.ireturn, 1) := by decide +kernel
theorem rX12_decides_0 {G : kz_G} {d : Nat} {Qr : Option Value → kz_M → Prop} {Qx : String → kz_M → Prop} {a0 : Nat} {p1 : Int32} {p2 : Int32} {p3 : Int32}  {M : kz_M} (h : (∃ fs40, (M).1 a0 = some (.inl (11, fs40))) ∧ kz_C G (d + 4) 0 0 mX12_isVaried [.ref a0, .int p1, .int p2] M (fun v M1 => ∃ r2 : Int32, v = some (.int r2) ∧ ((r2 = 0 → ∃ fs4 v5, (M1).1 a0 = some (.inl (11, fs4)) ∧ fs4[0]? = some (.ref v5) ∧ ((∃ fs19, (M1).1 a0 = some (.inl (11, fs19))) ∧ kz_C G (d + 4) 0 0 mX12_lineAt [.ref a0, .int p1, .int p2] M1 (fun v M6 => ∃ r7 : Int32, v = some (.int r7) ∧ (∃ n9 f10, (M6).1 v5 = some (.inr (.int, n9, .inl f10)) ∧ vp_in (r7 + 2) n9 ∧ ((∃ fs18, ((kz_up M6 v5 (.inr (.int, n9, .inl (upd f10 (r7 + 2 : Int32).toNatClampNeg 3))))).1 a0 = some (.inl (11, fs18))) ∧ kz_C G (d + 4) 0 0 mX12_its [.ref a0, .int 6] (kz_up M6 v5 (.inr (.int, n9, .inl (upd f10 (r7 + 2 : Int32).toNatClampNeg 3)))) (fun v M11 => ∃ r12 : Int32, v = some (.int r12) ∧ ((∃ fs17, (M11).1 a0 = some (.inl (11, fs17))) ∧ kz_C G (d + 4) 0 0 mX12_books [.ref a0, .int p3, .int 3, .int (-r12)] M11 (fun v M14 => v = none ∧ (Qr (some (.int 0)) M14)) Qx)) Qx))) Qx)) ∧ (¬ r2 = 0 → ∃ fs20 v21, (M1).1 a0 = some (.inl (11, fs20)) ∧ fs20[0]? = some (.ref v21) ∧ ((∃ fs39, (M1).1 a0 = some (.inl (11, fs39))) ∧ kz_C G (d + 4) 0 0 mX12_lineAt [.ref a0, .int p1, .int p2] M1 (fun v M22 => ∃ r23 : Int32, v = some (.int r23) ∧ (∃ n25 f26, (M22).1 v21 = some (.inr (.int, n25, .inl f26)) ∧ vp_in (r23 + 2) n25 ∧ ((∃ fs38, ((kz_up M22 v21 (.inr (.int, n25, .inl (upd f26 (r23 + 2 : Int32).toNatClampNeg 2))))).1 a0 = some (.inl (11, fs38))) ∧ kz_C G (d + 4) 0 0 mX12_ofLine [.ref a0, .int p1, .int p2, .int 4] (kz_up M22 v21 (.inr (.int, n25, .inl (upd f26 (r23 + 2 : Int32).toNatClampNeg 2)))) (fun v M27 => ∃ r28 : Int32, v = some (.int r28) ∧ ((∃ fs37, (M27).1 a0 = some (.inl (11, fs37))) ∧ kz_C G (d + 4) 0 0 mX12_its [.ref a0, .int 3] M27 (fun v M30 => ∃ r31 : Int32, v = some (.int r31) ∧ ((∃ fs36, (M30).1 a0 = some (.inl (11, fs36))) ∧ kz_C G (d + 4) 0 0 mX12_books [.ref a0, .int p3, .int 2, .int (r28 + r31)] M30 (fun v M33 => v = none ∧ (Qr (some (.int 1)) M33)) Qx)) Qx)) Qx))) Qx)))) Qx) : kz_C G (d + 5) 0 0 mX12_decides [.ref a0, .int p1, .int p2, .int p3] M Qr Qx := by
  refine kz_enter (n := 3) kmX12_decides.1 (Nat.le_of_ble_eq_true rfl) (ls := [(0, .ref a0), (1, .int p1), (2, .int p2), (3, .int p3)]) rfl ?_
  refine kz_aload_n (pc := 0) 0 (v := .ref a0) (i := 0) rfl rfl rfl dX12_decides_0 ?_
  refine kz_iload_n (pc := 1) 1 (i := 1) rfl rfl dX12_decides_1 ?_
  refine kz_iload_n (pc := 2) 2 (i := 2) rfl rfl dX12_decides_2 ?_
  obtain ⟨⟨fs40, he⟩, h⟩ := h
  refine kz_callV (pc := 3) (μ' := mX12_isVaried) (ci := 11) (q := (RX12, TX12, 32)) (b := a0) (d' := d + 4) (mc' := 0) (ms' := 0) (As := [.int p1, .int p2]) (st := []) (c := 0) (sl := 0) kmX12_isVaried kw_1923 (by omega) rfl (Nat.le_of_ble_eq_true rfl) he rfl rfl (Nat.le_refl _) (Nat.le_refl _) dX12_decides_3 (fun E M9 hx => kz_Tout rfl (Nat.le_refl _) (Nat.le_refl _) hx) (kz_Cmono (fun v M1 h => ?_) (fun _ _ h => h) h)
  obtain ⟨r2, rfl, h⟩ := h
  show kz_Z G (d + 5) 0 0 mX12_decides Qr Qx 6 [(0, .ref a0), (1, .int p1), (2, .int p2), (3, .int p3)] [.int r2] M1 0 0
  refine kz_if_eq (pc := 6) (tgt := 44) (by decide) dX12_decides_6 (fun hb => ?_) (fun hb => ?_)
  · replace h := h.1 hb
    refine kz_aload_n (pc := 44) 0 (v := .ref a0) (i := 0) rfl rfl rfl dX12_decides_44 ?_
    obtain ⟨fs4, v5, hM, hv, h⟩ := h
    refine kz_getf (pc := 45) (k := 0) kcX12 hM hv (by decide) kw_1378 dX12_decides_45 ?_
    refine kz_aload_n (pc := 48) 0 (v := .ref a0) (i := 0) rfl rfl rfl dX12_decides_48 ?_
    refine kz_iload_n (pc := 49) 1 (i := 1) rfl rfl dX12_decides_49 ?_
    refine kz_iload_n (pc := 50) 2 (i := 2) rfl rfl dX12_decides_50 ?_
    obtain ⟨⟨fs19, he⟩, h⟩ := h
    refine kz_callV (pc := 51) (μ' := mX12_lineAt) (ci := 11) (q := (RX12, TX12, 32)) (b := a0) (d' := d + 4) (mc' := 0) (ms' := 0) (As := [.int p1, .int p2]) (st := [.ref v5]) (c := 0) (sl := 0) kmX12_lineAt kw_1640 (by omega) rfl (Nat.le_of_ble_eq_true rfl) he rfl rfl (Nat.le_refl _) (Nat.le_refl _) dX12_decides_51 (fun E M9 hx => kz_Tout rfl (Nat.le_refl _) (Nat.le_refl _) hx) (kz_Cmono (fun v M6 h => ?_) (fun _ _ h => h) h)
    obtain ⟨r7, rfl, h⟩ := h
    show kz_Z G (d + 5) 0 0 mX12_decides Qr Qx 54 [(0, .ref a0), (1, .int p1), (2, .int p2), (3, .int p3)] [.int r7, .ref v5] M6 0 0
    refine kz_iconst (pc := 54) (v := 2) (by decide) dX12_decides_54 ?_
    refine kz_iadd (pc := 55) dX12_decides_55 ?_
    refine kz_iconst (pc := 56) (v := 3) (by decide) dX12_decides_56 ?_
    obtain ⟨n9, f10, hM, hi, h⟩ := h
    refine kz_iast (pc := 57) hM hi dX12_decides_57 ?_
    refine kz_aload_n (pc := 58) 0 (v := .ref a0) (i := 0) rfl rfl rfl dX12_decides_58 ?_
    refine kz_iload_n (pc := 59) 3 (i := 3) rfl rfl dX12_decides_59 ?_
    refine kz_iconst (pc := 60) (v := 3) (by decide) dX12_decides_60 ?_
    refine kz_aload_n (pc := 61) 0 (v := .ref a0) (i := 0) rfl rfl rfl dX12_decides_61 ?_
    refine kz_bipush (pc := 62) (v := 6) (by decide) dX12_decides_62 ?_
    obtain ⟨⟨fs18, he⟩, h⟩ := h
    refine kz_callV (pc := 64) (μ' := mX12_its) (ci := 11) (q := (RX12, TX12, 32)) (b := a0) (d' := d + 4) (mc' := 0) (ms' := 0) (As := [.int 6]) (st := [.int 3, .int p3, .ref a0]) (c := 0) (sl := 0) kmX12_its kw_1657 (by omega) rfl (Nat.le_of_ble_eq_true rfl) he rfl rfl (Nat.le_refl _) (Nat.le_refl _) dX12_decides_64 (fun E M9 hx => kz_Tout rfl (Nat.le_refl _) (Nat.le_refl _) hx) (kz_Cmono (fun v M11 h => ?_) (fun _ _ h => h) h)
    obtain ⟨r12, rfl, h⟩ := h
    show kz_Z G (d + 5) 0 0 mX12_decides Qr Qx 67 [(0, .ref a0), (1, .int p1), (2, .int p2), (3, .int p3)] [.int r12, .int 3, .int p3, .ref a0] M11 0 0
    refine kz_ineg (pc := 67) dX12_decides_67 ?_
    obtain ⟨⟨fs17, he⟩, h⟩ := h
    refine kz_callV (pc := 68) (μ' := mX12_books) (ci := 11) (q := (RX12, TX12, 32)) (b := a0) (d' := d + 4) (mc' := 0) (ms' := 0) (As := [.int p3, .int 3, .int (-r12)]) (st := []) (c := 0) (sl := 0) kmX12_books kw_1943 (by omega) rfl (Nat.le_of_ble_eq_true rfl) he rfl rfl (Nat.le_refl _) (Nat.le_refl _) dX12_decides_68 (fun E M9 hx => kz_Tout rfl (Nat.le_refl _) (Nat.le_refl _) hx) (kz_Cmono (fun v M14 h => ?_) (fun _ _ h => h) h)
    obtain ⟨rfl, h⟩ := h
    show kz_Z G (d + 5) 0 0 mX12_decides Qr Qx 71 [(0, .ref a0), (1, .int p1), (2, .int p2), (3, .int p3)] [] M14 0 0
    refine kz_iconst (pc := 71) (v := 0) (by decide) dX12_decides_71 ?_
    exact kz_iret (pc := 72) rfl (Nat.le_refl _) (Nat.le_refl _) dX12_decides_72 h
  · replace h := h.2 hb
    refine kz_aload_n (pc := 9) 0 (v := .ref a0) (i := 0) rfl rfl rfl dX12_decides_9 ?_
    obtain ⟨fs20, v21, hM, hv, h⟩ := h
    refine kz_getf (pc := 10) (k := 0) kcX12 hM hv (by decide) kw_1378 dX12_decides_10 ?_
    refine kz_aload_n (pc := 13) 0 (v := .ref a0) (i := 0) rfl rfl rfl dX12_decides_13 ?_
    refine kz_iload_n (pc := 14) 1 (i := 1) rfl rfl dX12_decides_14 ?_
    refine kz_iload_n (pc := 15) 2 (i := 2) rfl rfl dX12_decides_15 ?_
    obtain ⟨⟨fs39, he⟩, h⟩ := h
    refine kz_callV (pc := 16) (μ' := mX12_lineAt) (ci := 11) (q := (RX12, TX12, 32)) (b := a0) (d' := d + 4) (mc' := 0) (ms' := 0) (As := [.int p1, .int p2]) (st := [.ref v21]) (c := 0) (sl := 0) kmX12_lineAt kw_1640 (by omega) rfl (Nat.le_of_ble_eq_true rfl) he rfl rfl (Nat.le_refl _) (Nat.le_refl _) dX12_decides_16 (fun E M9 hx => kz_Tout rfl (Nat.le_refl _) (Nat.le_refl _) hx) (kz_Cmono (fun v M22 h => ?_) (fun _ _ h => h) h)
    obtain ⟨r23, rfl, h⟩ := h
    show kz_Z G (d + 5) 0 0 mX12_decides Qr Qx 19 [(0, .ref a0), (1, .int p1), (2, .int p2), (3, .int p3)] [.int r23, .ref v21] M22 0 0
    refine kz_iconst (pc := 19) (v := 2) (by decide) dX12_decides_19 ?_
    refine kz_iadd (pc := 20) dX12_decides_20 ?_
    refine kz_iconst (pc := 21) (v := 2) (by decide) dX12_decides_21 ?_
    obtain ⟨n25, f26, hM, hi, h⟩ := h
    refine kz_iast (pc := 22) hM hi dX12_decides_22 ?_
    refine kz_aload_n (pc := 23) 0 (v := .ref a0) (i := 0) rfl rfl rfl dX12_decides_23 ?_
    refine kz_iload_n (pc := 24) 3 (i := 3) rfl rfl dX12_decides_24 ?_
    refine kz_iconst (pc := 25) (v := 2) (by decide) dX12_decides_25 ?_
    refine kz_aload_n (pc := 26) 0 (v := .ref a0) (i := 0) rfl rfl rfl dX12_decides_26 ?_
    refine kz_iload_n (pc := 27) 1 (i := 1) rfl rfl dX12_decides_27 ?_
    refine kz_iload_n (pc := 28) 2 (i := 2) rfl rfl dX12_decides_28 ?_
    refine kz_iconst (pc := 29) (v := 4) (by decide) dX12_decides_29 ?_
    obtain ⟨⟨fs38, he⟩, h⟩ := h
    refine kz_callV (pc := 30) (μ' := mX12_ofLine) (ci := 11) (q := (RX12, TX12, 32)) (b := a0) (d' := d + 4) (mc' := 0) (ms' := 0) (As := [.int p1, .int p2, .int 4]) (st := [.int 2, .int p3, .ref a0]) (c := 0) (sl := 0) kmX12_ofLine kw_1636 (by omega) rfl (Nat.le_of_ble_eq_true rfl) he rfl rfl (Nat.le_refl _) (Nat.le_refl _) dX12_decides_30 (fun E M9 hx => kz_Tout rfl (Nat.le_refl _) (Nat.le_refl _) hx) (kz_Cmono (fun v M27 h => ?_) (fun _ _ h => h) h)
    obtain ⟨r28, rfl, h⟩ := h
    show kz_Z G (d + 5) 0 0 mX12_decides Qr Qx 33 [(0, .ref a0), (1, .int p1), (2, .int p2), (3, .int p3)] [.int r28, .int 2, .int p3, .ref a0] M27 0 0
    refine kz_aload_n (pc := 33) 0 (v := .ref a0) (i := 0) rfl rfl rfl dX12_decides_33 ?_
    refine kz_iconst (pc := 34) (v := 3) (by decide) dX12_decides_34 ?_
    obtain ⟨⟨fs37, he⟩, h⟩ := h
    refine kz_callV (pc := 35) (μ' := mX12_its) (ci := 11) (q := (RX12, TX12, 32)) (b := a0) (d' := d + 4) (mc' := 0) (ms' := 0) (As := [.int 3]) (st := [.int r28, .int 2, .int p3, .ref a0]) (c := 0) (sl := 0) kmX12_its kw_1657 (by omega) rfl (Nat.le_of_ble_eq_true rfl) he rfl rfl (Nat.le_refl _) (Nat.le_refl _) dX12_decides_35 (fun E M9 hx => kz_Tout rfl (Nat.le_refl _) (Nat.le_refl _) hx) (kz_Cmono (fun v M30 h => ?_) (fun _ _ h => h) h)
    obtain ⟨r31, rfl, h⟩ := h
    show kz_Z G (d + 5) 0 0 mX12_decides Qr Qx 38 [(0, .ref a0), (1, .int p1), (2, .int p2), (3, .int p3)] [.int r31, .int r28, .int 2, .int p3, .ref a0] M30 0 0
    refine kz_iadd (pc := 38) dX12_decides_38 ?_
    obtain ⟨⟨fs36, he⟩, h⟩ := h
    refine kz_callV (pc := 39) (μ' := mX12_books) (ci := 11) (q := (RX12, TX12, 32)) (b := a0) (d' := d + 4) (mc' := 0) (ms' := 0) (As := [.int p3, .int 2, .int (r28 + r31)]) (st := []) (c := 0) (sl := 0) kmX12_books kw_1943 (by omega) rfl (Nat.le_of_ble_eq_true rfl) he rfl rfl (Nat.le_refl _) (Nat.le_refl _) dX12_decides_39 (fun E M9 hx => kz_Tout rfl (Nat.le_refl _) (Nat.le_refl _) hx) (kz_Cmono (fun v M33 h => ?_) (fun _ _ h => h) h)
    obtain ⟨rfl, h⟩ := h
    show kz_Z G (d + 5) 0 0 mX12_decides Qr Qx 42 [(0, .ref a0), (1, .int p1), (2, .int p2), (3, .int p3)] [] M33 0 0
    refine kz_iconst (pc := 42) (v := 1) (by decide) dX12_decides_42 ?_
    exact kz_iret (pc := 43) rfl (Nat.le_refl _) (Nat.le_refl _) dX12_decides_43 h
theorem dX12_appeal_0 : decode cX12_appeal 0 = .ok (.aload_n 0, 1) := by decide +kernel
theorem dX12_appeal_1 : decode cX12_appeal 1 = .ok (.iconst 0, 1) := by decide +kernel
theorem dX12_appeal_2 : decode cX12_appeal 2 = .ok (.putfield 60, 3) := by decide +kernel
theorem dX12_appeal_5 : decode cX12_appeal 5 = .ok (.aload_n 0, 1) := by decide +kernel
theorem dX12_appeal_6 : decode cX12_appeal 6 = .ok (.iload_n 1, 1) := by decide +kernel
theorem dX12_appeal_7 : decode cX12_appeal 7 = .ok (.iload_n 2, 1) := by decide +kernel
theorem dX12_appeal_8 : decode cX12_appeal 8 = .ok (.invokevirtual 358, 3) := by decide +kernel
theorem dX12_appeal_11 : decode cX12_appeal 11 = .ok (.ifCond .eq 5, 3) := by decide +kernel
theorem dX12_appeal_14 : decode cX12_appeal 14 = .ok (.iconst 0, 1) := by decide +kernel
theorem dX12_appeal_15 : decode cX12_appeal 15 = .ok (.ireturn, 1) := by decide +kernel
theorem dX12_appeal_16 : decode cX12_appeal 16 = .ok (.aload_n 0, 1) := by decide +kernel
theorem dX12_appeal_17 : decode cX12_appeal 17 = .ok (.iload_n 1, 1) := by decide +kernel
theorem dX12_appeal_18 : decode cX12_appeal 18 = .ok (.iload_n 2, 1) := by decide +kernel
theorem dX12_appeal_19 : decode cX12_appeal 19 = .ok (.invokevirtual 407, 3) := by decide +kernel
theorem dX12_appeal_22 : decode cX12_appeal 22 = .ok (.istore_n 3, 1) := by decide +kernel
theorem dX12_appeal_23 : decode cX12_appeal 23 = .ok (.iload_n 3, 1) := by decide +kernel
theorem dX12_appeal_24 : decode cX12_appeal 24 = .ok (.ifCond .eq 6, 3) := by decide +kernel
theorem dX12_appeal_27 : decode cX12_appeal 27 = .ok (.iload_n 3, 1) := by decide +kernel
theorem dX12_appeal_28 : decode cX12_appeal 28 = .ok (.ineg, 1) := by decide +kernel
theorem dX12_appeal_29 : decode cX12_appeal 29 = .ok (.ireturn, 1) := by decide +kernel
theorem dX12_appeal_30 : decode cX12_appeal 30 = .ok (.aload_n 0, 1) := by decide +kernel
theorem dX12_appeal_31 : decode cX12_appeal 31 = .ok (.invokevirtual 413, 3) := by decide +kernel
theorem dX12_appeal_34 : decode cX12_appeal 34 = .ok (.aload_n 0, 1) := by decide +kernel
theorem dX12_appeal_35 : decode cX12_appeal 35 = .ok (.iload_n 1, 1) := by decide +kernel
theorem dX12_appeal_36 : decode cX12_appeal 36 = .ok (.iload_n 2, 1) := by decide +kernel
theorem dX12_appeal_37 : decode cX12_appeal 37 = .ok (.aload_n 0, 1) := by decide +kernel
theorem dX12_appeal_38 : decode cX12_appeal 38 = .ok (.iload_n 1, 1) := by decide +kernel
theorem dX12_appeal_39 : decode cX12_appeal 39 = .ok (.iconst 0, 1) := by decide +kernel
theorem dX12_appeal_40 : decode cX12_appeal 40 = .ok (.invokevirtual 101, 3) := by decide +kernel
theorem dX12_appeal_43 : decode cX12_appeal 43 = .ok (.invokevirtual 422, 3) := by decide +kernel
theorem dX12_appeal_46 : decode cX12_appeal 46 = .ok (.ireturn, 1) := by decide +kernel
theorem rX12_appeal_0 {G : kz_G} {d : Nat} {Qr : Option Value → kz_M → Prop} {Qx : String → kz_M → Prop} {a0 : Nat} {p1 : Int32} {p2 : Int32}  {M : kz_M} (h : ∃ fs1, (M).1 a0 = some (.inl (11, fs1)) ∧ 9 < fs1.length ∧ ((∃ fs21, ((kz_up M a0 (.inl (11, fs1.set 9 (.int 0))))).1 a0 = some (.inl (11, fs21))) ∧ kz_C G (d + 5) 0 0 mX12_noLine [.ref a0, .int p1, .int p2] (kz_up M a0 (.inl (11, fs1.set 9 (.int 0)))) (fun v M2 => ∃ r3 : Int32, v = some (.int r3) ∧ ((r3 = 0 → (∃ fs20, (M2).1 a0 = some (.inl (11, fs20))) ∧ kz_C G (d + 5) 0 0 mX12_against [.ref a0, .int p1, .int p2] M2 (fun v M5 => ∃ r6 : Int32, v = some (.int r6) ∧ ((r6 = 0 → (∃ fs19, (M5).1 a0 = some (.inl (11, fs19))) ∧ kz_C G (d + 5) 0 0 mX12_remembers [.ref a0] M5 (fun v M8 => v = none ∧ ((∃ fs18, (M8).1 a0 = some (.inl (11, fs18))) ∧ kz_C G (d + 5) 0 0 mX12_of [.ref a0, .int p1, .int 0] M8 (fun v M11 => ∃ r12 : Int32, v = some (.int r12) ∧ ((∃ fs17, (M11).1 a0 = some (.inl (11, fs17))) ∧ kz_C G (d + 5) 0 0 mX12_decides [.ref a0, .int p1, .int p2, .int r12] M11 (fun v M14 => ∃ r15 : Int32, v = some (.int r15) ∧ (Qr (some (.int r15)) M14)) Qx)) Qx)) Qx) ∧ (¬ r6 = 0 → Qr (some (.int (-r6))) M5))) Qx) ∧ (¬ r3 = 0 → Qr (some (.int 0)) M2))) Qx)) : kz_C G (d + 6) 0 0 mX12_appeal [.ref a0, .int p1, .int p2] M Qr Qx := by
  refine kz_enter (n := 2) kmX12_appeal.1 (Nat.le_of_ble_eq_true rfl) (ls := [(0, .ref a0), (1, .int p1), (2, .int p2)]) rfl ?_
  refine kz_aload_n (pc := 0) 0 (v := .ref a0) (i := 0) rfl rfl rfl dX12_appeal_0 ?_
  refine kz_iconst (pc := 1) (v := 0) (by decide) dX12_appeal_1 ?_
  obtain ⟨fs1, hM, hlen, h⟩ := h
  refine kz_putf (pc := 2) (k := 9) kcX12 hM (by decide) hlen kw_1387 rfl rfl rfl dX12_appeal_2 ?_
  refine kz_aload_n (pc := 5) 0 (v := .ref a0) (i := 0) rfl rfl rfl dX12_appeal_5 ?_
  refine kz_iload_n (pc := 6) 1 (i := 1) rfl rfl dX12_appeal_6 ?_
  refine kz_iload_n (pc := 7) 2 (i := 2) rfl rfl dX12_appeal_7 ?_
  obtain ⟨⟨fs21, he⟩, h⟩ := h
  refine kz_callV (pc := 8) (μ' := mX12_noLine) (ci := 11) (q := (RX12, TX12, 32)) (b := a0) (d' := d + 5) (mc' := 0) (ms' := 0) (As := [.int p1, .int p2]) (st := []) (c := 0) (sl := 0) kmX12_noLine kw_1729 (by omega) rfl (Nat.le_of_ble_eq_true rfl) he rfl rfl (Nat.le_refl _) (Nat.le_refl _) dX12_appeal_8 (fun E M9 hx => kz_Tout rfl (Nat.le_refl _) (Nat.le_refl _) hx) (kz_Cmono (fun v M2 h => ?_) (fun _ _ h => h) h)
  obtain ⟨r3, rfl, h⟩ := h
  show kz_Z G (d + 6) 0 0 mX12_appeal Qr Qx 11 [(0, .ref a0), (1, .int p1), (2, .int p2)] [.int r3] M2 0 0
  refine kz_if_eq (pc := 11) (tgt := 16) (by decide) dX12_appeal_11 (fun hb => ?_) (fun hb => ?_)
  · replace h := h.1 hb
    refine kz_aload_n (pc := 16) 0 (v := .ref a0) (i := 0) rfl rfl rfl dX12_appeal_16 ?_
    refine kz_iload_n (pc := 17) 1 (i := 1) rfl rfl dX12_appeal_17 ?_
    refine kz_iload_n (pc := 18) 2 (i := 2) rfl rfl dX12_appeal_18 ?_
    obtain ⟨⟨fs20, he⟩, h⟩ := h
    refine kz_callV (pc := 19) (μ' := mX12_against) (ci := 11) (q := (RX12, TX12, 32)) (b := a0) (d' := d + 5) (mc' := 0) (ms' := 0) (As := [.int p1, .int p2]) (st := []) (c := 0) (sl := 0) kmX12_against kw_1915 (by omega) rfl (Nat.le_of_ble_eq_true rfl) he rfl rfl (Nat.le_refl _) (Nat.le_refl _) dX12_appeal_19 (fun E M9 hx => kz_Tout rfl (Nat.le_refl _) (Nat.le_refl _) hx) (kz_Cmono (fun v M5 h => ?_) (fun _ _ h => h) h)
    obtain ⟨r6, rfl, h⟩ := h
    show kz_Z G (d + 6) 0 0 mX12_appeal Qr Qx 22 [(0, .ref a0), (1, .int p1), (2, .int p2)] [.int r6] M5 0 0
    refine kz_istore_n (pc := 22) (i := 3) (ls' := [(0, .ref a0), (1, .int p1), (2, .int p2)]) rfl (by decide) rfl dX12_appeal_22 ?_
    refine kz_iload_n (pc := 23) 0 (i := 3) rfl rfl dX12_appeal_23 ?_
    refine kz_if_eq (pc := 24) (tgt := 30) (by decide) dX12_appeal_24 (fun hb => ?_) (fun hb => ?_)
    · replace h := h.1 hb
      refine kz_aload_n (pc := 30) 1 (v := .ref a0) (i := 0) rfl rfl rfl dX12_appeal_30 ?_
      obtain ⟨⟨fs19, he⟩, h⟩ := h
      refine kz_callV (pc := 31) (μ' := mX12_remembers) (ci := 11) (q := (RX12, TX12, 32)) (b := a0) (d' := d + 5) (mc' := 0) (ms' := 0) (As := []) (st := []) (c := 0) (sl := 0) kmX12_remembers kw_1935 (by omega) rfl (Nat.le_of_ble_eq_true rfl) he rfl rfl (Nat.le_refl _) (Nat.le_refl _) dX12_appeal_31 (fun E M9 hx => kz_Tout rfl (Nat.le_refl _) (Nat.le_refl _) hx) (kz_Cmono (fun v M8 h => ?_) (fun _ _ h => h) h)
      obtain ⟨rfl, h⟩ := h
      show kz_Z G (d + 6) 0 0 mX12_appeal Qr Qx 34 [(3, .int r6), (0, .ref a0), (1, .int p1), (2, .int p2)] [] M8 0 0
      refine kz_aload_n (pc := 34) 1 (v := .ref a0) (i := 0) rfl rfl rfl dX12_appeal_34 ?_
      refine kz_iload_n (pc := 35) 2 (i := 1) rfl rfl dX12_appeal_35 ?_
      refine kz_iload_n (pc := 36) 3 (i := 2) rfl rfl dX12_appeal_36 ?_
      refine kz_aload_n (pc := 37) 1 (v := .ref a0) (i := 0) rfl rfl rfl dX12_appeal_37 ?_
      refine kz_iload_n (pc := 38) 2 (i := 1) rfl rfl dX12_appeal_38 ?_
      refine kz_iconst (pc := 39) (v := 0) (by decide) dX12_appeal_39 ?_
      obtain ⟨⟨fs18, he⟩, h⟩ := h
      refine kz_callV (pc := 40) (μ' := mX12_of) (ci := 11) (q := (RX12, TX12, 32)) (b := a0) (d' := d + 5) (mc' := 0) (ms' := 0) (As := [.int p1, .int 0]) (st := [.int p2, .int p1, .ref a0]) (c := 0) (sl := 0) kmX12_of kw_1620 (by omega) rfl (Nat.le_of_ble_eq_true rfl) he rfl rfl (Nat.le_refl _) (Nat.le_refl _) dX12_appeal_40 (fun E M9 hx => kz_Tout rfl (Nat.le_refl _) (Nat.le_refl _) hx) (kz_Cmono (fun v M11 h => ?_) (fun _ _ h => h) h)
      obtain ⟨r12, rfl, h⟩ := h
      show kz_Z G (d + 6) 0 0 mX12_appeal Qr Qx 43 [(3, .int r6), (0, .ref a0), (1, .int p1), (2, .int p2)] [.int r12, .int p2, .int p1, .ref a0] M11 0 0
      obtain ⟨⟨fs17, he⟩, h⟩ := h
      refine kz_callV (pc := 43) (μ' := mX12_decides) (ci := 11) (q := (RX12, TX12, 32)) (b := a0) (d' := d + 5) (mc' := 0) (ms' := 0) (As := [.int p1, .int p2, .int r12]) (st := []) (c := 0) (sl := 0) kmX12_decides kw_1951 (by omega) rfl (Nat.le_of_ble_eq_true rfl) he rfl rfl (Nat.le_refl _) (Nat.le_refl _) dX12_appeal_43 (fun E M9 hx => kz_Tout rfl (Nat.le_refl _) (Nat.le_refl _) hx) (kz_Cmono (fun v M14 h => ?_) (fun _ _ h => h) h)
      obtain ⟨r15, rfl, h⟩ := h
      show kz_Z G (d + 6) 0 0 mX12_appeal Qr Qx 46 [(3, .int r6), (0, .ref a0), (1, .int p1), (2, .int p2)] [.int r15] M14 0 0
      exact kz_iret (pc := 46) rfl (Nat.le_refl _) (Nat.le_refl _) dX12_appeal_46 h
    · replace h := h.2 hb
      refine kz_iload_n (pc := 27) 0 (i := 3) rfl rfl dX12_appeal_27 ?_
      refine kz_ineg (pc := 28) dX12_appeal_28 ?_
      exact kz_iret (pc := 29) rfl (Nat.le_refl _) (Nat.le_refl _) dX12_appeal_29 h
  · replace h := h.2 hb
    refine kz_iconst (pc := 14) (v := 0) (by decide) dX12_appeal_14 ?_
    exact kz_iret (pc := 15) rfl (Nat.le_refl _) (Nat.le_refl _) dX12_appeal_15 h
theorem dX12_gives_0 : decode cX12_gives 0 = .ok (.aload_n 0, 1) := by decide +kernel
theorem dX12_gives_1 : decode cX12_gives 1 = .ok (.getfield 7, 3) := by decide +kernel
theorem dX12_gives_4 : decode cX12_gives 4 = .ok (.iconst 3, 1) := by decide +kernel
theorem dX12_gives_5 : decode cX12_gives 5 = .ok (.dup2, 1) := by decide +kernel
theorem dX12_gives_6 : decode cX12_gives 6 = .ok (.iaload, 1) := by decide +kernel
theorem dX12_gives_7 : decode cX12_gives 7 = .ok (.iload_n 3, 1) := by decide +kernel
theorem dX12_gives_8 : decode cX12_gives 8 = .ok (.isub, 1) := by decide +kernel
theorem dX12_gives_9 : decode cX12_gives 9 = .ok (.iastore, 1) := by decide +kernel
theorem dX12_gives_10 : decode cX12_gives 10 = .ok (.aload_n 0, 1) := by decide +kernel
theorem dX12_gives_11 : decode cX12_gives 11 = .ok (.getfield 7, 3) := by decide +kernel
theorem dX12_gives_14 : decode cX12_gives 14 = .ok (.bipush 27, 2) := by decide +kernel
theorem dX12_gives_16 : decode cX12_gives 16 = .ok (.iload_n 1, 1) := by decide +kernel
theorem dX12_gives_17 : decode cX12_gives 17 = .ok (.iadd, 1) := by decide +kernel
theorem dX12_gives_18 : decode cX12_gives 18 = .ok (.dup2, 1) := by decide +kernel
theorem dX12_gives_19 : decode cX12_gives 19 = .ok (.iaload, 1) := by decide +kernel
theorem dX12_gives_20 : decode cX12_gives 20 = .ok (.iload_n 3, 1) := by decide +kernel
theorem dX12_gives_21 : decode cX12_gives 21 = .ok (.iadd, 1) := by decide +kernel
theorem dX12_gives_22 : decode cX12_gives 22 = .ok (.iastore, 1) := by decide +kernel
theorem dX12_gives_23 : decode cX12_gives 23 = .ok (.aload_n 0, 1) := by decide +kernel
theorem dX12_gives_24 : decode cX12_gives 24 = .ok (.iload_n 1, 1) := by decide +kernel
theorem dX12_gives_25 : decode cX12_gives 25 = .ok (.iload_n 2, 1) := by decide +kernel
theorem dX12_gives_26 : decode cX12_gives 26 = .ok (.iload_n 3, 1) := by decide +kernel
theorem dX12_gives_27 : decode cX12_gives 27 = .ok (.ineg, 1) := by decide +kernel
theorem dX12_gives_28 : decode cX12_gives 28 = .ok (.invokevirtual 419, 3) := by decide +kernel
theorem dX12_gives_31 : decode cX12_gives 31 = .ok (.return_, 1) := by decide +kernel
theorem rX12_gives_0 {G : kz_G} {d : Nat} {Qr : Option Value → kz_M → Prop} {Qx : String → kz_M → Prop} {a0 : Nat} {p1 : Int32} {p2 : Int32} {p3 : Int32}  {M : kz_M} (h : ∃ fs1 v2, (M).1 a0 = some (.inl (11, fs1)) ∧ fs1[0]? = some (.ref v2) ∧ (∃ n3 f4, (M).1 v2 = some (.inr (.int, n3, .inl f4)) ∧ vp_in (3 : Int32) n3 ∧ (∃ n5 f6, (M).1 v2 = some (.inr (.int, n5, .inl f6)) ∧ vp_in (3 : Int32) n5 ∧ (∃ fs7 v8, ((kz_up M v2 (.inr (.int, n5, .inl (upd f6 (3 : Int32).toNatClampNeg ((f4 (3 : Int32).toNatClampNeg) - p3)))))).1 a0 = some (.inl (11, fs7)) ∧ fs7[0]? = some (.ref v8) ∧ (∃ n9 f10, ((kz_up M v2 (.inr (.int, n5, .inl (upd f6 (3 : Int32).toNatClampNeg ((f4 (3 : Int32).toNatClampNeg) - p3)))))).1 v8 = some (.inr (.int, n9, .inl f10)) ∧ vp_in (27 + p1) n9 ∧ (∃ n11 f12, ((kz_up M v2 (.inr (.int, n5, .inl (upd f6 (3 : Int32).toNatClampNeg ((f4 (3 : Int32).toNatClampNeg) - p3)))))).1 v8 = some (.inr (.int, n11, .inl f12)) ∧ vp_in (27 + p1) n11 ∧ (∀ M13, M13 = kz_up (kz_up M v2 (.inr (.int, n5, .inl (upd f6 (3 : Int32).toNatClampNeg ((f4 (3 : Int32).toNatClampNeg) - p3))))) v8 (.inr (.int, n11, .inl (upd f12 (27 + p1 : Int32).toNatClampNeg ((f10 (27 + p1).toNatClampNeg) + p3)))) → (∃ fs17, (M13).1 a0 = some (.inl (11, fs17))) ∧ kz_C G (d + 1) 0 0 mX12_books [.ref a0, .int p1, .int p2, .int (-p3)] M13 (fun v M14 => v = none ∧ (Qr none M14)) Qx))))))) : kz_C G (d + 2) 0 0 mX12_gives [.ref a0, .int p1, .int p2, .int p3] M Qr Qx := by
  refine kz_enter (n := 3) kmX12_gives.1 (Nat.le_of_ble_eq_true rfl) (ls := [(0, .ref a0), (1, .int p1), (2, .int p2), (3, .int p3)]) rfl ?_
  refine kz_aload_n (pc := 0) 0 (v := .ref a0) (i := 0) rfl rfl rfl dX12_gives_0 ?_
  obtain ⟨fs1, v2, hM, hv, h⟩ := h
  refine kz_getf (pc := 1) (k := 0) kcX12 hM hv (by decide) kw_1378 dX12_gives_1 ?_
  refine kz_iconst (pc := 4) (v := 3) (by decide) dX12_gives_4 ?_
  refine kz_dup2_11 (pc := 5) rfl rfl dX12_gives_5 ?_
  obtain ⟨n3, f4, hM, hi, h⟩ := h
  refine kz_iald (pc := 6) hM hi dX12_gives_6 ?_
  refine kz_iload_n (pc := 7) 3 (i := 3) rfl rfl dX12_gives_7 ?_
  refine kz_isub (pc := 8) dX12_gives_8 ?_
  obtain ⟨n5, f6, hM, hi, h⟩ := h
  refine kz_iast (pc := 9) hM hi dX12_gives_9 ?_
  refine kz_aload_n (pc := 10) 0 (v := .ref a0) (i := 0) rfl rfl rfl dX12_gives_10 ?_
  obtain ⟨fs7, v8, hM, hv, h⟩ := h
  refine kz_getf (pc := 11) (k := 0) kcX12 hM hv (by decide) kw_1378 dX12_gives_11 ?_
  refine kz_bipush (pc := 14) (v := 27) (by decide) dX12_gives_14 ?_
  refine kz_iload_n (pc := 16) 1 (i := 1) rfl rfl dX12_gives_16 ?_
  refine kz_iadd (pc := 17) dX12_gives_17 ?_
  refine kz_dup2_11 (pc := 18) rfl rfl dX12_gives_18 ?_
  obtain ⟨n9, f10, hM, hi, h⟩ := h
  refine kz_iald (pc := 19) hM hi dX12_gives_19 ?_
  refine kz_iload_n (pc := 20) 3 (i := 3) rfl rfl dX12_gives_20 ?_
  refine kz_iadd (pc := 21) dX12_gives_21 ?_
  obtain ⟨n11, f12, hM, hi, h⟩ := h
  refine kz_iast (pc := 22) hM hi dX12_gives_22 ?_
  refine kz_nameM (fun M13 e9 => ?_)
  replace h := h M13 e9
  refine kz_aload_n (pc := 23) 0 (v := .ref a0) (i := 0) rfl rfl rfl dX12_gives_23 ?_
  refine kz_iload_n (pc := 24) 1 (i := 1) rfl rfl dX12_gives_24 ?_
  refine kz_iload_n (pc := 25) 2 (i := 2) rfl rfl dX12_gives_25 ?_
  refine kz_iload_n (pc := 26) 3 (i := 3) rfl rfl dX12_gives_26 ?_
  refine kz_ineg (pc := 27) dX12_gives_27 ?_
  obtain ⟨⟨fs17, he⟩, h⟩ := h
  refine kz_callV (pc := 28) (μ' := mX12_books) (ci := 11) (q := (RX12, TX12, 32)) (b := a0) (d' := d + 1) (mc' := 0) (ms' := 0) (As := [.int p1, .int p2, .int (-p3)]) (st := []) (c := 0) (sl := 0) kmX12_books kw_1943 (by omega) rfl (Nat.le_of_ble_eq_true rfl) he rfl rfl (Nat.le_refl _) (Nat.le_refl _) dX12_gives_28 (fun E M9 hx => kz_Tout rfl (Nat.le_refl _) (Nat.le_refl _) hx) (kz_Cmono (fun v M14 h => ?_) (fun _ _ h => h) h)
  obtain ⟨rfl, h⟩ := h
  show kz_Z G (d + 2) 0 0 mX12_gives Qr Qx 31 [(0, .ref a0), (1, .int p1), (2, .int p2), (3, .int p3)] [] M14 0 0
  exact kz_vret (pc := 31) rfl (Nat.le_refl _) (Nat.le_refl _) dX12_gives_31 h
theorem dX12_payOut_0 : decode cX12_payOut 0 = .ok (.aload_n 0, 1) := by decide +kernel
theorem dX12_payOut_1 : decode cX12_payOut 1 = .ok (.iconst 0, 1) := by decide +kernel
theorem dX12_payOut_2 : decode cX12_payOut 2 = .ok (.putfield 60, 3) := by decide +kernel
theorem dX12_payOut_5 : decode cX12_payOut 5 = .ok (.aload_n 0, 1) := by decide +kernel
theorem dX12_payOut_6 : decode cX12_payOut 6 = .ok (.iload_n 1, 1) := by decide +kernel
theorem dX12_payOut_7 : decode cX12_payOut 7 = .ok (.invokevirtual 340, 3) := by decide +kernel
theorem dX12_payOut_10 : decode cX12_payOut 10 = .ok (.ifCond .eq 5, 3) := by decide +kernel
theorem dX12_payOut_13 : decode cX12_payOut 13 = .ok (.iconst 0, 1) := by decide +kernel
theorem dX12_payOut_14 : decode cX12_payOut 14 = .ok (.ireturn, 1) := by decide +kernel
theorem dX12_payOut_15 : decode cX12_payOut 15 = .ok (.aload_n 0, 1) := by decide +kernel
theorem dX12_payOut_16 : decode cX12_payOut 16 = .ok (.invokevirtual 413, 3) := by decide +kernel
theorem dX12_payOut_19 : decode cX12_payOut 19 = .ok (.iconst 0, 1) := by decide +kernel
theorem dX12_payOut_20 : decode cX12_payOut 20 = .ok (.aload_n 0, 1) := by decide +kernel
theorem dX12_payOut_21 : decode cX12_payOut 21 = .ok (.getfield 7, 3) := by decide +kernel
theorem dX12_payOut_24 : decode cX12_payOut 24 = .ok (.iconst 3, 1) := by decide +kernel
theorem dX12_payOut_25 : decode cX12_payOut 25 = .ok (.iaload, 1) := by decide +kernel
theorem dX12_payOut_26 : decode cX12_payOut 26 = .ok (.aload_n 0, 1) := by decide +kernel
theorem dX12_payOut_27 : decode cX12_payOut 27 = .ok (.getfield 7, 3) := by decide +kernel
theorem dX12_payOut_30 : decode cX12_payOut 30 = .ok (.bipush 21, 2) := by decide +kernel
theorem dX12_payOut_32 : decode cX12_payOut 32 = .ok (.iload_n 1, 1) := by decide +kernel
theorem dX12_payOut_33 : decode cX12_payOut 33 = .ok (.iadd, 1) := by decide +kernel
theorem dX12_payOut_34 : decode cX12_payOut 34 = .ok (.iaload, 1) := by decide +kernel
theorem dX12_payOut_35 : decode cX12_payOut 35 = .ok (.invokestatic 385, 3) := by decide +kernel
theorem dX12_payOut_38 : decode cX12_payOut 38 = .ok (.invokestatic 320, 3) := by decide +kernel
theorem dX12_payOut_41 : decode cX12_payOut 41 = .ok (.istore_n 2, 1) := by decide +kernel
theorem dX12_payOut_42 : decode cX12_payOut 42 = .ok (.aload_n 0, 1) := by decide +kernel
theorem dX12_payOut_43 : decode cX12_payOut 43 = .ok (.iload_n 1, 1) := by decide +kernel
theorem dX12_payOut_44 : decode cX12_payOut 44 = .ok (.iconst 4, 1) := by decide +kernel
theorem dX12_payOut_45 : decode cX12_payOut 45 = .ok (.iload_n 2, 1) := by decide +kernel
theorem dX12_payOut_46 : decode cX12_payOut 46 = .ok (.invokevirtual 425, 3) := by decide +kernel
theorem dX12_payOut_49 : decode cX12_payOut 49 = .ok (.iload_n 2, 1) := by decide +kernel
theorem dX12_payOut_50 : decode cX12_payOut 50 = .ok (.ireturn, 1) := by decide +kernel
theorem rX12_payOut_0 {G : kz_G} {d : Nat} {Qr : Option Value → kz_M → Prop} {Qx : String → kz_M → Prop} {a0 : Nat} {p1 : Int32}  {M : kz_M} (h : ∃ fs1, (M).1 a0 = some (.inl (11, fs1)) ∧ 9 < fs1.length ∧ ((∃ fs21, ((kz_up M a0 (.inl (11, fs1.set 9 (.int 0))))).1 a0 = some (.inl (11, fs21))) ∧ kz_C G (d + 2) 0 0 mX12_noWriter [.ref a0, .int p1] (kz_up M a0 (.inl (11, fs1.set 9 (.int 0)))) (fun v M2 => ∃ r3 : Int32, v = some (.int r3) ∧ ((r3 = 0 → (∃ fs20, (M2).1 a0 = some (.inl (11, fs20))) ∧ kz_C G (d + 2) 0 0 mX12_remembers [.ref a0] M2 (fun v M5 => v = none ∧ (∃ fs8 v9, (M5).1 a0 = some (.inl (11, fs8)) ∧ fs8[0]? = some (.ref v9) ∧ (∃ n10 f11, (M5).1 v9 = some (.inr (.int, n10, .inl f11)) ∧ vp_in (3 : Int32) n10 ∧ (∃ fs12 v13, (M5).1 a0 = some (.inl (11, fs12)) ∧ fs12[0]? = some (.ref v13) ∧ (∃ n14 f15, (M5).1 v13 = some (.inr (.int, n14, .inl f15)) ∧ vp_in (21 + p1) n14 ∧ ((∃ fs19, (M5).1 a0 = some (.inl (11, fs19))) ∧ kz_C G (d + 2) 0 0 mX12_gives [.ref a0, .int p1, .int 4, .int (if 0 < (if (f15 (21 + p1).toNatClampNeg) < (f11 (3 : Int32).toNatClampNeg) then (f15 (21 + p1).toNatClampNeg) else (f11 (3 : Int32).toNatClampNeg)) then (if (f15 (21 + p1).toNatClampNeg) < (f11 (3 : Int32).toNatClampNeg) then (f15 (21 + p1).toNatClampNeg) else (f11 (3 : Int32).toNatClampNeg)) else 0)] M5 (fun v M16 => v = none ∧ (Qr (some (.int (if 0 < (if (f15 (21 + p1).toNatClampNeg) < (f11 (3 : Int32).toNatClampNeg) then (f15 (21 + p1).toNatClampNeg) else (f11 (3 : Int32).toNatClampNeg)) then (if (f15 (21 + p1).toNatClampNeg) < (f11 (3 : Int32).toNatClampNeg) then (f15 (21 + p1).toNatClampNeg) else (f11 (3 : Int32).toNatClampNeg)) else 0))) M16)) Qx)))))) Qx) ∧ (¬ r3 = 0 → Qr (some (.int 0)) M2))) Qx)) : kz_C G (d + 3) 0 0 mX12_payOut [.ref a0, .int p1] M Qr Qx := by
  refine kz_enter (n := 1) kmX12_payOut.1 (Nat.le_of_ble_eq_true rfl) (ls := [(0, .ref a0), (1, .int p1)]) rfl ?_
  refine kz_aload_n (pc := 0) 0 (v := .ref a0) (i := 0) rfl rfl rfl dX12_payOut_0 ?_
  refine kz_iconst (pc := 1) (v := 0) (by decide) dX12_payOut_1 ?_
  obtain ⟨fs1, hM, hlen, h⟩ := h
  refine kz_putf (pc := 2) (k := 9) kcX12 hM (by decide) hlen kw_1387 rfl rfl rfl dX12_payOut_2 ?_
  refine kz_aload_n (pc := 5) 0 (v := .ref a0) (i := 0) rfl rfl rfl dX12_payOut_5 ?_
  refine kz_iload_n (pc := 6) 1 (i := 1) rfl rfl dX12_payOut_6 ?_
  obtain ⟨⟨fs21, he⟩, h⟩ := h
  refine kz_callV (pc := 7) (μ' := mX12_noWriter) (ci := 11) (q := (RX12, TX12, 32)) (b := a0) (d' := d + 2) (mc' := 0) (ms' := 0) (As := [.int p1]) (st := []) (c := 0) (sl := 0) kmX12_noWriter kw_1665 (by omega) rfl (Nat.le_of_ble_eq_true rfl) he rfl rfl (Nat.le_refl _) (Nat.le_refl _) dX12_payOut_7 (fun E M9 hx => kz_Tout rfl (Nat.le_refl _) (Nat.le_refl _) hx) (kz_Cmono (fun v M2 h => ?_) (fun _ _ h => h) h)
  obtain ⟨r3, rfl, h⟩ := h
  show kz_Z G (d + 3) 0 0 mX12_payOut Qr Qx 10 [(0, .ref a0), (1, .int p1)] [.int r3] M2 0 0
  refine kz_if_eq (pc := 10) (tgt := 15) (by decide) dX12_payOut_10 (fun hb => ?_) (fun hb => ?_)
  · replace h := h.1 hb
    refine kz_aload_n (pc := 15) 0 (v := .ref a0) (i := 0) rfl rfl rfl dX12_payOut_15 ?_
    obtain ⟨⟨fs20, he⟩, h⟩ := h
    refine kz_callV (pc := 16) (μ' := mX12_remembers) (ci := 11) (q := (RX12, TX12, 32)) (b := a0) (d' := d + 2) (mc' := 0) (ms' := 0) (As := []) (st := []) (c := 0) (sl := 0) kmX12_remembers kw_1935 (by omega) rfl (Nat.le_of_ble_eq_true rfl) he rfl rfl (Nat.le_refl _) (Nat.le_refl _) dX12_payOut_16 (fun E M9 hx => kz_Tout rfl (Nat.le_refl _) (Nat.le_refl _) hx) (kz_Cmono (fun v M5 h => ?_) (fun _ _ h => h) h)
    obtain ⟨rfl, h⟩ := h
    show kz_Z G (d + 3) 0 0 mX12_payOut Qr Qx 19 [(0, .ref a0), (1, .int p1)] [] M5 0 0
    refine kz_iconst (pc := 19) (v := 0) (by decide) dX12_payOut_19 ?_
    refine kz_aload_n (pc := 20) 0 (v := .ref a0) (i := 0) rfl rfl rfl dX12_payOut_20 ?_
    obtain ⟨fs8, v9, hM, hv, h⟩ := h
    refine kz_getf (pc := 21) (k := 0) kcX12 hM hv (by decide) kw_1378 dX12_payOut_21 ?_
    refine kz_iconst (pc := 24) (v := 3) (by decide) dX12_payOut_24 ?_
    obtain ⟨n10, f11, hM, hi, h⟩ := h
    refine kz_iald (pc := 25) hM hi dX12_payOut_25 ?_
    refine kz_aload_n (pc := 26) 0 (v := .ref a0) (i := 0) rfl rfl rfl dX12_payOut_26 ?_
    obtain ⟨fs12, v13, hM, hv, h⟩ := h
    refine kz_getf (pc := 27) (k := 0) kcX12 hM hv (by decide) kw_1378 dX12_payOut_27 ?_
    refine kz_bipush (pc := 30) (v := 21) (by decide) dX12_payOut_30 ?_
    refine kz_iload_n (pc := 32) 1 (i := 1) rfl rfl dX12_payOut_32 ?_
    refine kz_iadd (pc := 33) dX12_payOut_33 ?_
    obtain ⟨n14, f15, hM, hi, h⟩ := h
    refine kz_iald (pc := 34) hM hi dX12_payOut_34 ?_
    refine kz_mmin (pc := 35) kw_1855 kw_1250 kw_15 kw_1251 (by omega) (Nat.le_of_ble_eq_true rfl) (Nat.le_refl _) (Nat.le_refl _) dX12_payOut_35 ?_
    refine kz_mmax (pc := 38) kw_1648 kw_547 kw_15 kw_548 (by omega) (Nat.le_of_ble_eq_true rfl) (Nat.le_refl _) (Nat.le_refl _) dX12_payOut_38 ?_
    refine kz_istore_n (pc := 41) (i := 2) (ls' := [(0, .ref a0), (1, .int p1)]) rfl (by decide) rfl dX12_payOut_41 ?_
    refine kz_aload_n (pc := 42) 1 (v := .ref a0) (i := 0) rfl rfl rfl dX12_payOut_42 ?_
    refine kz_iload_n (pc := 43) 2 (i := 1) rfl rfl dX12_payOut_43 ?_
    refine kz_iconst (pc := 44) (v := 4) (by decide) dX12_payOut_44 ?_
    refine kz_iload_n (pc := 45) 0 (i := 2) rfl rfl dX12_payOut_45 ?_
    obtain ⟨⟨fs19, he⟩, h⟩ := h
    refine kz_callV (pc := 46) (μ' := mX12_gives) (ci := 11) (q := (RX12, TX12, 32)) (b := a0) (d' := d + 2) (mc' := 0) (ms' := 0) (As := [.int p1, .int 4, .int (if 0 < (if (f15 (21 + p1).toNatClampNeg) < (f11 (3 : Int32).toNatClampNeg) then (f15 (21 + p1).toNatClampNeg) else (f11 (3 : Int32).toNatClampNeg)) then (if (f15 (21 + p1).toNatClampNeg) < (f11 (3 : Int32).toNatClampNeg) then (f15 (21 + p1).toNatClampNeg) else (f11 (3 : Int32).toNatClampNeg)) else 0)]) (st := []) (c := 0) (sl := 0) kmX12_gives kw_1959 (by omega) rfl (Nat.le_of_ble_eq_true rfl) he rfl rfl (Nat.le_refl _) (Nat.le_refl _) dX12_payOut_46 (fun E M9 hx => kz_Tout rfl (Nat.le_refl _) (Nat.le_refl _) hx) (kz_Cmono (fun v M16 h => ?_) (fun _ _ h => h) h)
    obtain ⟨rfl, h⟩ := h
    show kz_Z G (d + 3) 0 0 mX12_payOut Qr Qx 49 [(2, .int (if 0 < (if (f15 (21 + p1).toNatClampNeg) < (f11 (3 : Int32).toNatClampNeg) then (f15 (21 + p1).toNatClampNeg) else (f11 (3 : Int32).toNatClampNeg)) then (if (f15 (21 + p1).toNatClampNeg) < (f11 (3 : Int32).toNatClampNeg) then (f15 (21 + p1).toNatClampNeg) else (f11 (3 : Int32).toNatClampNeg)) else 0)), (0, .ref a0), (1, .int p1)] [] M16 0 0
    refine kz_iload_n (pc := 49) 0 (i := 2) rfl rfl dX12_payOut_49 ?_
    exact kz_iret (pc := 50) rfl (Nat.le_refl _) (Nat.le_refl _) dX12_payOut_50 h
  · replace h := h.2 hb
    refine kz_iconst (pc := 13) (v := 0) (by decide) dX12_payOut_13 ?_
    exact kz_iret (pc := 14) rfl (Nat.le_refl _) (Nat.le_refl _) dX12_payOut_14 h
theorem dX12_advance_0 : decode cX12_advance 0 = .ok (.aload_n 0, 1) := by decide +kernel
theorem dX12_advance_1 : decode cX12_advance 1 = .ok (.iconst 0, 1) := by decide +kernel
theorem dX12_advance_2 : decode cX12_advance 2 = .ok (.putfield 60, 3) := by decide +kernel
theorem dX12_advance_5 : decode cX12_advance 5 = .ok (.aload_n 0, 1) := by decide +kernel
theorem dX12_advance_6 : decode cX12_advance 6 = .ok (.iload_n 1, 1) := by decide +kernel
theorem dX12_advance_7 : decode cX12_advance 7 = .ok (.invokevirtual 340, 3) := by decide +kernel
theorem dX12_advance_10 : decode cX12_advance 10 = .ok (.ifCond .ne 27, 3) := by decide +kernel
theorem dX12_advance_13 : decode cX12_advance 13 = .ok (.aload_n 0, 1) := by decide +kernel
theorem dX12_advance_14 : decode cX12_advance 14 = .ok (.iload_n 2, 1) := by decide +kernel
theorem dX12_advance_15 : decode cX12_advance 15 = .ok (.iconst 1, 1) := by decide +kernel
theorem dX12_advance_16 : decode cX12_advance 16 = .ok (.sipush 999, 3) := by decide +kernel
theorem dX12_advance_19 : decode cX12_advance 19 = .ok (.invokestatic 67, 3) := by decide +kernel
theorem dX12_advance_22 : decode cX12_advance 22 = .ok (.ifCond .ne 7, 3) := by decide +kernel
theorem dX12_advance_25 : decode cX12_advance 25 = .ok (.iconst 1, 1) := by decide +kernel
theorem dX12_advance_26 : decode cX12_advance 26 = .ok (.goto 4, 3) := by decide +kernel
theorem dX12_advance_29 : decode cX12_advance 29 = .ok (.iconst 0, 1) := by decide +kernel
theorem dX12_advance_30 : decode cX12_advance 30 = .ok (.iconst 2, 1) := by decide +kernel
theorem dX12_advance_31 : decode cX12_advance 31 = .ok (.invokevirtual 310, 3) := by decide +kernel
theorem dX12_advance_34 : decode cX12_advance 34 = .ok (.ifCond .eq 5, 3) := by decide +kernel
theorem dX12_advance_37 : decode cX12_advance 37 = .ok (.iconst 0, 1) := by decide +kernel
theorem dX12_advance_38 : decode cX12_advance 38 = .ok (.ireturn, 1) := by decide +kernel
theorem dX12_advance_39 : decode cX12_advance 39 = .ok (.aload_n 0, 1) := by decide +kernel
theorem dX12_advance_40 : decode cX12_advance 40 = .ok (.aload_n 0, 1) := by decide +kernel
theorem dX12_advance_41 : decode cX12_advance 41 = .ok (.getfield 7, 3) := by decide +kernel
theorem dX12_advance_44 : decode cX12_advance 44 = .ok (.iconst 3, 1) := by decide +kernel
theorem dX12_advance_45 : decode cX12_advance 45 = .ok (.iaload, 1) := by decide +kernel
theorem dX12_advance_46 : decode cX12_advance 46 = .ok (.iload_n 2, 1) := by decide +kernel
theorem dX12_advance_47 : decode cX12_advance 47 = .ok (.if_icmp .ge 7, 3) := by decide +kernel
theorem dX12_advance_50 : decode cX12_advance 50 = .ok (.iconst 1, 1) := by decide +kernel
theorem dX12_advance_51 : decode cX12_advance 51 = .ok (.goto 4, 3) := by decide +kernel
theorem dX12_advance_54 : decode cX12_advance 54 = .ok (.iconst 0, 1) := by decide +kernel
theorem dX12_advance_55 : decode cX12_advance 55 = .ok (.iconst 3, 1) := by decide +kernel
theorem dX12_advance_56 : decode cX12_advance 56 = .ok (.invokevirtual 310, 3) := by decide +kernel
theorem dX12_advance_59 : decode cX12_advance 59 = .ok (.ifCond .eq 5, 3) := by decide +kernel
theorem dX12_advance_62 : decode cX12_advance 62 = .ok (.iconst 0, 1) := by decide +kernel
theorem dX12_advance_63 : decode cX12_advance 63 = .ok (.ireturn, 1) := by decide +kernel
theorem dX12_advance_64 : decode cX12_advance 64 = .ok (.aload_n 0, 1) := by decide +kernel
theorem dX12_advance_65 : decode cX12_advance 65 = .ok (.invokevirtual 413, 3) := by decide +kernel
theorem dX12_advance_68 : decode cX12_advance 68 = .ok (.aload_n 0, 1) := by decide +kernel
theorem dX12_advance_69 : decode cX12_advance 69 = .ok (.iload_n 1, 1) := by decide +kernel
theorem dX12_advance_70 : decode cX12_advance 70 = .ok (.iconst 5, 1) := by decide +kernel
theorem dX12_advance_71 : decode cX12_advance 71 = .ok (.iload_n 2, 1) := by decide +kernel
theorem dX12_advance_72 : decode cX12_advance 72 = .ok (.invokevirtual 425, 3) := by decide +kernel
theorem dX12_advance_75 : decode cX12_advance 75 = .ok (.aload_n 0, 1) := by decide +kernel
theorem dX12_advance_76 : decode cX12_advance 76 = .ok (.getfield 7, 3) := by decide +kernel
theorem dX12_advance_79 : decode cX12_advance 79 = .ok (.bipush 21, 2) := by decide +kernel
theorem dX12_advance_81 : decode cX12_advance 81 = .ok (.iload_n 1, 1) := by decide +kernel
theorem dX12_advance_82 : decode cX12_advance 82 = .ok (.iadd, 1) := by decide +kernel
theorem dX12_advance_83 : decode cX12_advance 83 = .ok (.iaload, 1) := by decide +kernel
theorem dX12_advance_84 : decode cX12_advance 84 = .ok (.ireturn, 1) := by decide +kernel
theorem rX12_advance_0 {G : kz_G} {d : Nat} {Qr : Option Value → kz_M → Prop} {Qx : String → kz_M → Prop} {a0 : Nat} {p1 : Int32} {p2 : Int32}  {M : kz_M} (h : ∃ fs1, (M).1 a0 = some (.inl (11, fs1)) ∧ 9 < fs1.length ∧ ((∃ fs89, ((kz_up M a0 (.inl (11, fs1.set 9 (.int 0))))).1 a0 = some (.inl (11, fs89))) ∧ kz_C G (d + 2) 0 0 mX12_noWriter [.ref a0, .int p1] (kz_up M a0 (.inl (11, fs1.set 9 (.int 0)))) (fun v M2 => ∃ r3 : Int32, v = some (.int r3) ∧ ((¬ r3 = 0 → Qr (some (.int 0)) M2) ∧ (r3 = 0 → kz_C G (d + 2) 0 0 mX12_inRange [.int p2, .int 1, .int 999] M2 (fun v M5 => ∃ r6 : Int32, v = some (.int r6) ∧ ((¬ r6 = 0 → (∃ fs47, (M5).1 a0 = some (.inl (11, fs47))) ∧ kz_C G (d + 2) 0 0 mX12_fails [.ref a0, .int 0, .int 2] M5 (fun v M8 => ∃ r9 : Int32, v = some (.int r9) ∧ ((r9 = 0 → ∃ fs11 v12, (M8).1 a0 = some (.inl (11, fs11)) ∧ fs11[0]? = some (.ref v12) ∧ (∃ n13 f14, (M8).1 v12 = some (.inr (.int, n13, .inl f14)) ∧ vp_in (3 : Int32) n13 ∧ ((p2 ≤ (f14 (3 : Int32).toNatClampNeg) → (∃ fs30, (M8).1 a0 = some (.inl (11, fs30))) ∧ kz_C G (d + 2) 0 0 mX12_fails [.ref a0, .int 0, .int 3] M8 (fun v M15 => ∃ r16 : Int32, v = some (.int r16) ∧ ((r16 = 0 → (∃ fs29, (M15).1 a0 = some (.inl (11, fs29))) ∧ kz_C G (d + 2) 0 0 mX12_remembers [.ref a0] M15 (fun v M18 => v = none ∧ ((∃ fs28, (M18).1 a0 = some (.inl (11, fs28))) ∧ kz_C G (d + 2) 0 0 mX12_gives [.ref a0, .int p1, .int 5, .int p2] M18 (fun v M21 => v = none ∧ (∃ fs24 v25, (M21).1 a0 = some (.inl (11, fs24)) ∧ fs24[0]? = some (.ref v25) ∧ (∃ n26 f27, (M21).1 v25 = some (.inr (.int, n26, .inl f27)) ∧ vp_in (21 + p1) n26 ∧ (Qr (some (.int (f27 (21 + p1).toNatClampNeg))) M21)))) Qx)) Qx) ∧ (¬ r16 = 0 → Qr (some (.int 0)) M15))) Qx) ∧ (¬ p2 ≤ (f14 (3 : Int32).toNatClampNeg) → (∃ fs46, (M8).1 a0 = some (.inl (11, fs46))) ∧ kz_C G (d + 2) 0 0 mX12_fails [.ref a0, .int 1, .int 3] M8 (fun v M31 => ∃ r32 : Int32, v = some (.int r32) ∧ ((r32 = 0 → (∃ fs45, (M31).1 a0 = some (.inl (11, fs45))) ∧ kz_C G (d + 2) 0 0 mX12_remembers [.ref a0] M31 (fun v M34 => v = none ∧ ((∃ fs44, (M34).1 a0 = some (.inl (11, fs44))) ∧ kz_C G (d + 2) 0 0 mX12_gives [.ref a0, .int p1, .int 5, .int p2] M34 (fun v M37 => v = none ∧ (∃ fs40 v41, (M37).1 a0 = some (.inl (11, fs40)) ∧ fs40[0]? = some (.ref v41) ∧ (∃ n42 f43, (M37).1 v41 = some (.inr (.int, n42, .inl f43)) ∧ vp_in (21 + p1) n42 ∧ (Qr (some (.int (f43 (21 + p1).toNatClampNeg))) M37)))) Qx)) Qx) ∧ (¬ r32 = 0 → Qr (some (.int 0)) M31))) Qx)))) ∧ (¬ r9 = 0 → Qr (some (.int 0)) M8))) Qx) ∧ (r6 = 0 → (∃ fs87, (M5).1 a0 = some (.inl (11, fs87))) ∧ kz_C G (d + 2) 0 0 mX12_fails [.ref a0, .int 1, .int 2] M5 (fun v M48 => ∃ r49 : Int32, v = some (.int r49) ∧ ((r49 = 0 → ∃ fs51 v52, (M48).1 a0 = some (.inl (11, fs51)) ∧ fs51[0]? = some (.ref v52) ∧ (∃ n53 f54, (M48).1 v52 = some (.inr (.int, n53, .inl f54)) ∧ vp_in (3 : Int32) n53 ∧ ((p2 ≤ (f54 (3 : Int32).toNatClampNeg) → (∃ fs70, (M48).1 a0 = some (.inl (11, fs70))) ∧ kz_C G (d + 2) 0 0 mX12_fails [.ref a0, .int 0, .int 3] M48 (fun v M55 => ∃ r56 : Int32, v = some (.int r56) ∧ ((r56 = 0 → (∃ fs69, (M55).1 a0 = some (.inl (11, fs69))) ∧ kz_C G (d + 2) 0 0 mX12_remembers [.ref a0] M55 (fun v M58 => v = none ∧ ((∃ fs68, (M58).1 a0 = some (.inl (11, fs68))) ∧ kz_C G (d + 2) 0 0 mX12_gives [.ref a0, .int p1, .int 5, .int p2] M58 (fun v M61 => v = none ∧ (∃ fs64 v65, (M61).1 a0 = some (.inl (11, fs64)) ∧ fs64[0]? = some (.ref v65) ∧ (∃ n66 f67, (M61).1 v65 = some (.inr (.int, n66, .inl f67)) ∧ vp_in (21 + p1) n66 ∧ (Qr (some (.int (f67 (21 + p1).toNatClampNeg))) M61)))) Qx)) Qx) ∧ (¬ r56 = 0 → Qr (some (.int 0)) M55))) Qx) ∧ (¬ p2 ≤ (f54 (3 : Int32).toNatClampNeg) → (∃ fs86, (M48).1 a0 = some (.inl (11, fs86))) ∧ kz_C G (d + 2) 0 0 mX12_fails [.ref a0, .int 1, .int 3] M48 (fun v M71 => ∃ r72 : Int32, v = some (.int r72) ∧ ((r72 = 0 → (∃ fs85, (M71).1 a0 = some (.inl (11, fs85))) ∧ kz_C G (d + 2) 0 0 mX12_remembers [.ref a0] M71 (fun v M74 => v = none ∧ ((∃ fs84, (M74).1 a0 = some (.inl (11, fs84))) ∧ kz_C G (d + 2) 0 0 mX12_gives [.ref a0, .int p1, .int 5, .int p2] M74 (fun v M77 => v = none ∧ (∃ fs80 v81, (M77).1 a0 = some (.inl (11, fs80)) ∧ fs80[0]? = some (.ref v81) ∧ (∃ n82 f83, (M77).1 v81 = some (.inr (.int, n82, .inl f83)) ∧ vp_in (21 + p1) n82 ∧ (Qr (some (.int (f83 (21 + p1).toNatClampNeg))) M77)))) Qx)) Qx) ∧ (¬ r72 = 0 → Qr (some (.int 0)) M71))) Qx)))) ∧ (¬ r49 = 0 → Qr (some (.int 0)) M48))) Qx))) Qx))) Qx)) : kz_C G (d + 3) 0 0 mX12_advance [.ref a0, .int p1, .int p2] M Qr Qx := by
  refine kz_enter (n := 2) kmX12_advance.1 (Nat.le_of_ble_eq_true rfl) (ls := [(0, .ref a0), (1, .int p1), (2, .int p2)]) rfl ?_
  refine kz_aload_n (pc := 0) 0 (v := .ref a0) (i := 0) rfl rfl rfl dX12_advance_0 ?_
  refine kz_iconst (pc := 1) (v := 0) (by decide) dX12_advance_1 ?_
  obtain ⟨fs1, hM, hlen, h⟩ := h
  refine kz_putf (pc := 2) (k := 9) kcX12 hM (by decide) hlen kw_1387 rfl rfl rfl dX12_advance_2 ?_
  refine kz_aload_n (pc := 5) 0 (v := .ref a0) (i := 0) rfl rfl rfl dX12_advance_5 ?_
  refine kz_iload_n (pc := 6) 1 (i := 1) rfl rfl dX12_advance_6 ?_
  obtain ⟨⟨fs89, he⟩, h⟩ := h
  refine kz_callV (pc := 7) (μ' := mX12_noWriter) (ci := 11) (q := (RX12, TX12, 32)) (b := a0) (d' := d + 2) (mc' := 0) (ms' := 0) (As := [.int p1]) (st := []) (c := 0) (sl := 0) kmX12_noWriter kw_1665 (by omega) rfl (Nat.le_of_ble_eq_true rfl) he rfl rfl (Nat.le_refl _) (Nat.le_refl _) dX12_advance_7 (fun E M9 hx => kz_Tout rfl (Nat.le_refl _) (Nat.le_refl _) hx) (kz_Cmono (fun v M2 h => ?_) (fun _ _ h => h) h)
  obtain ⟨r3, rfl, h⟩ := h
  show kz_Z G (d + 3) 0 0 mX12_advance Qr Qx 10 [(0, .ref a0), (1, .int p1), (2, .int p2)] [.int r3] M2 0 0
  refine kz_if_ne (pc := 10) (tgt := 37) (by decide) dX12_advance_10 (fun hb => ?_) (fun hb => ?_)
  · replace h := h.1 hb
    refine kz_iconst (pc := 37) (v := 0) (by decide) dX12_advance_37 ?_
    exact kz_iret (pc := 38) rfl (Nat.le_refl _) (Nat.le_refl _) dX12_advance_38 h
  · replace h := h.2 hb
    refine kz_aload_n (pc := 13) 0 (v := .ref a0) (i := 0) rfl rfl rfl dX12_advance_13 ?_
    refine kz_iload_n (pc := 14) 2 (i := 2) rfl rfl dX12_advance_14 ?_
    refine kz_iconst (pc := 15) (v := 1) (by decide) dX12_advance_15 ?_
    refine kz_sipush (pc := 16) (v := 999) (by decide) dX12_advance_16 ?_
    refine kz_callS (pc := 19) (μ' := mX12_inRange) (d' := d + 2) (mc' := 0) (ms' := 0) (As := [.int p2, .int 1, .int 999]) (st := [.ref a0]) (c := 0) (sl := 0) kmX12_inRange kw_1491 (by omega) rfl (Nat.le_of_ble_eq_true rfl) (Nat.le_refl _) (Nat.le_refl _) dX12_advance_19 (fun E M9 hx => kz_Tout rfl (Nat.le_refl _) (Nat.le_refl _) hx) (kz_Cmono (fun v M5 h => ?_) (fun _ _ h => h) h)
    obtain ⟨r6, rfl, h⟩ := h
    show kz_Z G (d + 3) 0 0 mX12_advance Qr Qx 22 [(0, .ref a0), (1, .int p1), (2, .int p2)] [.int r6, .ref a0] M5 0 0
    refine kz_if_ne (pc := 22) (tgt := 29) (by decide) dX12_advance_22 (fun hb => ?_) (fun hb => ?_)
    · replace h := h.1 hb
      refine kz_iconst (pc := 29) (v := 0) (by decide) dX12_advance_29 ?_
      refine kz_iconst (pc := 30) (v := 2) (by decide) dX12_advance_30 ?_
      obtain ⟨⟨fs47, he⟩, h⟩ := h
      refine kz_callV (pc := 31) (μ' := mX12_fails) (ci := 11) (q := (RX12, TX12, 32)) (b := a0) (d' := d + 2) (mc' := 0) (ms' := 0) (As := [.int 0, .int 2]) (st := []) (c := 0) (sl := 0) kmX12_fails kw_1653 (by omega) rfl (Nat.le_of_ble_eq_true rfl) he rfl rfl (Nat.le_refl _) (Nat.le_refl _) dX12_advance_31 (fun E M9 hx => kz_Tout rfl (Nat.le_refl _) (Nat.le_refl _) hx) (kz_Cmono (fun v M8 h => ?_) (fun _ _ h => h) h)
      obtain ⟨r9, rfl, h⟩ := h
      show kz_Z G (d + 3) 0 0 mX12_advance Qr Qx 34 [(0, .ref a0), (1, .int p1), (2, .int p2)] [.int r9] M8 0 0
      refine kz_if_eq (pc := 34) (tgt := 39) (by decide) dX12_advance_34 (fun hb => ?_) (fun hb => ?_)
      · replace h := h.1 hb
        refine kz_aload_n (pc := 39) 0 (v := .ref a0) (i := 0) rfl rfl rfl dX12_advance_39 ?_
        refine kz_aload_n (pc := 40) 0 (v := .ref a0) (i := 0) rfl rfl rfl dX12_advance_40 ?_
        obtain ⟨fs11, v12, hM, hv, h⟩ := h
        refine kz_getf (pc := 41) (k := 0) kcX12 hM hv (by decide) kw_1378 dX12_advance_41 ?_
        refine kz_iconst (pc := 44) (v := 3) (by decide) dX12_advance_44 ?_
        obtain ⟨n13, f14, hM, hi, h⟩ := h
        refine kz_iald (pc := 45) hM hi dX12_advance_45 ?_
        refine kz_iload_n (pc := 46) 2 (i := 2) rfl rfl dX12_advance_46 ?_
        refine kz_icmp_ge (pc := 47) (tgt := 54) (by decide) dX12_advance_47 (fun hb => ?_) (fun hb => ?_)
        · replace h := h.1 hb
          refine kz_iconst (pc := 54) (v := 0) (by decide) dX12_advance_54 ?_
          refine kz_iconst (pc := 55) (v := 3) (by decide) dX12_advance_55 ?_
          obtain ⟨⟨fs30, he⟩, h⟩ := h
          refine kz_callV (pc := 56) (μ' := mX12_fails) (ci := 11) (q := (RX12, TX12, 32)) (b := a0) (d' := d + 2) (mc' := 0) (ms' := 0) (As := [.int 0, .int 3]) (st := []) (c := 0) (sl := 0) kmX12_fails kw_1653 (by omega) rfl (Nat.le_of_ble_eq_true rfl) he rfl rfl (Nat.le_refl _) (Nat.le_refl _) dX12_advance_56 (fun E M9 hx => kz_Tout rfl (Nat.le_refl _) (Nat.le_refl _) hx) (kz_Cmono (fun v M15 h => ?_) (fun _ _ h => h) h)
          obtain ⟨r16, rfl, h⟩ := h
          show kz_Z G (d + 3) 0 0 mX12_advance Qr Qx 59 [(0, .ref a0), (1, .int p1), (2, .int p2)] [.int r16] M15 0 0
          refine kz_if_eq (pc := 59) (tgt := 64) (by decide) dX12_advance_59 (fun hb => ?_) (fun hb => ?_)
          · replace h := h.1 hb
            refine kz_aload_n (pc := 64) 0 (v := .ref a0) (i := 0) rfl rfl rfl dX12_advance_64 ?_
            obtain ⟨⟨fs29, he⟩, h⟩ := h
            refine kz_callV (pc := 65) (μ' := mX12_remembers) (ci := 11) (q := (RX12, TX12, 32)) (b := a0) (d' := d + 2) (mc' := 0) (ms' := 0) (As := []) (st := []) (c := 0) (sl := 0) kmX12_remembers kw_1935 (by omega) rfl (Nat.le_of_ble_eq_true rfl) he rfl rfl (Nat.le_refl _) (Nat.le_refl _) dX12_advance_65 (fun E M9 hx => kz_Tout rfl (Nat.le_refl _) (Nat.le_refl _) hx) (kz_Cmono (fun v M18 h => ?_) (fun _ _ h => h) h)
            obtain ⟨rfl, h⟩ := h
            show kz_Z G (d + 3) 0 0 mX12_advance Qr Qx 68 [(0, .ref a0), (1, .int p1), (2, .int p2)] [] M18 0 0
            refine kz_aload_n (pc := 68) 0 (v := .ref a0) (i := 0) rfl rfl rfl dX12_advance_68 ?_
            refine kz_iload_n (pc := 69) 1 (i := 1) rfl rfl dX12_advance_69 ?_
            refine kz_iconst (pc := 70) (v := 5) (by decide) dX12_advance_70 ?_
            refine kz_iload_n (pc := 71) 2 (i := 2) rfl rfl dX12_advance_71 ?_
            obtain ⟨⟨fs28, he⟩, h⟩ := h
            refine kz_callV (pc := 72) (μ' := mX12_gives) (ci := 11) (q := (RX12, TX12, 32)) (b := a0) (d' := d + 2) (mc' := 0) (ms' := 0) (As := [.int p1, .int 5, .int p2]) (st := []) (c := 0) (sl := 0) kmX12_gives kw_1959 (by omega) rfl (Nat.le_of_ble_eq_true rfl) he rfl rfl (Nat.le_refl _) (Nat.le_refl _) dX12_advance_72 (fun E M9 hx => kz_Tout rfl (Nat.le_refl _) (Nat.le_refl _) hx) (kz_Cmono (fun v M21 h => ?_) (fun _ _ h => h) h)
            obtain ⟨rfl, h⟩ := h
            show kz_Z G (d + 3) 0 0 mX12_advance Qr Qx 75 [(0, .ref a0), (1, .int p1), (2, .int p2)] [] M21 0 0
            refine kz_aload_n (pc := 75) 0 (v := .ref a0) (i := 0) rfl rfl rfl dX12_advance_75 ?_
            obtain ⟨fs24, v25, hM, hv, h⟩ := h
            refine kz_getf (pc := 76) (k := 0) kcX12 hM hv (by decide) kw_1378 dX12_advance_76 ?_
            refine kz_bipush (pc := 79) (v := 21) (by decide) dX12_advance_79 ?_
            refine kz_iload_n (pc := 81) 1 (i := 1) rfl rfl dX12_advance_81 ?_
            refine kz_iadd (pc := 82) dX12_advance_82 ?_
            obtain ⟨n26, f27, hM, hi, h⟩ := h
            refine kz_iald (pc := 83) hM hi dX12_advance_83 ?_
            exact kz_iret (pc := 84) rfl (Nat.le_refl _) (Nat.le_refl _) dX12_advance_84 h
          · replace h := h.2 hb
            refine kz_iconst (pc := 62) (v := 0) (by decide) dX12_advance_62 ?_
            exact kz_iret (pc := 63) rfl (Nat.le_refl _) (Nat.le_refl _) dX12_advance_63 h
        · replace h := h.2 hb
          refine kz_iconst (pc := 50) (v := 1) (by decide) dX12_advance_50 ?_
          refine kz_goto (pc := 51) (tgt := 55) (by decide) dX12_advance_51 ?_
          refine kz_iconst (pc := 55) (v := 3) (by decide) dX12_advance_55 ?_
          obtain ⟨⟨fs46, he⟩, h⟩ := h
          refine kz_callV (pc := 56) (μ' := mX12_fails) (ci := 11) (q := (RX12, TX12, 32)) (b := a0) (d' := d + 2) (mc' := 0) (ms' := 0) (As := [.int 1, .int 3]) (st := []) (c := 0) (sl := 0) kmX12_fails kw_1653 (by omega) rfl (Nat.le_of_ble_eq_true rfl) he rfl rfl (Nat.le_refl _) (Nat.le_refl _) dX12_advance_56 (fun E M9 hx => kz_Tout rfl (Nat.le_refl _) (Nat.le_refl _) hx) (kz_Cmono (fun v M31 h => ?_) (fun _ _ h => h) h)
          obtain ⟨r32, rfl, h⟩ := h
          show kz_Z G (d + 3) 0 0 mX12_advance Qr Qx 59 [(0, .ref a0), (1, .int p1), (2, .int p2)] [.int r32] M31 0 0
          refine kz_if_eq (pc := 59) (tgt := 64) (by decide) dX12_advance_59 (fun hb => ?_) (fun hb => ?_)
          · replace h := h.1 hb
            refine kz_aload_n (pc := 64) 0 (v := .ref a0) (i := 0) rfl rfl rfl dX12_advance_64 ?_
            obtain ⟨⟨fs45, he⟩, h⟩ := h
            refine kz_callV (pc := 65) (μ' := mX12_remembers) (ci := 11) (q := (RX12, TX12, 32)) (b := a0) (d' := d + 2) (mc' := 0) (ms' := 0) (As := []) (st := []) (c := 0) (sl := 0) kmX12_remembers kw_1935 (by omega) rfl (Nat.le_of_ble_eq_true rfl) he rfl rfl (Nat.le_refl _) (Nat.le_refl _) dX12_advance_65 (fun E M9 hx => kz_Tout rfl (Nat.le_refl _) (Nat.le_refl _) hx) (kz_Cmono (fun v M34 h => ?_) (fun _ _ h => h) h)
            obtain ⟨rfl, h⟩ := h
            show kz_Z G (d + 3) 0 0 mX12_advance Qr Qx 68 [(0, .ref a0), (1, .int p1), (2, .int p2)] [] M34 0 0
            refine kz_aload_n (pc := 68) 0 (v := .ref a0) (i := 0) rfl rfl rfl dX12_advance_68 ?_
            refine kz_iload_n (pc := 69) 1 (i := 1) rfl rfl dX12_advance_69 ?_
            refine kz_iconst (pc := 70) (v := 5) (by decide) dX12_advance_70 ?_
            refine kz_iload_n (pc := 71) 2 (i := 2) rfl rfl dX12_advance_71 ?_
            obtain ⟨⟨fs44, he⟩, h⟩ := h
            refine kz_callV (pc := 72) (μ' := mX12_gives) (ci := 11) (q := (RX12, TX12, 32)) (b := a0) (d' := d + 2) (mc' := 0) (ms' := 0) (As := [.int p1, .int 5, .int p2]) (st := []) (c := 0) (sl := 0) kmX12_gives kw_1959 (by omega) rfl (Nat.le_of_ble_eq_true rfl) he rfl rfl (Nat.le_refl _) (Nat.le_refl _) dX12_advance_72 (fun E M9 hx => kz_Tout rfl (Nat.le_refl _) (Nat.le_refl _) hx) (kz_Cmono (fun v M37 h => ?_) (fun _ _ h => h) h)
            obtain ⟨rfl, h⟩ := h
            show kz_Z G (d + 3) 0 0 mX12_advance Qr Qx 75 [(0, .ref a0), (1, .int p1), (2, .int p2)] [] M37 0 0
            refine kz_aload_n (pc := 75) 0 (v := .ref a0) (i := 0) rfl rfl rfl dX12_advance_75 ?_
            obtain ⟨fs40, v41, hM, hv, h⟩ := h
            refine kz_getf (pc := 76) (k := 0) kcX12 hM hv (by decide) kw_1378 dX12_advance_76 ?_
            refine kz_bipush (pc := 79) (v := 21) (by decide) dX12_advance_79 ?_
            refine kz_iload_n (pc := 81) 1 (i := 1) rfl rfl dX12_advance_81 ?_
            refine kz_iadd (pc := 82) dX12_advance_82 ?_
            obtain ⟨n42, f43, hM, hi, h⟩ := h
            refine kz_iald (pc := 83) hM hi dX12_advance_83 ?_
            exact kz_iret (pc := 84) rfl (Nat.le_refl _) (Nat.le_refl _) dX12_advance_84 h
          · replace h := h.2 hb
            refine kz_iconst (pc := 62) (v := 0) (by decide) dX12_advance_62 ?_
            exact kz_iret (pc := 63) rfl (Nat.le_refl _) (Nat.le_refl _) dX12_advance_63 h
      · replace h := h.2 hb
        refine kz_iconst (pc := 37) (v := 0) (by decide) dX12_advance_37 ?_
        exact kz_iret (pc := 38) rfl (Nat.le_refl _) (Nat.le_refl _) dX12_advance_38 h
    · replace h := h.2 hb
      refine kz_iconst (pc := 25) (v := 1) (by decide) dX12_advance_25 ?_
      refine kz_goto (pc := 26) (tgt := 30) (by decide) dX12_advance_26 ?_
      refine kz_iconst (pc := 30) (v := 2) (by decide) dX12_advance_30 ?_
      obtain ⟨⟨fs87, he⟩, h⟩ := h
      refine kz_callV (pc := 31) (μ' := mX12_fails) (ci := 11) (q := (RX12, TX12, 32)) (b := a0) (d' := d + 2) (mc' := 0) (ms' := 0) (As := [.int 1, .int 2]) (st := []) (c := 0) (sl := 0) kmX12_fails kw_1653 (by omega) rfl (Nat.le_of_ble_eq_true rfl) he rfl rfl (Nat.le_refl _) (Nat.le_refl _) dX12_advance_31 (fun E M9 hx => kz_Tout rfl (Nat.le_refl _) (Nat.le_refl _) hx) (kz_Cmono (fun v M48 h => ?_) (fun _ _ h => h) h)
      obtain ⟨r49, rfl, h⟩ := h
      show kz_Z G (d + 3) 0 0 mX12_advance Qr Qx 34 [(0, .ref a0), (1, .int p1), (2, .int p2)] [.int r49] M48 0 0
      refine kz_if_eq (pc := 34) (tgt := 39) (by decide) dX12_advance_34 (fun hb => ?_) (fun hb => ?_)
      · replace h := h.1 hb
        refine kz_aload_n (pc := 39) 0 (v := .ref a0) (i := 0) rfl rfl rfl dX12_advance_39 ?_
        refine kz_aload_n (pc := 40) 0 (v := .ref a0) (i := 0) rfl rfl rfl dX12_advance_40 ?_
        obtain ⟨fs51, v52, hM, hv, h⟩ := h
        refine kz_getf (pc := 41) (k := 0) kcX12 hM hv (by decide) kw_1378 dX12_advance_41 ?_
        refine kz_iconst (pc := 44) (v := 3) (by decide) dX12_advance_44 ?_
        obtain ⟨n53, f54, hM, hi, h⟩ := h
        refine kz_iald (pc := 45) hM hi dX12_advance_45 ?_
        refine kz_iload_n (pc := 46) 2 (i := 2) rfl rfl dX12_advance_46 ?_
        refine kz_icmp_ge (pc := 47) (tgt := 54) (by decide) dX12_advance_47 (fun hb => ?_) (fun hb => ?_)
        · replace h := h.1 hb
          refine kz_iconst (pc := 54) (v := 0) (by decide) dX12_advance_54 ?_
          refine kz_iconst (pc := 55) (v := 3) (by decide) dX12_advance_55 ?_
          obtain ⟨⟨fs70, he⟩, h⟩ := h
          refine kz_callV (pc := 56) (μ' := mX12_fails) (ci := 11) (q := (RX12, TX12, 32)) (b := a0) (d' := d + 2) (mc' := 0) (ms' := 0) (As := [.int 0, .int 3]) (st := []) (c := 0) (sl := 0) kmX12_fails kw_1653 (by omega) rfl (Nat.le_of_ble_eq_true rfl) he rfl rfl (Nat.le_refl _) (Nat.le_refl _) dX12_advance_56 (fun E M9 hx => kz_Tout rfl (Nat.le_refl _) (Nat.le_refl _) hx) (kz_Cmono (fun v M55 h => ?_) (fun _ _ h => h) h)
          obtain ⟨r56, rfl, h⟩ := h
          show kz_Z G (d + 3) 0 0 mX12_advance Qr Qx 59 [(0, .ref a0), (1, .int p1), (2, .int p2)] [.int r56] M55 0 0
          refine kz_if_eq (pc := 59) (tgt := 64) (by decide) dX12_advance_59 (fun hb => ?_) (fun hb => ?_)
          · replace h := h.1 hb
            refine kz_aload_n (pc := 64) 0 (v := .ref a0) (i := 0) rfl rfl rfl dX12_advance_64 ?_
            obtain ⟨⟨fs69, he⟩, h⟩ := h
            refine kz_callV (pc := 65) (μ' := mX12_remembers) (ci := 11) (q := (RX12, TX12, 32)) (b := a0) (d' := d + 2) (mc' := 0) (ms' := 0) (As := []) (st := []) (c := 0) (sl := 0) kmX12_remembers kw_1935 (by omega) rfl (Nat.le_of_ble_eq_true rfl) he rfl rfl (Nat.le_refl _) (Nat.le_refl _) dX12_advance_65 (fun E M9 hx => kz_Tout rfl (Nat.le_refl _) (Nat.le_refl _) hx) (kz_Cmono (fun v M58 h => ?_) (fun _ _ h => h) h)
            obtain ⟨rfl, h⟩ := h
            show kz_Z G (d + 3) 0 0 mX12_advance Qr Qx 68 [(0, .ref a0), (1, .int p1), (2, .int p2)] [] M58 0 0
            refine kz_aload_n (pc := 68) 0 (v := .ref a0) (i := 0) rfl rfl rfl dX12_advance_68 ?_
            refine kz_iload_n (pc := 69) 1 (i := 1) rfl rfl dX12_advance_69 ?_
            refine kz_iconst (pc := 70) (v := 5) (by decide) dX12_advance_70 ?_
            refine kz_iload_n (pc := 71) 2 (i := 2) rfl rfl dX12_advance_71 ?_
            obtain ⟨⟨fs68, he⟩, h⟩ := h
            refine kz_callV (pc := 72) (μ' := mX12_gives) (ci := 11) (q := (RX12, TX12, 32)) (b := a0) (d' := d + 2) (mc' := 0) (ms' := 0) (As := [.int p1, .int 5, .int p2]) (st := []) (c := 0) (sl := 0) kmX12_gives kw_1959 (by omega) rfl (Nat.le_of_ble_eq_true rfl) he rfl rfl (Nat.le_refl _) (Nat.le_refl _) dX12_advance_72 (fun E M9 hx => kz_Tout rfl (Nat.le_refl _) (Nat.le_refl _) hx) (kz_Cmono (fun v M61 h => ?_) (fun _ _ h => h) h)
            obtain ⟨rfl, h⟩ := h
            show kz_Z G (d + 3) 0 0 mX12_advance Qr Qx 75 [(0, .ref a0), (1, .int p1), (2, .int p2)] [] M61 0 0
            refine kz_aload_n (pc := 75) 0 (v := .ref a0) (i := 0) rfl rfl rfl dX12_advance_75 ?_
            obtain ⟨fs64, v65, hM, hv, h⟩ := h
            refine kz_getf (pc := 76) (k := 0) kcX12 hM hv (by decide) kw_1378 dX12_advance_76 ?_
            refine kz_bipush (pc := 79) (v := 21) (by decide) dX12_advance_79 ?_
            refine kz_iload_n (pc := 81) 1 (i := 1) rfl rfl dX12_advance_81 ?_
            refine kz_iadd (pc := 82) dX12_advance_82 ?_
            obtain ⟨n66, f67, hM, hi, h⟩ := h
            refine kz_iald (pc := 83) hM hi dX12_advance_83 ?_
            exact kz_iret (pc := 84) rfl (Nat.le_refl _) (Nat.le_refl _) dX12_advance_84 h
          · replace h := h.2 hb
            refine kz_iconst (pc := 62) (v := 0) (by decide) dX12_advance_62 ?_
            exact kz_iret (pc := 63) rfl (Nat.le_refl _) (Nat.le_refl _) dX12_advance_63 h
        · replace h := h.2 hb
          refine kz_iconst (pc := 50) (v := 1) (by decide) dX12_advance_50 ?_
          refine kz_goto (pc := 51) (tgt := 55) (by decide) dX12_advance_51 ?_
          refine kz_iconst (pc := 55) (v := 3) (by decide) dX12_advance_55 ?_
          obtain ⟨⟨fs86, he⟩, h⟩ := h
          refine kz_callV (pc := 56) (μ' := mX12_fails) (ci := 11) (q := (RX12, TX12, 32)) (b := a0) (d' := d + 2) (mc' := 0) (ms' := 0) (As := [.int 1, .int 3]) (st := []) (c := 0) (sl := 0) kmX12_fails kw_1653 (by omega) rfl (Nat.le_of_ble_eq_true rfl) he rfl rfl (Nat.le_refl _) (Nat.le_refl _) dX12_advance_56 (fun E M9 hx => kz_Tout rfl (Nat.le_refl _) (Nat.le_refl _) hx) (kz_Cmono (fun v M71 h => ?_) (fun _ _ h => h) h)
          obtain ⟨r72, rfl, h⟩ := h
          show kz_Z G (d + 3) 0 0 mX12_advance Qr Qx 59 [(0, .ref a0), (1, .int p1), (2, .int p2)] [.int r72] M71 0 0
          refine kz_if_eq (pc := 59) (tgt := 64) (by decide) dX12_advance_59 (fun hb => ?_) (fun hb => ?_)
          · replace h := h.1 hb
            refine kz_aload_n (pc := 64) 0 (v := .ref a0) (i := 0) rfl rfl rfl dX12_advance_64 ?_
            obtain ⟨⟨fs85, he⟩, h⟩ := h
            refine kz_callV (pc := 65) (μ' := mX12_remembers) (ci := 11) (q := (RX12, TX12, 32)) (b := a0) (d' := d + 2) (mc' := 0) (ms' := 0) (As := []) (st := []) (c := 0) (sl := 0) kmX12_remembers kw_1935 (by omega) rfl (Nat.le_of_ble_eq_true rfl) he rfl rfl (Nat.le_refl _) (Nat.le_refl _) dX12_advance_65 (fun E M9 hx => kz_Tout rfl (Nat.le_refl _) (Nat.le_refl _) hx) (kz_Cmono (fun v M74 h => ?_) (fun _ _ h => h) h)
            obtain ⟨rfl, h⟩ := h
            show kz_Z G (d + 3) 0 0 mX12_advance Qr Qx 68 [(0, .ref a0), (1, .int p1), (2, .int p2)] [] M74 0 0
            refine kz_aload_n (pc := 68) 0 (v := .ref a0) (i := 0) rfl rfl rfl dX12_advance_68 ?_
            refine kz_iload_n (pc := 69) 1 (i := 1) rfl rfl dX12_advance_69 ?_
            refine kz_iconst (pc := 70) (v := 5) (by decide) dX12_advance_70 ?_
            refine kz_iload_n (pc := 71) 2 (i := 2) rfl rfl dX12_advance_71 ?_
            obtain ⟨⟨fs84, he⟩, h⟩ := h
            refine kz_callV (pc := 72) (μ' := mX12_gives) (ci := 11) (q := (RX12, TX12, 32)) (b := a0) (d' := d + 2) (mc' := 0) (ms' := 0) (As := [.int p1, .int 5, .int p2]) (st := []) (c := 0) (sl := 0) kmX12_gives kw_1959 (by omega) rfl (Nat.le_of_ble_eq_true rfl) he rfl rfl (Nat.le_refl _) (Nat.le_refl _) dX12_advance_72 (fun E M9 hx => kz_Tout rfl (Nat.le_refl _) (Nat.le_refl _) hx) (kz_Cmono (fun v M77 h => ?_) (fun _ _ h => h) h)
            obtain ⟨rfl, h⟩ := h
            show kz_Z G (d + 3) 0 0 mX12_advance Qr Qx 75 [(0, .ref a0), (1, .int p1), (2, .int p2)] [] M77 0 0
            refine kz_aload_n (pc := 75) 0 (v := .ref a0) (i := 0) rfl rfl rfl dX12_advance_75 ?_
            obtain ⟨fs80, v81, hM, hv, h⟩ := h
            refine kz_getf (pc := 76) (k := 0) kcX12 hM hv (by decide) kw_1378 dX12_advance_76 ?_
            refine kz_bipush (pc := 79) (v := 21) (by decide) dX12_advance_79 ?_
            refine kz_iload_n (pc := 81) 1 (i := 1) rfl rfl dX12_advance_81 ?_
            refine kz_iadd (pc := 82) dX12_advance_82 ?_
            obtain ⟨n82, f83, hM, hi, h⟩ := h
            refine kz_iald (pc := 83) hM hi dX12_advance_83 ?_
            exact kz_iret (pc := 84) rfl (Nat.le_refl _) (Nat.le_refl _) dX12_advance_84 h
          · replace h := h.2 hb
            refine kz_iconst (pc := 62) (v := 0) (by decide) dX12_advance_62 ?_
            exact kz_iret (pc := 63) rfl (Nat.le_refl _) (Nat.le_refl _) dX12_advance_63 h
      · replace h := h.2 hb
        refine kz_iconst (pc := 37) (v := 0) (by decide) dX12_advance_37 ?_
        exact kz_iret (pc := 38) rfl (Nat.le_refl _) (Nat.le_refl _) dX12_advance_38 h
theorem dX12_addWriter_0 : decode cX12_addWriter 0 = .ok (.aload_n 0, 1) := by decide +kernel
theorem dX12_addWriter_1 : decode cX12_addWriter 1 = .ok (.iconst 0, 1) := by decide +kernel
theorem dX12_addWriter_2 : decode cX12_addWriter 2 = .ok (.putfield 60, 3) := by decide +kernel
theorem dX12_addWriter_5 : decode cX12_addWriter 5 = .ok (.aload_n 0, 1) := by decide +kernel
theorem dX12_addWriter_6 : decode cX12_addWriter 6 = .ok (.getfield 177, 3) := by decide +kernel
theorem dX12_addWriter_9 : decode cX12_addWriter 9 = .ok (.istore_n 1, 1) := by decide +kernel
theorem dX12_addWriter_10 : decode cX12_addWriter 10 = .ok (.aload_n 0, 1) := by decide +kernel
theorem dX12_addWriter_11 : decode cX12_addWriter 11 = .ok (.iconst 0, 1) := by decide +kernel
theorem dX12_addWriter_12 : decode cX12_addWriter 12 = .ok (.putfield 177, 3) := by decide +kernel
theorem dX12_addWriter_15 : decode cX12_addWriter 15 = .ok (.aload_n 0, 1) := by decide +kernel
theorem dX12_addWriter_16 : decode cX12_addWriter 16 = .ok (.iconst 0, 1) := by decide +kernel
theorem dX12_addWriter_17 : decode cX12_addWriter 17 = .ok (.iload_n 1, 1) := by decide +kernel
theorem dX12_addWriter_18 : decode cX12_addWriter 18 = .ok (.invokevirtual 261, 3) := by decide +kernel
theorem dX12_addWriter_21 : decode cX12_addWriter 21 = .ok (.ifCond .eq 16, 3) := by decide +kernel
theorem dX12_addWriter_24 : decode cX12_addWriter 24 = .ok (.aload_n 0, 1) := by decide +kernel
theorem dX12_addWriter_25 : decode cX12_addWriter 25 = .ok (.aload_n 0, 1) := by decide +kernel
theorem dX12_addWriter_26 : decode cX12_addWriter 26 = .ok (.iconst 0, 1) := by decide +kernel
theorem dX12_addWriter_27 : decode cX12_addWriter 27 = .ok (.iload_n 1, 1) := by decide +kernel
theorem dX12_addWriter_28 : decode cX12_addWriter 28 = .ok (.invokevirtual 264, 3) := by decide +kernel
theorem dX12_addWriter_31 : decode cX12_addWriter 31 = .ok (.invokevirtual 267, 3) := by decide +kernel
theorem dX12_addWriter_34 : decode cX12_addWriter 34 = .ok (.ifCond .eq 6, 3) := by decide +kernel
theorem dX12_addWriter_37 : decode cX12_addWriter 37 = .ok (.bipush (-2), 2) := by decide +kernel
theorem dX12_addWriter_39 : decode cX12_addWriter 39 = .ok (.ireturn, 1) := by decide +kernel
theorem dX12_addWriter_40 : decode cX12_addWriter 40 = .ok (.aload_n 0, 1) := by decide +kernel
theorem dX12_addWriter_41 : decode cX12_addWriter 41 = .ok (.getfield 7, 3) := by decide +kernel
theorem dX12_addWriter_44 : decode cX12_addWriter 44 = .ok (.iconst 0, 1) := by decide +kernel
theorem dX12_addWriter_45 : decode cX12_addWriter 45 = .ok (.iaload, 1) := by decide +kernel
theorem dX12_addWriter_46 : decode cX12_addWriter 46 = .ok (.bipush 6, 2) := by decide +kernel
theorem dX12_addWriter_48 : decode cX12_addWriter 48 = .ok (.if_icmp .ne 6, 3) := by decide +kernel
theorem dX12_addWriter_51 : decode cX12_addWriter 51 = .ok (.bipush (-3), 2) := by decide +kernel
theorem dX12_addWriter_53 : decode cX12_addWriter 53 = .ok (.ireturn, 1) := by decide +kernel
theorem dX12_addWriter_54 : decode cX12_addWriter 54 = .ok (.aload_n 0, 1) := by decide +kernel
theorem dX12_addWriter_55 : decode cX12_addWriter 55 = .ok (.invokevirtual 413, 3) := by decide +kernel
theorem dX12_addWriter_58 : decode cX12_addWriter 58 = .ok (.aload_n 0, 1) := by decide +kernel
theorem dX12_addWriter_59 : decode cX12_addWriter 59 = .ok (.aload_n 0, 1) := by decide +kernel
theorem dX12_addWriter_60 : decode cX12_addWriter 60 = .ok (.iconst 0, 1) := by decide +kernel
theorem dX12_addWriter_61 : decode cX12_addWriter 61 = .ok (.iload_n 1, 1) := by decide +kernel
theorem dX12_addWriter_62 : decode cX12_addWriter 62 = .ok (.invokevirtual 264, 3) := by decide +kernel
theorem dX12_addWriter_65 : decode cX12_addWriter 65 = .ok (.invokevirtual 270, 3) := by decide +kernel
theorem dX12_addWriter_68 : decode cX12_addWriter 68 = .ok (.ireturn, 1) := by decide +kernel
theorem rX12_addWriter_0 {G : kz_G} {d : Nat} {Qr : Option Value → kz_M → Prop} {Qx : String → kz_M → Prop} {a0 : Nat}  {M : kz_M} (h : ∃ fs1, (M).1 a0 = some (.inl (11, fs1)) ∧ 9 < fs1.length ∧ (∃ fs2 v3, ((kz_up M a0 (.inl (11, fs1.set 9 (.int 0))))).1 a0 = some (.inl (11, fs2)) ∧ fs2[19]? = some (.int v3) ∧ (∃ fs4, ((kz_up M a0 (.inl (11, fs1.set 9 (.int 0))))).1 a0 = some (.inl (11, fs4)) ∧ 19 < fs4.length ∧ ((∃ fs32, ((kz_up (kz_up M a0 (.inl (11, fs1.set 9 (.int 0)))) a0 (.inl (11, fs4.set 19 (.int 0))))).1 a0 = some (.inl (11, fs32))) ∧ kz_C G (d + 6) 0 0 mX12_isName [.ref a0, .int 0, .int v3] (kz_up (kz_up M a0 (.inl (11, fs1.set 9 (.int 0)))) a0 (.inl (11, fs4.set 19 (.int 0)))) (fun v M5 => ∃ r6 : Int32, v = some (.int r6) ∧ ((r6 = 0 → Qr (some (.int ((-2)))) M5) ∧ (¬ r6 = 0 → (∃ fs31, (M5).1 a0 = some (.inl (11, fs31))) ∧ kz_C G (d + 6) 0 0 mX12_packed [.ref a0, .int 0, .int v3] M5 (fun v M8 => ∃ r9 : Int32, v = some (.int r9) ∧ ((∃ fs30, (M8).1 a0 = some (.inl (11, fs30))) ∧ kz_C G (d + 6) 0 0 mX12_isTaken [.ref a0, .int r9] M8 (fun v M11 => ∃ r12 : Int32, v = some (.int r12) ∧ ((r12 = 0 → ∃ fs14 v15, (M11).1 a0 = some (.inl (11, fs14)) ∧ fs14[0]? = some (.ref v15) ∧ (∃ n16 f17, (M11).1 v15 = some (.inr (.int, n16, .inl f17)) ∧ vp_in (0 : Int32) n16 ∧ ((¬ (f17 (0 : Int32).toNatClampNeg) = (6 : Int32) → (∃ fs29, (M11).1 a0 = some (.inl (11, fs29))) ∧ kz_C G (d + 6) 0 0 mX12_remembers [.ref a0] M11 (fun v M18 => v = none ∧ ((∃ fs28, (M18).1 a0 = some (.inl (11, fs28))) ∧ kz_C G (d + 6) 0 0 mX12_packed [.ref a0, .int 0, .int v3] M18 (fun v M21 => ∃ r22 : Int32, v = some (.int r22) ∧ ((∃ fs27, (M21).1 a0 = some (.inl (11, fs27))) ∧ kz_C G (d + 6) 0 0 mX12_joins [.ref a0, .int r22] M21 (fun v M24 => ∃ r25 : Int32, v = some (.int r25) ∧ (Qr (some (.int r25)) M24)) Qx)) Qx)) Qx) ∧ ((f17 (0 : Int32).toNatClampNeg) = (6 : Int32) → Qr (some (.int ((-3)))) M11)))) ∧ (¬ r12 = 0 → Qr (some (.int ((-2)))) M11))) Qx)) Qx))) Qx)))) : kz_C G (d + 7) 0 0 mX12_addWriter [.ref a0] M Qr Qx := by
  refine kz_enter (n := 0) kmX12_addWriter.1 (Nat.le_of_ble_eq_true rfl) (ls := [(0, .ref a0)]) rfl ?_
  refine kz_aload_n (pc := 0) 0 (v := .ref a0) (i := 0) rfl rfl rfl dX12_addWriter_0 ?_
  refine kz_iconst (pc := 1) (v := 0) (by decide) dX12_addWriter_1 ?_
  obtain ⟨fs1, hM, hlen, h⟩ := h
  refine kz_putf (pc := 2) (k := 9) kcX12 hM (by decide) hlen kw_1387 rfl rfl rfl dX12_addWriter_2 ?_
  refine kz_aload_n (pc := 5) 0 (v := .ref a0) (i := 0) rfl rfl rfl dX12_addWriter_5 ?_
  obtain ⟨fs2, v3, hM, hv, h⟩ := h
  refine kz_getf (pc := 6) (k := 19) kcX12 hM hv (by decide) kw_1397 dX12_addWriter_6 ?_
  refine kz_istore_n (pc := 9) (i := 1) (ls' := [(0, .ref a0)]) rfl (by decide) rfl dX12_addWriter_9 ?_
  refine kz_aload_n (pc := 10) 1 (v := .ref a0) (i := 0) rfl rfl rfl dX12_addWriter_10 ?_
  refine kz_iconst (pc := 11) (v := 0) (by decide) dX12_addWriter_11 ?_
  obtain ⟨fs4, hM, hlen, h⟩ := h
  refine kz_putf (pc := 12) (k := 19) kcX12 hM (by decide) hlen kw_1397 rfl rfl rfl dX12_addWriter_12 ?_
  refine kz_aload_n (pc := 15) 1 (v := .ref a0) (i := 0) rfl rfl rfl dX12_addWriter_15 ?_
  refine kz_iconst (pc := 16) (v := 0) (by decide) dX12_addWriter_16 ?_
  refine kz_iload_n (pc := 17) 0 (i := 1) rfl rfl dX12_addWriter_17 ?_
  obtain ⟨⟨fs32, he⟩, h⟩ := h
  refine kz_callV (pc := 18) (μ' := mX12_isName) (ci := 11) (q := (RX12, TX12, 32)) (b := a0) (d' := d + 6) (mc' := 0) (ms' := 0) (As := [.int 0, .int v3]) (st := []) (c := 0) (sl := 0) kmX12_isName kw_1557 (by omega) rfl (Nat.le_of_ble_eq_true rfl) he rfl rfl (Nat.le_refl _) (Nat.le_refl _) dX12_addWriter_18 (fun E M9 hx => kz_Tout rfl (Nat.le_refl _) (Nat.le_refl _) hx) (kz_Cmono (fun v M5 h => ?_) (fun _ _ h => h) h)
  obtain ⟨r6, rfl, h⟩ := h
  show kz_Z G (d + 7) 0 0 mX12_addWriter Qr Qx 21 [(1, .int v3), (0, .ref a0)] [.int r6] M5 0 0
  refine kz_if_eq (pc := 21) (tgt := 37) (by decide) dX12_addWriter_21 (fun hb => ?_) (fun hb => ?_)
  · replace h := h.1 hb
    refine kz_bipush (pc := 37) (v := (-2)) (by decide) dX12_addWriter_37 ?_
    exact kz_iret (pc := 39) rfl (Nat.le_refl _) (Nat.le_refl _) dX12_addWriter_39 h
  · replace h := h.2 hb
    refine kz_aload_n (pc := 24) 1 (v := .ref a0) (i := 0) rfl rfl rfl dX12_addWriter_24 ?_
    refine kz_aload_n (pc := 25) 1 (v := .ref a0) (i := 0) rfl rfl rfl dX12_addWriter_25 ?_
    refine kz_iconst (pc := 26) (v := 0) (by decide) dX12_addWriter_26 ?_
    refine kz_iload_n (pc := 27) 0 (i := 1) rfl rfl dX12_addWriter_27 ?_
    obtain ⟨⟨fs31, he⟩, h⟩ := h
    refine kz_callV (pc := 28) (μ' := mX12_packed) (ci := 11) (q := (RX12, TX12, 32)) (b := a0) (d' := d + 6) (mc' := 0) (ms' := 0) (As := [.int 0, .int v3]) (st := [.ref a0]) (c := 0) (sl := 0) kmX12_packed kw_1578 (by omega) rfl (Nat.le_of_ble_eq_true rfl) he rfl rfl (Nat.le_refl _) (Nat.le_refl _) dX12_addWriter_28 (fun E M9 hx => kz_Tout rfl (Nat.le_refl _) (Nat.le_refl _) hx) (kz_Cmono (fun v M8 h => ?_) (fun _ _ h => h) h)
    obtain ⟨r9, rfl, h⟩ := h
    show kz_Z G (d + 7) 0 0 mX12_addWriter Qr Qx 31 [(1, .int v3), (0, .ref a0)] [.int r9, .ref a0] M8 0 0
    obtain ⟨⟨fs30, he⟩, h⟩ := h
    refine kz_callV (pc := 31) (μ' := mX12_isTaken) (ci := 11) (q := (RX12, TX12, 32)) (b := a0) (d' := d + 6) (mc' := 0) (ms' := 0) (As := [.int r9]) (st := []) (c := 0) (sl := 0) kmX12_isTaken kw_1582 (by omega) rfl (Nat.le_of_ble_eq_true rfl) he rfl rfl (Nat.le_refl _) (Nat.le_refl _) dX12_addWriter_31 (fun E M9 hx => kz_Tout rfl (Nat.le_refl _) (Nat.le_refl _) hx) (kz_Cmono (fun v M11 h => ?_) (fun _ _ h => h) h)
    obtain ⟨r12, rfl, h⟩ := h
    show kz_Z G (d + 7) 0 0 mX12_addWriter Qr Qx 34 [(1, .int v3), (0, .ref a0)] [.int r12] M11 0 0
    refine kz_if_eq (pc := 34) (tgt := 40) (by decide) dX12_addWriter_34 (fun hb => ?_) (fun hb => ?_)
    · replace h := h.1 hb
      refine kz_aload_n (pc := 40) 1 (v := .ref a0) (i := 0) rfl rfl rfl dX12_addWriter_40 ?_
      obtain ⟨fs14, v15, hM, hv, h⟩ := h
      refine kz_getf (pc := 41) (k := 0) kcX12 hM hv (by decide) kw_1378 dX12_addWriter_41 ?_
      refine kz_iconst (pc := 44) (v := 0) (by decide) dX12_addWriter_44 ?_
      obtain ⟨n16, f17, hM, hi, h⟩ := h
      refine kz_iald (pc := 45) hM hi dX12_addWriter_45 ?_
      refine kz_bipush (pc := 46) (v := 6) (by decide) dX12_addWriter_46 ?_
      refine kz_icmp_ne (pc := 48) (tgt := 54) (by decide) dX12_addWriter_48 (fun hb => ?_) (fun hb => ?_)
      · replace h := h.1 hb
        refine kz_aload_n (pc := 54) 1 (v := .ref a0) (i := 0) rfl rfl rfl dX12_addWriter_54 ?_
        obtain ⟨⟨fs29, he⟩, h⟩ := h
        refine kz_callV (pc := 55) (μ' := mX12_remembers) (ci := 11) (q := (RX12, TX12, 32)) (b := a0) (d' := d + 6) (mc' := 0) (ms' := 0) (As := []) (st := []) (c := 0) (sl := 0) kmX12_remembers kw_1935 (by omega) rfl (Nat.le_of_ble_eq_true rfl) he rfl rfl (Nat.le_refl _) (Nat.le_refl _) dX12_addWriter_55 (fun E M9 hx => kz_Tout rfl (Nat.le_refl _) (Nat.le_refl _) hx) (kz_Cmono (fun v M18 h => ?_) (fun _ _ h => h) h)
        obtain ⟨rfl, h⟩ := h
        show kz_Z G (d + 7) 0 0 mX12_addWriter Qr Qx 58 [(1, .int v3), (0, .ref a0)] [] M18 0 0
        refine kz_aload_n (pc := 58) 1 (v := .ref a0) (i := 0) rfl rfl rfl dX12_addWriter_58 ?_
        refine kz_aload_n (pc := 59) 1 (v := .ref a0) (i := 0) rfl rfl rfl dX12_addWriter_59 ?_
        refine kz_iconst (pc := 60) (v := 0) (by decide) dX12_addWriter_60 ?_
        refine kz_iload_n (pc := 61) 0 (i := 1) rfl rfl dX12_addWriter_61 ?_
        obtain ⟨⟨fs28, he⟩, h⟩ := h
        refine kz_callV (pc := 62) (μ' := mX12_packed) (ci := 11) (q := (RX12, TX12, 32)) (b := a0) (d' := d + 6) (mc' := 0) (ms' := 0) (As := [.int 0, .int v3]) (st := [.ref a0]) (c := 0) (sl := 0) kmX12_packed kw_1578 (by omega) rfl (Nat.le_of_ble_eq_true rfl) he rfl rfl (Nat.le_refl _) (Nat.le_refl _) dX12_addWriter_62 (fun E M9 hx => kz_Tout rfl (Nat.le_refl _) (Nat.le_refl _) hx) (kz_Cmono (fun v M21 h => ?_) (fun _ _ h => h) h)
        obtain ⟨r22, rfl, h⟩ := h
        show kz_Z G (d + 7) 0 0 mX12_addWriter Qr Qx 65 [(1, .int v3), (0, .ref a0)] [.int r22, .ref a0] M21 0 0
        obtain ⟨⟨fs27, he⟩, h⟩ := h
        refine kz_callV (pc := 65) (μ' := mX12_joins) (ci := 11) (q := (RX12, TX12, 32)) (b := a0) (d' := d + 6) (mc' := 0) (ms' := 0) (As := [.int r22]) (st := []) (c := 0) (sl := 0) kmX12_joins kw_1586 (by omega) rfl (Nat.le_of_ble_eq_true rfl) he rfl rfl (Nat.le_refl _) (Nat.le_refl _) dX12_addWriter_65 (fun E M9 hx => kz_Tout rfl (Nat.le_refl _) (Nat.le_refl _) hx) (kz_Cmono (fun v M24 h => ?_) (fun _ _ h => h) h)
        obtain ⟨r25, rfl, h⟩ := h
        show kz_Z G (d + 7) 0 0 mX12_addWriter Qr Qx 68 [(1, .int v3), (0, .ref a0)] [.int r25] M24 0 0
        exact kz_iret (pc := 68) rfl (Nat.le_refl _) (Nat.le_refl _) dX12_addWriter_68 h
      · replace h := h.2 hb
        refine kz_bipush (pc := 51) (v := (-3)) (by decide) dX12_addWriter_51 ?_
        exact kz_iret (pc := 53) rfl (Nat.le_refl _) (Nat.le_refl _) dX12_addWriter_53 h
    · replace h := h.2 hb
      refine kz_bipush (pc := 37) (v := (-2)) (by decide) dX12_addWriter_37 ?_
      exact kz_iret (pc := 39) rfl (Nat.le_refl _) (Nat.le_refl _) dX12_addWriter_39 h
theorem dX12_endow_0 : decode cX12_endow 0 = .ok (.aload_n 0, 1) := by decide +kernel
theorem dX12_endow_1 : decode cX12_endow 1 = .ok (.iconst 0, 1) := by decide +kernel
theorem dX12_endow_2 : decode cX12_endow 2 = .ok (.putfield 60, 3) := by decide +kernel
theorem dX12_endow_5 : decode cX12_endow 5 = .ok (.aload_n 0, 1) := by decide +kernel
theorem dX12_endow_6 : decode cX12_endow 6 = .ok (.iload_n 1, 1) := by decide +kernel
theorem dX12_endow_7 : decode cX12_endow 7 = .ok (.iconst 1, 1) := by decide +kernel
theorem dX12_endow_8 : decode cX12_endow 8 = .ok (.sipush 9999, 3) := by decide +kernel
theorem dX12_endow_11 : decode cX12_endow 11 = .ok (.invokestatic 67, 3) := by decide +kernel
theorem dX12_endow_14 : decode cX12_endow 14 = .ok (.ifCond .ne 7, 3) := by decide +kernel
theorem dX12_endow_17 : decode cX12_endow 17 = .ok (.iconst 1, 1) := by decide +kernel
theorem dX12_endow_18 : decode cX12_endow 18 = .ok (.goto 4, 3) := by decide +kernel
theorem dX12_endow_21 : decode cX12_endow 21 = .ok (.iconst 0, 1) := by decide +kernel
theorem dX12_endow_22 : decode cX12_endow 22 = .ok (.iconst 1, 1) := by decide +kernel
theorem dX12_endow_23 : decode cX12_endow 23 = .ok (.invokevirtual 310, 3) := by decide +kernel
theorem dX12_endow_26 : decode cX12_endow 26 = .ok (.ifCond .eq 5, 3) := by decide +kernel
theorem dX12_endow_29 : decode cX12_endow 29 = .ok (.iconst 0, 1) := by decide +kernel
theorem dX12_endow_30 : decode cX12_endow 30 = .ok (.ireturn, 1) := by decide +kernel
theorem dX12_endow_31 : decode cX12_endow 31 = .ok (.aload_n 0, 1) := by decide +kernel
theorem dX12_endow_32 : decode cX12_endow 32 = .ok (.invokevirtual 413, 3) := by decide +kernel
theorem dX12_endow_35 : decode cX12_endow 35 = .ok (.aload_n 0, 1) := by decide +kernel
theorem dX12_endow_36 : decode cX12_endow 36 = .ok (.getfield 7, 3) := by decide +kernel
theorem dX12_endow_39 : decode cX12_endow 39 = .ok (.iconst 3, 1) := by decide +kernel
theorem dX12_endow_40 : decode cX12_endow 40 = .ok (.ldc_w 290, 3) := by decide +kernel
theorem dX12_endow_43 : decode cX12_endow 43 = .ok (.aload_n 0, 1) := by decide +kernel
theorem dX12_endow_44 : decode cX12_endow 44 = .ok (.getfield 7, 3) := by decide +kernel
theorem dX12_endow_47 : decode cX12_endow 47 = .ok (.iconst 3, 1) := by decide +kernel
theorem dX12_endow_48 : decode cX12_endow 48 = .ok (.iaload, 1) := by decide +kernel
theorem dX12_endow_49 : decode cX12_endow 49 = .ok (.iload_n 1, 1) := by decide +kernel
theorem dX12_endow_50 : decode cX12_endow 50 = .ok (.iadd, 1) := by decide +kernel
theorem dX12_endow_51 : decode cX12_endow 51 = .ok (.invokestatic 385, 3) := by decide +kernel
theorem dX12_endow_54 : decode cX12_endow 54 = .ok (.iastore, 1) := by decide +kernel
theorem dX12_endow_55 : decode cX12_endow 55 = .ok (.aload_n 0, 1) := by decide +kernel
theorem dX12_endow_56 : decode cX12_endow 56 = .ok (.getfield 7, 3) := by decide +kernel
theorem dX12_endow_59 : decode cX12_endow 59 = .ok (.iconst 3, 1) := by decide +kernel
theorem dX12_endow_60 : decode cX12_endow 60 = .ok (.iaload, 1) := by decide +kernel
theorem dX12_endow_61 : decode cX12_endow 61 = .ok (.ireturn, 1) := by decide +kernel
theorem rX12_endow_0 {G : kz_G} {d : Nat} {Qr : Option Value → kz_M → Prop} {Qx : String → kz_M → Prop} {a0 : Nat} {p1 : Int32}  {M : kz_M} (h : ∃ fs1, (M).1 a0 = some (.inl (11, fs1)) ∧ 9 < fs1.length ∧ (kz_C G (d + 1) 0 0 mX12_inRange [.int p1, .int 1, .int 9999] (kz_up M a0 (.inl (11, fs1.set 9 (.int 0)))) (fun v M2 => ∃ r3 : Int32, v = some (.int r3) ∧ ((¬ r3 = 0 → (∃ fs25, (M2).1 a0 = some (.inl (11, fs25))) ∧ kz_C G (d + 1) 0 0 mX12_fails [.ref a0, .int 0, .int 1] M2 (fun v M5 => ∃ r6 : Int32, v = some (.int r6) ∧ ((r6 = 0 → (∃ fs24, (M5).1 a0 = some (.inl (11, fs24))) ∧ kz_C G (d + 1) 0 0 mX12_remembers [.ref a0] M5 (fun v M8 => v = none ∧ (∃ fs11 v12, (M8).1 a0 = some (.inl (11, fs11)) ∧ fs11[0]? = some (.ref v12) ∧ (∃ fs13 v14, (M8).1 a0 = some (.inl (11, fs13)) ∧ fs13[0]? = some (.ref v14) ∧ (∃ n15 f16, (M8).1 v14 = some (.inr (.int, n15, .inl f16)) ∧ vp_in (3 : Int32) n15 ∧ (∃ n17 f18, (M8).1 v12 = some (.inr (.int, n17, .inl f18)) ∧ vp_in (3 : Int32) n17 ∧ (∀ M19, M19 = kz_up M8 v12 (.inr (.int, n17, .inl (upd f18 (3 : Int32).toNatClampNeg (if ((f16 (3 : Int32).toNatClampNeg) + p1) < 99999 then ((f16 (3 : Int32).toNatClampNeg) + p1) else 99999)))) → ∃ fs20 v21, (M19).1 a0 = some (.inl (11, fs20)) ∧ fs20[0]? = some (.ref v21) ∧ (∃ n22 f23, (M19).1 v21 = some (.inr (.int, n22, .inl f23)) ∧ vp_in (3 : Int32) n22 ∧ (Qr (some (.int (f23 (3 : Int32).toNatClampNeg))) M19)))))))) Qx) ∧ (¬ r6 = 0 → Qr (some (.int 0)) M5))) Qx) ∧ (r3 = 0 → (∃ fs46, (M2).1 a0 = some (.inl (11, fs46))) ∧ kz_C G (d + 1) 0 0 mX12_fails [.ref a0, .int 1, .int 1] M2 (fun v M26 => ∃ r27 : Int32, v = some (.int r27) ∧ ((r27 = 0 → (∃ fs45, (M26).1 a0 = some (.inl (11, fs45))) ∧ kz_C G (d + 1) 0 0 mX12_remembers [.ref a0] M26 (fun v M29 => v = none ∧ (∃ fs32 v33, (M29).1 a0 = some (.inl (11, fs32)) ∧ fs32[0]? = some (.ref v33) ∧ (∃ fs34 v35, (M29).1 a0 = some (.inl (11, fs34)) ∧ fs34[0]? = some (.ref v35) ∧ (∃ n36 f37, (M29).1 v35 = some (.inr (.int, n36, .inl f37)) ∧ vp_in (3 : Int32) n36 ∧ (∃ n38 f39, (M29).1 v33 = some (.inr (.int, n38, .inl f39)) ∧ vp_in (3 : Int32) n38 ∧ (∀ M40, M40 = kz_up M29 v33 (.inr (.int, n38, .inl (upd f39 (3 : Int32).toNatClampNeg (if ((f37 (3 : Int32).toNatClampNeg) + p1) < 99999 then ((f37 (3 : Int32).toNatClampNeg) + p1) else 99999)))) → ∃ fs41 v42, (M40).1 a0 = some (.inl (11, fs41)) ∧ fs41[0]? = some (.ref v42) ∧ (∃ n43 f44, (M40).1 v42 = some (.inr (.int, n43, .inl f44)) ∧ vp_in (3 : Int32) n43 ∧ (Qr (some (.int (f44 (3 : Int32).toNatClampNeg))) M40)))))))) Qx) ∧ (¬ r27 = 0 → Qr (some (.int 0)) M26))) Qx))) Qx)) : kz_C G (d + 2) 0 0 mX12_endow [.ref a0, .int p1] M Qr Qx := by
  refine kz_enter (n := 1) kmX12_endow.1 (Nat.le_of_ble_eq_true rfl) (ls := [(0, .ref a0), (1, .int p1)]) rfl ?_
  refine kz_aload_n (pc := 0) 0 (v := .ref a0) (i := 0) rfl rfl rfl dX12_endow_0 ?_
  refine kz_iconst (pc := 1) (v := 0) (by decide) dX12_endow_1 ?_
  obtain ⟨fs1, hM, hlen, h⟩ := h
  refine kz_putf (pc := 2) (k := 9) kcX12 hM (by decide) hlen kw_1387 rfl rfl rfl dX12_endow_2 ?_
  refine kz_aload_n (pc := 5) 0 (v := .ref a0) (i := 0) rfl rfl rfl dX12_endow_5 ?_
  refine kz_iload_n (pc := 6) 1 (i := 1) rfl rfl dX12_endow_6 ?_
  refine kz_iconst (pc := 7) (v := 1) (by decide) dX12_endow_7 ?_
  refine kz_sipush (pc := 8) (v := 9999) (by decide) dX12_endow_8 ?_
  refine kz_callS (pc := 11) (μ' := mX12_inRange) (d' := d + 1) (mc' := 0) (ms' := 0) (As := [.int p1, .int 1, .int 9999]) (st := [.ref a0]) (c := 0) (sl := 0) kmX12_inRange kw_1491 (by omega) rfl (Nat.le_of_ble_eq_true rfl) (Nat.le_refl _) (Nat.le_refl _) dX12_endow_11 (fun E M9 hx => kz_Tout rfl (Nat.le_refl _) (Nat.le_refl _) hx) (kz_Cmono (fun v M2 h => ?_) (fun _ _ h => h) h)
  obtain ⟨r3, rfl, h⟩ := h
  show kz_Z G (d + 2) 0 0 mX12_endow Qr Qx 14 [(0, .ref a0), (1, .int p1)] [.int r3, .ref a0] M2 0 0
  refine kz_if_ne (pc := 14) (tgt := 21) (by decide) dX12_endow_14 (fun hb => ?_) (fun hb => ?_)
  · replace h := h.1 hb
    refine kz_iconst (pc := 21) (v := 0) (by decide) dX12_endow_21 ?_
    refine kz_iconst (pc := 22) (v := 1) (by decide) dX12_endow_22 ?_
    obtain ⟨⟨fs25, he⟩, h⟩ := h
    refine kz_callV (pc := 23) (μ' := mX12_fails) (ci := 11) (q := (RX12, TX12, 32)) (b := a0) (d' := d + 1) (mc' := 0) (ms' := 0) (As := [.int 0, .int 1]) (st := []) (c := 0) (sl := 0) kmX12_fails kw_1653 (by omega) rfl (Nat.le_of_ble_eq_true rfl) he rfl rfl (Nat.le_refl _) (Nat.le_refl _) dX12_endow_23 (fun E M9 hx => kz_Tout rfl (Nat.le_refl _) (Nat.le_refl _) hx) (kz_Cmono (fun v M5 h => ?_) (fun _ _ h => h) h)
    obtain ⟨r6, rfl, h⟩ := h
    show kz_Z G (d + 2) 0 0 mX12_endow Qr Qx 26 [(0, .ref a0), (1, .int p1)] [.int r6] M5 0 0
    refine kz_if_eq (pc := 26) (tgt := 31) (by decide) dX12_endow_26 (fun hb => ?_) (fun hb => ?_)
    · replace h := h.1 hb
      refine kz_aload_n (pc := 31) 0 (v := .ref a0) (i := 0) rfl rfl rfl dX12_endow_31 ?_
      obtain ⟨⟨fs24, he⟩, h⟩ := h
      refine kz_callV (pc := 32) (μ' := mX12_remembers) (ci := 11) (q := (RX12, TX12, 32)) (b := a0) (d' := d + 1) (mc' := 0) (ms' := 0) (As := []) (st := []) (c := 0) (sl := 0) kmX12_remembers kw_1935 (by omega) rfl (Nat.le_of_ble_eq_true rfl) he rfl rfl (Nat.le_refl _) (Nat.le_refl _) dX12_endow_32 (fun E M9 hx => kz_Tout rfl (Nat.le_refl _) (Nat.le_refl _) hx) (kz_Cmono (fun v M8 h => ?_) (fun _ _ h => h) h)
      obtain ⟨rfl, h⟩ := h
      show kz_Z G (d + 2) 0 0 mX12_endow Qr Qx 35 [(0, .ref a0), (1, .int p1)] [] M8 0 0
      refine kz_aload_n (pc := 35) 0 (v := .ref a0) (i := 0) rfl rfl rfl dX12_endow_35 ?_
      obtain ⟨fs11, v12, hM, hv, h⟩ := h
      refine kz_getf (pc := 36) (k := 0) kcX12 hM hv (by decide) kw_1378 dX12_endow_36 ?_
      refine kz_iconst (pc := 39) (v := 3) (by decide) dX12_endow_39 ?_
      refine kz_ldcwI (pc := 40) kw_1535 rfl dX12_endow_40 ?_
      refine kz_aload_n (pc := 43) 0 (v := .ref a0) (i := 0) rfl rfl rfl dX12_endow_43 ?_
      obtain ⟨fs13, v14, hM, hv, h⟩ := h
      refine kz_getf (pc := 44) (k := 0) kcX12 hM hv (by decide) kw_1378 dX12_endow_44 ?_
      refine kz_iconst (pc := 47) (v := 3) (by decide) dX12_endow_47 ?_
      obtain ⟨n15, f16, hM, hi, h⟩ := h
      refine kz_iald (pc := 48) hM hi dX12_endow_48 ?_
      refine kz_iload_n (pc := 49) 1 (i := 1) rfl rfl dX12_endow_49 ?_
      refine kz_iadd (pc := 50) dX12_endow_50 ?_
      refine kz_mmin (pc := 51) kw_1855 kw_1250 kw_15 kw_1251 (by omega) (Nat.le_of_ble_eq_true rfl) (Nat.le_refl _) (Nat.le_refl _) dX12_endow_51 ?_
      obtain ⟨n17, f18, hM, hi, h⟩ := h
      refine kz_iast (pc := 54) hM hi dX12_endow_54 ?_
      refine kz_nameM (fun M19 e9 => ?_)
      replace h := h M19 e9
      refine kz_aload_n (pc := 55) 0 (v := .ref a0) (i := 0) rfl rfl rfl dX12_endow_55 ?_
      obtain ⟨fs20, v21, hM, hv, h⟩ := h
      refine kz_getf (pc := 56) (k := 0) kcX12 hM hv (by decide) kw_1378 dX12_endow_56 ?_
      refine kz_iconst (pc := 59) (v := 3) (by decide) dX12_endow_59 ?_
      obtain ⟨n22, f23, hM, hi, h⟩ := h
      refine kz_iald (pc := 60) hM hi dX12_endow_60 ?_
      exact kz_iret (pc := 61) rfl (Nat.le_refl _) (Nat.le_refl _) dX12_endow_61 h
    · replace h := h.2 hb
      refine kz_iconst (pc := 29) (v := 0) (by decide) dX12_endow_29 ?_
      exact kz_iret (pc := 30) rfl (Nat.le_refl _) (Nat.le_refl _) dX12_endow_30 h
  · replace h := h.2 hb
    refine kz_iconst (pc := 17) (v := 1) (by decide) dX12_endow_17 ?_
    refine kz_goto (pc := 18) (tgt := 22) (by decide) dX12_endow_18 ?_
    refine kz_iconst (pc := 22) (v := 1) (by decide) dX12_endow_22 ?_
    obtain ⟨⟨fs46, he⟩, h⟩ := h
    refine kz_callV (pc := 23) (μ' := mX12_fails) (ci := 11) (q := (RX12, TX12, 32)) (b := a0) (d' := d + 1) (mc' := 0) (ms' := 0) (As := [.int 1, .int 1]) (st := []) (c := 0) (sl := 0) kmX12_fails kw_1653 (by omega) rfl (Nat.le_of_ble_eq_true rfl) he rfl rfl (Nat.le_refl _) (Nat.le_refl _) dX12_endow_23 (fun E M9 hx => kz_Tout rfl (Nat.le_refl _) (Nat.le_refl _) hx) (kz_Cmono (fun v M26 h => ?_) (fun _ _ h => h) h)
    obtain ⟨r27, rfl, h⟩ := h
    show kz_Z G (d + 2) 0 0 mX12_endow Qr Qx 26 [(0, .ref a0), (1, .int p1)] [.int r27] M26 0 0
    refine kz_if_eq (pc := 26) (tgt := 31) (by decide) dX12_endow_26 (fun hb => ?_) (fun hb => ?_)
    · replace h := h.1 hb
      refine kz_aload_n (pc := 31) 0 (v := .ref a0) (i := 0) rfl rfl rfl dX12_endow_31 ?_
      obtain ⟨⟨fs45, he⟩, h⟩ := h
      refine kz_callV (pc := 32) (μ' := mX12_remembers) (ci := 11) (q := (RX12, TX12, 32)) (b := a0) (d' := d + 1) (mc' := 0) (ms' := 0) (As := []) (st := []) (c := 0) (sl := 0) kmX12_remembers kw_1935 (by omega) rfl (Nat.le_of_ble_eq_true rfl) he rfl rfl (Nat.le_refl _) (Nat.le_refl _) dX12_endow_32 (fun E M9 hx => kz_Tout rfl (Nat.le_refl _) (Nat.le_refl _) hx) (kz_Cmono (fun v M29 h => ?_) (fun _ _ h => h) h)
      obtain ⟨rfl, h⟩ := h
      show kz_Z G (d + 2) 0 0 mX12_endow Qr Qx 35 [(0, .ref a0), (1, .int p1)] [] M29 0 0
      refine kz_aload_n (pc := 35) 0 (v := .ref a0) (i := 0) rfl rfl rfl dX12_endow_35 ?_
      obtain ⟨fs32, v33, hM, hv, h⟩ := h
      refine kz_getf (pc := 36) (k := 0) kcX12 hM hv (by decide) kw_1378 dX12_endow_36 ?_
      refine kz_iconst (pc := 39) (v := 3) (by decide) dX12_endow_39 ?_
      refine kz_ldcwI (pc := 40) kw_1535 rfl dX12_endow_40 ?_
      refine kz_aload_n (pc := 43) 0 (v := .ref a0) (i := 0) rfl rfl rfl dX12_endow_43 ?_
      obtain ⟨fs34, v35, hM, hv, h⟩ := h
      refine kz_getf (pc := 44) (k := 0) kcX12 hM hv (by decide) kw_1378 dX12_endow_44 ?_
      refine kz_iconst (pc := 47) (v := 3) (by decide) dX12_endow_47 ?_
      obtain ⟨n36, f37, hM, hi, h⟩ := h
      refine kz_iald (pc := 48) hM hi dX12_endow_48 ?_
      refine kz_iload_n (pc := 49) 1 (i := 1) rfl rfl dX12_endow_49 ?_
      refine kz_iadd (pc := 50) dX12_endow_50 ?_
      refine kz_mmin (pc := 51) kw_1855 kw_1250 kw_15 kw_1251 (by omega) (Nat.le_of_ble_eq_true rfl) (Nat.le_refl _) (Nat.le_refl _) dX12_endow_51 ?_
      obtain ⟨n38, f39, hM, hi, h⟩ := h
      refine kz_iast (pc := 54) hM hi dX12_endow_54 ?_
      refine kz_nameM (fun M40 e9 => ?_)
      replace h := h M40 e9
      refine kz_aload_n (pc := 55) 0 (v := .ref a0) (i := 0) rfl rfl rfl dX12_endow_55 ?_
      obtain ⟨fs41, v42, hM, hv, h⟩ := h
      refine kz_getf (pc := 56) (k := 0) kcX12 hM hv (by decide) kw_1378 dX12_endow_56 ?_
      refine kz_iconst (pc := 59) (v := 3) (by decide) dX12_endow_59 ?_
      obtain ⟨n43, f44, hM, hi, h⟩ := h
      refine kz_iald (pc := 60) hM hi dX12_endow_60 ?_
      exact kz_iret (pc := 61) rfl (Nat.le_refl _) (Nat.le_refl _) dX12_endow_61 h
    · replace h := h.2 hb
      refine kz_iconst (pc := 29) (v := 0) (by decide) dX12_endow_29 ?_
      exact kz_iret (pc := 30) rfl (Nat.le_refl _) (Nat.le_refl _) dX12_endow_30 h
theorem dX12_pass_0 : decode cX12_pass 0 = .ok (.aload_n 0, 1) := by decide +kernel
theorem dX12_pass_1 : decode cX12_pass 1 = .ok (.iconst 0, 1) := by decide +kernel
theorem dX12_pass_2 : decode cX12_pass 2 = .ok (.putfield 60, 3) := by decide +kernel
theorem dX12_pass_5 : decode cX12_pass 5 = .ok (.aload_n 0, 1) := by decide +kernel
theorem dX12_pass_6 : decode cX12_pass 6 = .ok (.iload_n 1, 1) := by decide +kernel
theorem dX12_pass_7 : decode cX12_pass 7 = .ok (.iconst 1, 1) := by decide +kernel
theorem dX12_pass_8 : decode cX12_pass 8 = .ok (.bipush 99, 2) := by decide +kernel
theorem dX12_pass_10 : decode cX12_pass 10 = .ok (.invokestatic 67, 3) := by decide +kernel
theorem dX12_pass_13 : decode cX12_pass 13 = .ok (.ifCond .ne 7, 3) := by decide +kernel
theorem dX12_pass_16 : decode cX12_pass 16 = .ok (.iconst 1, 1) := by decide +kernel
theorem dX12_pass_17 : decode cX12_pass 17 = .ok (.goto 4, 3) := by decide +kernel
theorem dX12_pass_20 : decode cX12_pass 20 = .ok (.iconst 0, 1) := by decide +kernel
theorem dX12_pass_21 : decode cX12_pass 21 = .ok (.iconst 1, 1) := by decide +kernel
theorem dX12_pass_22 : decode cX12_pass 22 = .ok (.invokevirtual 310, 3) := by decide +kernel
theorem dX12_pass_25 : decode cX12_pass 25 = .ok (.ifCond .ne 30, 3) := by decide +kernel
theorem dX12_pass_28 : decode cX12_pass 28 = .ok (.aload_n 0, 1) := by decide +kernel
theorem dX12_pass_29 : decode cX12_pass 29 = .ok (.aload_n 0, 1) := by decide +kernel
theorem dX12_pass_30 : decode cX12_pass 30 = .ok (.getfield 7, 3) := by decide +kernel
theorem dX12_pass_33 : decode cX12_pass 33 = .ok (.iconst 2, 1) := by decide +kernel
theorem dX12_pass_34 : decode cX12_pass 34 = .ok (.iaload, 1) := by decide +kernel
theorem dX12_pass_35 : decode cX12_pass 35 = .ok (.iload_n 1, 1) := by decide +kernel
theorem dX12_pass_36 : decode cX12_pass 36 = .ok (.iadd, 1) := by decide +kernel
theorem dX12_pass_37 : decode cX12_pass 37 = .ok (.sipush 9999, 3) := by decide +kernel
theorem dX12_pass_40 : decode cX12_pass 40 = .ok (.if_icmp .le 7, 3) := by decide +kernel
theorem dX12_pass_43 : decode cX12_pass 43 = .ok (.iconst 1, 1) := by decide +kernel
theorem dX12_pass_44 : decode cX12_pass 44 = .ok (.goto 4, 3) := by decide +kernel
theorem dX12_pass_47 : decode cX12_pass 47 = .ok (.iconst 0, 1) := by decide +kernel
theorem dX12_pass_48 : decode cX12_pass 48 = .ok (.iconst 2, 1) := by decide +kernel
theorem dX12_pass_49 : decode cX12_pass 49 = .ok (.invokevirtual 310, 3) := by decide +kernel
theorem dX12_pass_52 : decode cX12_pass 52 = .ok (.ifCond .eq 5, 3) := by decide +kernel
theorem dX12_pass_55 : decode cX12_pass 55 = .ok (.iconst 0, 1) := by decide +kernel
theorem dX12_pass_56 : decode cX12_pass 56 = .ok (.ireturn, 1) := by decide +kernel
theorem dX12_pass_57 : decode cX12_pass 57 = .ok (.aload_n 0, 1) := by decide +kernel
theorem dX12_pass_58 : decode cX12_pass 58 = .ok (.invokevirtual 413, 3) := by decide +kernel
theorem dX12_pass_61 : decode cX12_pass 61 = .ok (.aload_n 0, 1) := by decide +kernel
theorem dX12_pass_62 : decode cX12_pass 62 = .ok (.getfield 7, 3) := by decide +kernel
theorem dX12_pass_65 : decode cX12_pass 65 = .ok (.iconst 2, 1) := by decide +kernel
theorem dX12_pass_66 : decode cX12_pass 66 = .ok (.dup2, 1) := by decide +kernel
theorem dX12_pass_67 : decode cX12_pass 67 = .ok (.iaload, 1) := by decide +kernel
theorem dX12_pass_68 : decode cX12_pass 68 = .ok (.iload_n 1, 1) := by decide +kernel
theorem dX12_pass_69 : decode cX12_pass 69 = .ok (.iadd, 1) := by decide +kernel
theorem dX12_pass_70 : decode cX12_pass 70 = .ok (.iastore, 1) := by decide +kernel
theorem dX12_pass_71 : decode cX12_pass 71 = .ok (.aload_n 0, 1) := by decide +kernel
theorem dX12_pass_72 : decode cX12_pass 72 = .ok (.getfield 7, 3) := by decide +kernel
theorem dX12_pass_75 : decode cX12_pass 75 = .ok (.iconst 2, 1) := by decide +kernel
theorem dX12_pass_76 : decode cX12_pass 76 = .ok (.iaload, 1) := by decide +kernel
theorem dX12_pass_77 : decode cX12_pass 77 = .ok (.ireturn, 1) := by decide +kernel
theorem rX12_pass_0 {G : kz_G} {d : Nat} {Qr : Option Value → kz_M → Prop} {Qx : String → kz_M → Prop} {a0 : Nat} {p1 : Int32}  {M : kz_M} (h : ∃ fs1, (M).1 a0 = some (.inl (11, fs1)) ∧ 9 < fs1.length ∧ (kz_C G (d + 1) 0 0 mX12_inRange [.int p1, .int 1, .int 99] (kz_up M a0 (.inl (11, fs1.set 9 (.int 0)))) (fun v M2 => ∃ r3 : Int32, v = some (.int r3) ∧ ((¬ r3 = 0 → (∃ fs48, (M2).1 a0 = some (.inl (11, fs48))) ∧ kz_C G (d + 1) 0 0 mX12_fails [.ref a0, .int 0, .int 1] M2 (fun v M5 => ∃ r6 : Int32, v = some (.int r6) ∧ ((¬ r6 = 0 → Qr (some (.int 0)) M5) ∧ (r6 = 0 → ∃ fs8 v9, (M5).1 a0 = some (.inl (11, fs8)) ∧ fs8[0]? = some (.ref v9) ∧ (∃ n10 f11, (M5).1 v9 = some (.inr (.int, n10, .inl f11)) ∧ vp_in (2 : Int32) n10 ∧ ((((f11 (2 : Int32).toNatClampNeg) + p1) ≤ (9999 : Int32) → (∃ fs29, (M5).1 a0 = some (.inl (11, fs29))) ∧ kz_C G (d + 1) 0 0 mX12_fails [.ref a0, .int 0, .int 2] M5 (fun v M12 => ∃ r13 : Int32, v = some (.int r13) ∧ ((r13 = 0 → (∃ fs28, (M12).1 a0 = some (.inl (11, fs28))) ∧ kz_C G (d + 1) 0 0 mX12_remembers [.ref a0] M12 (fun v M15 => v = none ∧ (∃ fs18 v19, (M15).1 a0 = some (.inl (11, fs18)) ∧ fs18[0]? = some (.ref v19) ∧ (∃ n20 f21, (M15).1 v19 = some (.inr (.int, n20, .inl f21)) ∧ vp_in (2 : Int32) n20 ∧ (∃ n22 f23, (M15).1 v19 = some (.inr (.int, n22, .inl f23)) ∧ vp_in (2 : Int32) n22 ∧ (∃ fs24 v25, ((kz_up M15 v19 (.inr (.int, n22, .inl (upd f23 (2 : Int32).toNatClampNeg ((f21 (2 : Int32).toNatClampNeg) + p1)))))).1 a0 = some (.inl (11, fs24)) ∧ fs24[0]? = some (.ref v25) ∧ (∃ n26 f27, ((kz_up M15 v19 (.inr (.int, n22, .inl (upd f23 (2 : Int32).toNatClampNeg ((f21 (2 : Int32).toNatClampNeg) + p1)))))).1 v25 = some (.inr (.int, n26, .inl f27)) ∧ vp_in (2 : Int32) n26 ∧ (Qr (some (.int (f27 (2 : Int32).toNatClampNeg))) (kz_up M15 v19 (.inr (.int, n22, .inl (upd f23 (2 : Int32).toNatClampNeg ((f21 (2 : Int32).toNatClampNeg) + p1)))))))))))) Qx) ∧ (¬ r13 = 0 → Qr (some (.int 0)) M12))) Qx) ∧ (¬ ((f11 (2 : Int32).toNatClampNeg) + p1) ≤ (9999 : Int32) → (∃ fs47, (M5).1 a0 = some (.inl (11, fs47))) ∧ kz_C G (d + 1) 0 0 mX12_fails [.ref a0, .int 1, .int 2] M5 (fun v M30 => ∃ r31 : Int32, v = some (.int r31) ∧ ((r31 = 0 → (∃ fs46, (M30).1 a0 = some (.inl (11, fs46))) ∧ kz_C G (d + 1) 0 0 mX12_remembers [.ref a0] M30 (fun v M33 => v = none ∧ (∃ fs36 v37, (M33).1 a0 = some (.inl (11, fs36)) ∧ fs36[0]? = some (.ref v37) ∧ (∃ n38 f39, (M33).1 v37 = some (.inr (.int, n38, .inl f39)) ∧ vp_in (2 : Int32) n38 ∧ (∃ n40 f41, (M33).1 v37 = some (.inr (.int, n40, .inl f41)) ∧ vp_in (2 : Int32) n40 ∧ (∃ fs42 v43, ((kz_up M33 v37 (.inr (.int, n40, .inl (upd f41 (2 : Int32).toNatClampNeg ((f39 (2 : Int32).toNatClampNeg) + p1)))))).1 a0 = some (.inl (11, fs42)) ∧ fs42[0]? = some (.ref v43) ∧ (∃ n44 f45, ((kz_up M33 v37 (.inr (.int, n40, .inl (upd f41 (2 : Int32).toNatClampNeg ((f39 (2 : Int32).toNatClampNeg) + p1)))))).1 v43 = some (.inr (.int, n44, .inl f45)) ∧ vp_in (2 : Int32) n44 ∧ (Qr (some (.int (f45 (2 : Int32).toNatClampNeg))) (kz_up M33 v37 (.inr (.int, n40, .inl (upd f41 (2 : Int32).toNatClampNeg ((f39 (2 : Int32).toNatClampNeg) + p1)))))))))))) Qx) ∧ (¬ r31 = 0 → Qr (some (.int 0)) M30))) Qx)))))) Qx) ∧ (r3 = 0 → (∃ fs92, (M2).1 a0 = some (.inl (11, fs92))) ∧ kz_C G (d + 1) 0 0 mX12_fails [.ref a0, .int 1, .int 1] M2 (fun v M49 => ∃ r50 : Int32, v = some (.int r50) ∧ ((¬ r50 = 0 → Qr (some (.int 0)) M49) ∧ (r50 = 0 → ∃ fs52 v53, (M49).1 a0 = some (.inl (11, fs52)) ∧ fs52[0]? = some (.ref v53) ∧ (∃ n54 f55, (M49).1 v53 = some (.inr (.int, n54, .inl f55)) ∧ vp_in (2 : Int32) n54 ∧ ((((f55 (2 : Int32).toNatClampNeg) + p1) ≤ (9999 : Int32) → (∃ fs73, (M49).1 a0 = some (.inl (11, fs73))) ∧ kz_C G (d + 1) 0 0 mX12_fails [.ref a0, .int 0, .int 2] M49 (fun v M56 => ∃ r57 : Int32, v = some (.int r57) ∧ ((r57 = 0 → (∃ fs72, (M56).1 a0 = some (.inl (11, fs72))) ∧ kz_C G (d + 1) 0 0 mX12_remembers [.ref a0] M56 (fun v M59 => v = none ∧ (∃ fs62 v63, (M59).1 a0 = some (.inl (11, fs62)) ∧ fs62[0]? = some (.ref v63) ∧ (∃ n64 f65, (M59).1 v63 = some (.inr (.int, n64, .inl f65)) ∧ vp_in (2 : Int32) n64 ∧ (∃ n66 f67, (M59).1 v63 = some (.inr (.int, n66, .inl f67)) ∧ vp_in (2 : Int32) n66 ∧ (∃ fs68 v69, ((kz_up M59 v63 (.inr (.int, n66, .inl (upd f67 (2 : Int32).toNatClampNeg ((f65 (2 : Int32).toNatClampNeg) + p1)))))).1 a0 = some (.inl (11, fs68)) ∧ fs68[0]? = some (.ref v69) ∧ (∃ n70 f71, ((kz_up M59 v63 (.inr (.int, n66, .inl (upd f67 (2 : Int32).toNatClampNeg ((f65 (2 : Int32).toNatClampNeg) + p1)))))).1 v69 = some (.inr (.int, n70, .inl f71)) ∧ vp_in (2 : Int32) n70 ∧ (Qr (some (.int (f71 (2 : Int32).toNatClampNeg))) (kz_up M59 v63 (.inr (.int, n66, .inl (upd f67 (2 : Int32).toNatClampNeg ((f65 (2 : Int32).toNatClampNeg) + p1)))))))))))) Qx) ∧ (¬ r57 = 0 → Qr (some (.int 0)) M56))) Qx) ∧ (¬ ((f55 (2 : Int32).toNatClampNeg) + p1) ≤ (9999 : Int32) → (∃ fs91, (M49).1 a0 = some (.inl (11, fs91))) ∧ kz_C G (d + 1) 0 0 mX12_fails [.ref a0, .int 1, .int 2] M49 (fun v M74 => ∃ r75 : Int32, v = some (.int r75) ∧ ((r75 = 0 → (∃ fs90, (M74).1 a0 = some (.inl (11, fs90))) ∧ kz_C G (d + 1) 0 0 mX12_remembers [.ref a0] M74 (fun v M77 => v = none ∧ (∃ fs80 v81, (M77).1 a0 = some (.inl (11, fs80)) ∧ fs80[0]? = some (.ref v81) ∧ (∃ n82 f83, (M77).1 v81 = some (.inr (.int, n82, .inl f83)) ∧ vp_in (2 : Int32) n82 ∧ (∃ n84 f85, (M77).1 v81 = some (.inr (.int, n84, .inl f85)) ∧ vp_in (2 : Int32) n84 ∧ (∃ fs86 v87, ((kz_up M77 v81 (.inr (.int, n84, .inl (upd f85 (2 : Int32).toNatClampNeg ((f83 (2 : Int32).toNatClampNeg) + p1)))))).1 a0 = some (.inl (11, fs86)) ∧ fs86[0]? = some (.ref v87) ∧ (∃ n88 f89, ((kz_up M77 v81 (.inr (.int, n84, .inl (upd f85 (2 : Int32).toNatClampNeg ((f83 (2 : Int32).toNatClampNeg) + p1)))))).1 v87 = some (.inr (.int, n88, .inl f89)) ∧ vp_in (2 : Int32) n88 ∧ (Qr (some (.int (f89 (2 : Int32).toNatClampNeg))) (kz_up M77 v81 (.inr (.int, n84, .inl (upd f85 (2 : Int32).toNatClampNeg ((f83 (2 : Int32).toNatClampNeg) + p1)))))))))))) Qx) ∧ (¬ r75 = 0 → Qr (some (.int 0)) M74))) Qx)))))) Qx))) Qx)) : kz_C G (d + 2) 0 0 mX12_pass [.ref a0, .int p1] M Qr Qx := by
  refine kz_enter (n := 1) kmX12_pass.1 (Nat.le_of_ble_eq_true rfl) (ls := [(0, .ref a0), (1, .int p1)]) rfl ?_
  refine kz_aload_n (pc := 0) 0 (v := .ref a0) (i := 0) rfl rfl rfl dX12_pass_0 ?_
  refine kz_iconst (pc := 1) (v := 0) (by decide) dX12_pass_1 ?_
  obtain ⟨fs1, hM, hlen, h⟩ := h
  refine kz_putf (pc := 2) (k := 9) kcX12 hM (by decide) hlen kw_1387 rfl rfl rfl dX12_pass_2 ?_
  refine kz_aload_n (pc := 5) 0 (v := .ref a0) (i := 0) rfl rfl rfl dX12_pass_5 ?_
  refine kz_iload_n (pc := 6) 1 (i := 1) rfl rfl dX12_pass_6 ?_
  refine kz_iconst (pc := 7) (v := 1) (by decide) dX12_pass_7 ?_
  refine kz_bipush (pc := 8) (v := 99) (by decide) dX12_pass_8 ?_
  refine kz_callS (pc := 10) (μ' := mX12_inRange) (d' := d + 1) (mc' := 0) (ms' := 0) (As := [.int p1, .int 1, .int 99]) (st := [.ref a0]) (c := 0) (sl := 0) kmX12_inRange kw_1491 (by omega) rfl (Nat.le_of_ble_eq_true rfl) (Nat.le_refl _) (Nat.le_refl _) dX12_pass_10 (fun E M9 hx => kz_Tout rfl (Nat.le_refl _) (Nat.le_refl _) hx) (kz_Cmono (fun v M2 h => ?_) (fun _ _ h => h) h)
  obtain ⟨r3, rfl, h⟩ := h
  show kz_Z G (d + 2) 0 0 mX12_pass Qr Qx 13 [(0, .ref a0), (1, .int p1)] [.int r3, .ref a0] M2 0 0
  refine kz_if_ne (pc := 13) (tgt := 20) (by decide) dX12_pass_13 (fun hb => ?_) (fun hb => ?_)
  · replace h := h.1 hb
    refine kz_iconst (pc := 20) (v := 0) (by decide) dX12_pass_20 ?_
    refine kz_iconst (pc := 21) (v := 1) (by decide) dX12_pass_21 ?_
    obtain ⟨⟨fs48, he⟩, h⟩ := h
    refine kz_callV (pc := 22) (μ' := mX12_fails) (ci := 11) (q := (RX12, TX12, 32)) (b := a0) (d' := d + 1) (mc' := 0) (ms' := 0) (As := [.int 0, .int 1]) (st := []) (c := 0) (sl := 0) kmX12_fails kw_1653 (by omega) rfl (Nat.le_of_ble_eq_true rfl) he rfl rfl (Nat.le_refl _) (Nat.le_refl _) dX12_pass_22 (fun E M9 hx => kz_Tout rfl (Nat.le_refl _) (Nat.le_refl _) hx) (kz_Cmono (fun v M5 h => ?_) (fun _ _ h => h) h)
    obtain ⟨r6, rfl, h⟩ := h
    show kz_Z G (d + 2) 0 0 mX12_pass Qr Qx 25 [(0, .ref a0), (1, .int p1)] [.int r6] M5 0 0
    refine kz_if_ne (pc := 25) (tgt := 55) (by decide) dX12_pass_25 (fun hb => ?_) (fun hb => ?_)
    · replace h := h.1 hb
      refine kz_iconst (pc := 55) (v := 0) (by decide) dX12_pass_55 ?_
      exact kz_iret (pc := 56) rfl (Nat.le_refl _) (Nat.le_refl _) dX12_pass_56 h
    · replace h := h.2 hb
      refine kz_aload_n (pc := 28) 0 (v := .ref a0) (i := 0) rfl rfl rfl dX12_pass_28 ?_
      refine kz_aload_n (pc := 29) 0 (v := .ref a0) (i := 0) rfl rfl rfl dX12_pass_29 ?_
      obtain ⟨fs8, v9, hM, hv, h⟩ := h
      refine kz_getf (pc := 30) (k := 0) kcX12 hM hv (by decide) kw_1378 dX12_pass_30 ?_
      refine kz_iconst (pc := 33) (v := 2) (by decide) dX12_pass_33 ?_
      obtain ⟨n10, f11, hM, hi, h⟩ := h
      refine kz_iald (pc := 34) hM hi dX12_pass_34 ?_
      refine kz_iload_n (pc := 35) 1 (i := 1) rfl rfl dX12_pass_35 ?_
      refine kz_iadd (pc := 36) dX12_pass_36 ?_
      refine kz_sipush (pc := 37) (v := 9999) (by decide) dX12_pass_37 ?_
      refine kz_icmp_le (pc := 40) (tgt := 47) (by decide) dX12_pass_40 (fun hb => ?_) (fun hb => ?_)
      · replace h := h.1 hb
        refine kz_iconst (pc := 47) (v := 0) (by decide) dX12_pass_47 ?_
        refine kz_iconst (pc := 48) (v := 2) (by decide) dX12_pass_48 ?_
        obtain ⟨⟨fs29, he⟩, h⟩ := h
        refine kz_callV (pc := 49) (μ' := mX12_fails) (ci := 11) (q := (RX12, TX12, 32)) (b := a0) (d' := d + 1) (mc' := 0) (ms' := 0) (As := [.int 0, .int 2]) (st := []) (c := 0) (sl := 0) kmX12_fails kw_1653 (by omega) rfl (Nat.le_of_ble_eq_true rfl) he rfl rfl (Nat.le_refl _) (Nat.le_refl _) dX12_pass_49 (fun E M9 hx => kz_Tout rfl (Nat.le_refl _) (Nat.le_refl _) hx) (kz_Cmono (fun v M12 h => ?_) (fun _ _ h => h) h)
        obtain ⟨r13, rfl, h⟩ := h
        show kz_Z G (d + 2) 0 0 mX12_pass Qr Qx 52 [(0, .ref a0), (1, .int p1)] [.int r13] M12 0 0
        refine kz_if_eq (pc := 52) (tgt := 57) (by decide) dX12_pass_52 (fun hb => ?_) (fun hb => ?_)
        · replace h := h.1 hb
          refine kz_aload_n (pc := 57) 0 (v := .ref a0) (i := 0) rfl rfl rfl dX12_pass_57 ?_
          obtain ⟨⟨fs28, he⟩, h⟩ := h
          refine kz_callV (pc := 58) (μ' := mX12_remembers) (ci := 11) (q := (RX12, TX12, 32)) (b := a0) (d' := d + 1) (mc' := 0) (ms' := 0) (As := []) (st := []) (c := 0) (sl := 0) kmX12_remembers kw_1935 (by omega) rfl (Nat.le_of_ble_eq_true rfl) he rfl rfl (Nat.le_refl _) (Nat.le_refl _) dX12_pass_58 (fun E M9 hx => kz_Tout rfl (Nat.le_refl _) (Nat.le_refl _) hx) (kz_Cmono (fun v M15 h => ?_) (fun _ _ h => h) h)
          obtain ⟨rfl, h⟩ := h
          show kz_Z G (d + 2) 0 0 mX12_pass Qr Qx 61 [(0, .ref a0), (1, .int p1)] [] M15 0 0
          refine kz_aload_n (pc := 61) 0 (v := .ref a0) (i := 0) rfl rfl rfl dX12_pass_61 ?_
          obtain ⟨fs18, v19, hM, hv, h⟩ := h
          refine kz_getf (pc := 62) (k := 0) kcX12 hM hv (by decide) kw_1378 dX12_pass_62 ?_
          refine kz_iconst (pc := 65) (v := 2) (by decide) dX12_pass_65 ?_
          refine kz_dup2_11 (pc := 66) rfl rfl dX12_pass_66 ?_
          obtain ⟨n20, f21, hM, hi, h⟩ := h
          refine kz_iald (pc := 67) hM hi dX12_pass_67 ?_
          refine kz_iload_n (pc := 68) 1 (i := 1) rfl rfl dX12_pass_68 ?_
          refine kz_iadd (pc := 69) dX12_pass_69 ?_
          obtain ⟨n22, f23, hM, hi, h⟩ := h
          refine kz_iast (pc := 70) hM hi dX12_pass_70 ?_
          refine kz_aload_n (pc := 71) 0 (v := .ref a0) (i := 0) rfl rfl rfl dX12_pass_71 ?_
          obtain ⟨fs24, v25, hM, hv, h⟩ := h
          refine kz_getf (pc := 72) (k := 0) kcX12 hM hv (by decide) kw_1378 dX12_pass_72 ?_
          refine kz_iconst (pc := 75) (v := 2) (by decide) dX12_pass_75 ?_
          obtain ⟨n26, f27, hM, hi, h⟩ := h
          refine kz_iald (pc := 76) hM hi dX12_pass_76 ?_
          exact kz_iret (pc := 77) rfl (Nat.le_refl _) (Nat.le_refl _) dX12_pass_77 h
        · replace h := h.2 hb
          refine kz_iconst (pc := 55) (v := 0) (by decide) dX12_pass_55 ?_
          exact kz_iret (pc := 56) rfl (Nat.le_refl _) (Nat.le_refl _) dX12_pass_56 h
      · replace h := h.2 hb
        refine kz_iconst (pc := 43) (v := 1) (by decide) dX12_pass_43 ?_
        refine kz_goto (pc := 44) (tgt := 48) (by decide) dX12_pass_44 ?_
        refine kz_iconst (pc := 48) (v := 2) (by decide) dX12_pass_48 ?_
        obtain ⟨⟨fs47, he⟩, h⟩ := h
        refine kz_callV (pc := 49) (μ' := mX12_fails) (ci := 11) (q := (RX12, TX12, 32)) (b := a0) (d' := d + 1) (mc' := 0) (ms' := 0) (As := [.int 1, .int 2]) (st := []) (c := 0) (sl := 0) kmX12_fails kw_1653 (by omega) rfl (Nat.le_of_ble_eq_true rfl) he rfl rfl (Nat.le_refl _) (Nat.le_refl _) dX12_pass_49 (fun E M9 hx => kz_Tout rfl (Nat.le_refl _) (Nat.le_refl _) hx) (kz_Cmono (fun v M30 h => ?_) (fun _ _ h => h) h)
        obtain ⟨r31, rfl, h⟩ := h
        show kz_Z G (d + 2) 0 0 mX12_pass Qr Qx 52 [(0, .ref a0), (1, .int p1)] [.int r31] M30 0 0
        refine kz_if_eq (pc := 52) (tgt := 57) (by decide) dX12_pass_52 (fun hb => ?_) (fun hb => ?_)
        · replace h := h.1 hb
          refine kz_aload_n (pc := 57) 0 (v := .ref a0) (i := 0) rfl rfl rfl dX12_pass_57 ?_
          obtain ⟨⟨fs46, he⟩, h⟩ := h
          refine kz_callV (pc := 58) (μ' := mX12_remembers) (ci := 11) (q := (RX12, TX12, 32)) (b := a0) (d' := d + 1) (mc' := 0) (ms' := 0) (As := []) (st := []) (c := 0) (sl := 0) kmX12_remembers kw_1935 (by omega) rfl (Nat.le_of_ble_eq_true rfl) he rfl rfl (Nat.le_refl _) (Nat.le_refl _) dX12_pass_58 (fun E M9 hx => kz_Tout rfl (Nat.le_refl _) (Nat.le_refl _) hx) (kz_Cmono (fun v M33 h => ?_) (fun _ _ h => h) h)
          obtain ⟨rfl, h⟩ := h
          show kz_Z G (d + 2) 0 0 mX12_pass Qr Qx 61 [(0, .ref a0), (1, .int p1)] [] M33 0 0
          refine kz_aload_n (pc := 61) 0 (v := .ref a0) (i := 0) rfl rfl rfl dX12_pass_61 ?_
          obtain ⟨fs36, v37, hM, hv, h⟩ := h
          refine kz_getf (pc := 62) (k := 0) kcX12 hM hv (by decide) kw_1378 dX12_pass_62 ?_
          refine kz_iconst (pc := 65) (v := 2) (by decide) dX12_pass_65 ?_
          refine kz_dup2_11 (pc := 66) rfl rfl dX12_pass_66 ?_
          obtain ⟨n38, f39, hM, hi, h⟩ := h
          refine kz_iald (pc := 67) hM hi dX12_pass_67 ?_
          refine kz_iload_n (pc := 68) 1 (i := 1) rfl rfl dX12_pass_68 ?_
          refine kz_iadd (pc := 69) dX12_pass_69 ?_
          obtain ⟨n40, f41, hM, hi, h⟩ := h
          refine kz_iast (pc := 70) hM hi dX12_pass_70 ?_
          refine kz_aload_n (pc := 71) 0 (v := .ref a0) (i := 0) rfl rfl rfl dX12_pass_71 ?_
          obtain ⟨fs42, v43, hM, hv, h⟩ := h
          refine kz_getf (pc := 72) (k := 0) kcX12 hM hv (by decide) kw_1378 dX12_pass_72 ?_
          refine kz_iconst (pc := 75) (v := 2) (by decide) dX12_pass_75 ?_
          obtain ⟨n44, f45, hM, hi, h⟩ := h
          refine kz_iald (pc := 76) hM hi dX12_pass_76 ?_
          exact kz_iret (pc := 77) rfl (Nat.le_refl _) (Nat.le_refl _) dX12_pass_77 h
        · replace h := h.2 hb
          refine kz_iconst (pc := 55) (v := 0) (by decide) dX12_pass_55 ?_
          exact kz_iret (pc := 56) rfl (Nat.le_refl _) (Nat.le_refl _) dX12_pass_56 h
  · replace h := h.2 hb
    refine kz_iconst (pc := 16) (v := 1) (by decide) dX12_pass_16 ?_
    refine kz_goto (pc := 17) (tgt := 21) (by decide) dX12_pass_17 ?_
    refine kz_iconst (pc := 21) (v := 1) (by decide) dX12_pass_21 ?_
    obtain ⟨⟨fs92, he⟩, h⟩ := h
    refine kz_callV (pc := 22) (μ' := mX12_fails) (ci := 11) (q := (RX12, TX12, 32)) (b := a0) (d' := d + 1) (mc' := 0) (ms' := 0) (As := [.int 1, .int 1]) (st := []) (c := 0) (sl := 0) kmX12_fails kw_1653 (by omega) rfl (Nat.le_of_ble_eq_true rfl) he rfl rfl (Nat.le_refl _) (Nat.le_refl _) dX12_pass_22 (fun E M9 hx => kz_Tout rfl (Nat.le_refl _) (Nat.le_refl _) hx) (kz_Cmono (fun v M49 h => ?_) (fun _ _ h => h) h)
    obtain ⟨r50, rfl, h⟩ := h
    show kz_Z G (d + 2) 0 0 mX12_pass Qr Qx 25 [(0, .ref a0), (1, .int p1)] [.int r50] M49 0 0
    refine kz_if_ne (pc := 25) (tgt := 55) (by decide) dX12_pass_25 (fun hb => ?_) (fun hb => ?_)
    · replace h := h.1 hb
      refine kz_iconst (pc := 55) (v := 0) (by decide) dX12_pass_55 ?_
      exact kz_iret (pc := 56) rfl (Nat.le_refl _) (Nat.le_refl _) dX12_pass_56 h
    · replace h := h.2 hb
      refine kz_aload_n (pc := 28) 0 (v := .ref a0) (i := 0) rfl rfl rfl dX12_pass_28 ?_
      refine kz_aload_n (pc := 29) 0 (v := .ref a0) (i := 0) rfl rfl rfl dX12_pass_29 ?_
      obtain ⟨fs52, v53, hM, hv, h⟩ := h
      refine kz_getf (pc := 30) (k := 0) kcX12 hM hv (by decide) kw_1378 dX12_pass_30 ?_
      refine kz_iconst (pc := 33) (v := 2) (by decide) dX12_pass_33 ?_
      obtain ⟨n54, f55, hM, hi, h⟩ := h
      refine kz_iald (pc := 34) hM hi dX12_pass_34 ?_
      refine kz_iload_n (pc := 35) 1 (i := 1) rfl rfl dX12_pass_35 ?_
      refine kz_iadd (pc := 36) dX12_pass_36 ?_
      refine kz_sipush (pc := 37) (v := 9999) (by decide) dX12_pass_37 ?_
      refine kz_icmp_le (pc := 40) (tgt := 47) (by decide) dX12_pass_40 (fun hb => ?_) (fun hb => ?_)
      · replace h := h.1 hb
        refine kz_iconst (pc := 47) (v := 0) (by decide) dX12_pass_47 ?_
        refine kz_iconst (pc := 48) (v := 2) (by decide) dX12_pass_48 ?_
        obtain ⟨⟨fs73, he⟩, h⟩ := h
        refine kz_callV (pc := 49) (μ' := mX12_fails) (ci := 11) (q := (RX12, TX12, 32)) (b := a0) (d' := d + 1) (mc' := 0) (ms' := 0) (As := [.int 0, .int 2]) (st := []) (c := 0) (sl := 0) kmX12_fails kw_1653 (by omega) rfl (Nat.le_of_ble_eq_true rfl) he rfl rfl (Nat.le_refl _) (Nat.le_refl _) dX12_pass_49 (fun E M9 hx => kz_Tout rfl (Nat.le_refl _) (Nat.le_refl _) hx) (kz_Cmono (fun v M56 h => ?_) (fun _ _ h => h) h)
        obtain ⟨r57, rfl, h⟩ := h
        show kz_Z G (d + 2) 0 0 mX12_pass Qr Qx 52 [(0, .ref a0), (1, .int p1)] [.int r57] M56 0 0
        refine kz_if_eq (pc := 52) (tgt := 57) (by decide) dX12_pass_52 (fun hb => ?_) (fun hb => ?_)
        · replace h := h.1 hb
          refine kz_aload_n (pc := 57) 0 (v := .ref a0) (i := 0) rfl rfl rfl dX12_pass_57 ?_
          obtain ⟨⟨fs72, he⟩, h⟩ := h
          refine kz_callV (pc := 58) (μ' := mX12_remembers) (ci := 11) (q := (RX12, TX12, 32)) (b := a0) (d' := d + 1) (mc' := 0) (ms' := 0) (As := []) (st := []) (c := 0) (sl := 0) kmX12_remembers kw_1935 (by omega) rfl (Nat.le_of_ble_eq_true rfl) he rfl rfl (Nat.le_refl _) (Nat.le_refl _) dX12_pass_58 (fun E M9 hx => kz_Tout rfl (Nat.le_refl _) (Nat.le_refl _) hx) (kz_Cmono (fun v M59 h => ?_) (fun _ _ h => h) h)
          obtain ⟨rfl, h⟩ := h
          show kz_Z G (d + 2) 0 0 mX12_pass Qr Qx 61 [(0, .ref a0), (1, .int p1)] [] M59 0 0
          refine kz_aload_n (pc := 61) 0 (v := .ref a0) (i := 0) rfl rfl rfl dX12_pass_61 ?_
          obtain ⟨fs62, v63, hM, hv, h⟩ := h
          refine kz_getf (pc := 62) (k := 0) kcX12 hM hv (by decide) kw_1378 dX12_pass_62 ?_
          refine kz_iconst (pc := 65) (v := 2) (by decide) dX12_pass_65 ?_
          refine kz_dup2_11 (pc := 66) rfl rfl dX12_pass_66 ?_
          obtain ⟨n64, f65, hM, hi, h⟩ := h
          refine kz_iald (pc := 67) hM hi dX12_pass_67 ?_
          refine kz_iload_n (pc := 68) 1 (i := 1) rfl rfl dX12_pass_68 ?_
          refine kz_iadd (pc := 69) dX12_pass_69 ?_
          obtain ⟨n66, f67, hM, hi, h⟩ := h
          refine kz_iast (pc := 70) hM hi dX12_pass_70 ?_
          refine kz_aload_n (pc := 71) 0 (v := .ref a0) (i := 0) rfl rfl rfl dX12_pass_71 ?_
          obtain ⟨fs68, v69, hM, hv, h⟩ := h
          refine kz_getf (pc := 72) (k := 0) kcX12 hM hv (by decide) kw_1378 dX12_pass_72 ?_
          refine kz_iconst (pc := 75) (v := 2) (by decide) dX12_pass_75 ?_
          obtain ⟨n70, f71, hM, hi, h⟩ := h
          refine kz_iald (pc := 76) hM hi dX12_pass_76 ?_
          exact kz_iret (pc := 77) rfl (Nat.le_refl _) (Nat.le_refl _) dX12_pass_77 h
        · replace h := h.2 hb
          refine kz_iconst (pc := 55) (v := 0) (by decide) dX12_pass_55 ?_
          exact kz_iret (pc := 56) rfl (Nat.le_refl _) (Nat.le_refl _) dX12_pass_56 h
      · replace h := h.2 hb
        refine kz_iconst (pc := 43) (v := 1) (by decide) dX12_pass_43 ?_
        refine kz_goto (pc := 44) (tgt := 48) (by decide) dX12_pass_44 ?_
        refine kz_iconst (pc := 48) (v := 2) (by decide) dX12_pass_48 ?_
        obtain ⟨⟨fs91, he⟩, h⟩ := h
        refine kz_callV (pc := 49) (μ' := mX12_fails) (ci := 11) (q := (RX12, TX12, 32)) (b := a0) (d' := d + 1) (mc' := 0) (ms' := 0) (As := [.int 1, .int 2]) (st := []) (c := 0) (sl := 0) kmX12_fails kw_1653 (by omega) rfl (Nat.le_of_ble_eq_true rfl) he rfl rfl (Nat.le_refl _) (Nat.le_refl _) dX12_pass_49 (fun E M9 hx => kz_Tout rfl (Nat.le_refl _) (Nat.le_refl _) hx) (kz_Cmono (fun v M74 h => ?_) (fun _ _ h => h) h)
        obtain ⟨r75, rfl, h⟩ := h
        show kz_Z G (d + 2) 0 0 mX12_pass Qr Qx 52 [(0, .ref a0), (1, .int p1)] [.int r75] M74 0 0
        refine kz_if_eq (pc := 52) (tgt := 57) (by decide) dX12_pass_52 (fun hb => ?_) (fun hb => ?_)
        · replace h := h.1 hb
          refine kz_aload_n (pc := 57) 0 (v := .ref a0) (i := 0) rfl rfl rfl dX12_pass_57 ?_
          obtain ⟨⟨fs90, he⟩, h⟩ := h
          refine kz_callV (pc := 58) (μ' := mX12_remembers) (ci := 11) (q := (RX12, TX12, 32)) (b := a0) (d' := d + 1) (mc' := 0) (ms' := 0) (As := []) (st := []) (c := 0) (sl := 0) kmX12_remembers kw_1935 (by omega) rfl (Nat.le_of_ble_eq_true rfl) he rfl rfl (Nat.le_refl _) (Nat.le_refl _) dX12_pass_58 (fun E M9 hx => kz_Tout rfl (Nat.le_refl _) (Nat.le_refl _) hx) (kz_Cmono (fun v M77 h => ?_) (fun _ _ h => h) h)
          obtain ⟨rfl, h⟩ := h
          show kz_Z G (d + 2) 0 0 mX12_pass Qr Qx 61 [(0, .ref a0), (1, .int p1)] [] M77 0 0
          refine kz_aload_n (pc := 61) 0 (v := .ref a0) (i := 0) rfl rfl rfl dX12_pass_61 ?_
          obtain ⟨fs80, v81, hM, hv, h⟩ := h
          refine kz_getf (pc := 62) (k := 0) kcX12 hM hv (by decide) kw_1378 dX12_pass_62 ?_
          refine kz_iconst (pc := 65) (v := 2) (by decide) dX12_pass_65 ?_
          refine kz_dup2_11 (pc := 66) rfl rfl dX12_pass_66 ?_
          obtain ⟨n82, f83, hM, hi, h⟩ := h
          refine kz_iald (pc := 67) hM hi dX12_pass_67 ?_
          refine kz_iload_n (pc := 68) 1 (i := 1) rfl rfl dX12_pass_68 ?_
          refine kz_iadd (pc := 69) dX12_pass_69 ?_
          obtain ⟨n84, f85, hM, hi, h⟩ := h
          refine kz_iast (pc := 70) hM hi dX12_pass_70 ?_
          refine kz_aload_n (pc := 71) 0 (v := .ref a0) (i := 0) rfl rfl rfl dX12_pass_71 ?_
          obtain ⟨fs86, v87, hM, hv, h⟩ := h
          refine kz_getf (pc := 72) (k := 0) kcX12 hM hv (by decide) kw_1378 dX12_pass_72 ?_
          refine kz_iconst (pc := 75) (v := 2) (by decide) dX12_pass_75 ?_
          obtain ⟨n88, f89, hM, hi, h⟩ := h
          refine kz_iald (pc := 76) hM hi dX12_pass_76 ?_
          exact kz_iret (pc := 77) rfl (Nat.le_refl _) (Nat.le_refl _) dX12_pass_77 h
        · replace h := h.2 hb
          refine kz_iconst (pc := 55) (v := 0) (by decide) dX12_pass_55 ?_
          exact kz_iret (pc := 56) rfl (Nat.le_refl _) (Nat.le_refl _) dX12_pass_56 h
theorem dX12_set_0 : decode cX12_set 0 = .ok (.aload_n 0, 1) := by decide +kernel
theorem dX12_set_1 : decode cX12_set 1 = .ok (.iconst 0, 1) := by decide +kernel
theorem dX12_set_2 : decode cX12_set 2 = .ok (.putfield 60, 3) := by decide +kernel
theorem dX12_set_5 : decode cX12_set 5 = .ok (.aload_n 0, 1) := by decide +kernel
theorem dX12_set_6 : decode cX12_set 6 = .ok (.iload_n 1, 1) := by decide +kernel
theorem dX12_set_7 : decode cX12_set 7 = .ok (.iload_n 2, 1) := by decide +kernel
theorem dX12_set_8 : decode cX12_set 8 = .ok (.invokestatic 404, 3) := by decide +kernel
theorem dX12_set_11 : decode cX12_set 11 = .ok (.ifCond .ne 7, 3) := by decide +kernel
theorem dX12_set_14 : decode cX12_set 14 = .ok (.iconst 1, 1) := by decide +kernel
theorem dX12_set_15 : decode cX12_set 15 = .ok (.goto 4, 3) := by decide +kernel
theorem dX12_set_18 : decode cX12_set 18 = .ok (.iconst 0, 1) := by decide +kernel
theorem dX12_set_19 : decode cX12_set 19 = .ok (.iconst 1, 1) := by decide +kernel
theorem dX12_set_20 : decode cX12_set 20 = .ok (.invokevirtual 310, 3) := by decide +kernel
theorem dX12_set_23 : decode cX12_set 23 = .ok (.ifCond .eq 5, 3) := by decide +kernel
theorem dX12_set_26 : decode cX12_set 26 = .ok (.iconst 0, 1) := by decide +kernel
theorem dX12_set_27 : decode cX12_set 27 = .ok (.ireturn, 1) := by decide +kernel
theorem dX12_set_28 : decode cX12_set 28 = .ok (.aload_n 0, 1) := by decide +kernel
theorem dX12_set_29 : decode cX12_set 29 = .ok (.invokevirtual 413, 3) := by decide +kernel
theorem dX12_set_32 : decode cX12_set 32 = .ok (.aload_n 0, 1) := by decide +kernel
theorem dX12_set_33 : decode cX12_set 33 = .ok (.iload_n 1, 1) := by decide +kernel
theorem dX12_set_34 : decode cX12_set 34 = .ok (.invokevirtual 141, 3) := by decide +kernel
theorem dX12_set_37 : decode cX12_set 37 = .ok (.istore_n 3, 1) := by decide +kernel
theorem dX12_set_38 : decode cX12_set 38 = .ok (.aload_n 0, 1) := by decide +kernel
theorem dX12_set_39 : decode cX12_set 39 = .ok (.iload_n 1, 1) := by decide +kernel
theorem dX12_set_40 : decode cX12_set 40 = .ok (.iload_n 2, 1) := by decide +kernel
theorem dX12_set_41 : decode cX12_set 41 = .ok (.invokevirtual 63, 3) := by decide +kernel
theorem dX12_set_44 : decode cX12_set 44 = .ok (.iload_n 3, 1) := by decide +kernel
theorem dX12_set_45 : decode cX12_set 45 = .ok (.ireturn, 1) := by decide +kernel
theorem rX12_set_0 {G : kz_G} {d : Nat} {Qr : Option Value → kz_M → Prop} {Qx : String → kz_M → Prop} {a0 : Nat} {p1 : Int32} {p2 : Int32}  {M : kz_M} (h : ∃ fs1, (M).1 a0 = some (.inl (11, fs1)) ∧ 9 < fs1.length ∧ (kz_C G (d + 1) 0 0 mX12_mayBe [.int p1, .int p2] (kz_up M a0 (.inl (11, fs1.set 9 (.int 0)))) (fun v M2 => ∃ r3 : Int32, v = some (.int r3) ∧ ((¬ r3 = 0 → (∃ fs20, (M2).1 a0 = some (.inl (11, fs20))) ∧ kz_C G (d + 1) 0 0 mX12_fails [.ref a0, .int 0, .int 1] M2 (fun v M5 => ∃ r6 : Int32, v = some (.int r6) ∧ ((r6 = 0 → (∃ fs19, (M5).1 a0 = some (.inl (11, fs19))) ∧ kz_C G (d + 1) 0 0 mX12_remembers [.ref a0] M5 (fun v M8 => v = none ∧ ((∃ fs18, (M8).1 a0 = some (.inl (11, fs18))) ∧ kz_C G (d + 1) 0 0 mX12_its [.ref a0, .int p1] M8 (fun v M11 => ∃ r12 : Int32, v = some (.int r12) ∧ ((∃ fs17, (M11).1 a0 = some (.inl (11, fs17))) ∧ kz_C G (d + 1) 0 0 mX12_sets [.ref a0, .int p1, .int p2] M11 (fun v M14 => v = none ∧ (Qr (some (.int r12)) M14)) Qx)) Qx)) Qx) ∧ (¬ r6 = 0 → Qr (some (.int 0)) M5))) Qx) ∧ (r3 = 0 → (∃ fs36, (M2).1 a0 = some (.inl (11, fs36))) ∧ kz_C G (d + 1) 0 0 mX12_fails [.ref a0, .int 1, .int 1] M2 (fun v M21 => ∃ r22 : Int32, v = some (.int r22) ∧ ((r22 = 0 → (∃ fs35, (M21).1 a0 = some (.inl (11, fs35))) ∧ kz_C G (d + 1) 0 0 mX12_remembers [.ref a0] M21 (fun v M24 => v = none ∧ ((∃ fs34, (M24).1 a0 = some (.inl (11, fs34))) ∧ kz_C G (d + 1) 0 0 mX12_its [.ref a0, .int p1] M24 (fun v M27 => ∃ r28 : Int32, v = some (.int r28) ∧ ((∃ fs33, (M27).1 a0 = some (.inl (11, fs33))) ∧ kz_C G (d + 1) 0 0 mX12_sets [.ref a0, .int p1, .int p2] M27 (fun v M30 => v = none ∧ (Qr (some (.int r28)) M30)) Qx)) Qx)) Qx) ∧ (¬ r22 = 0 → Qr (some (.int 0)) M21))) Qx))) Qx)) : kz_C G (d + 2) 0 0 mX12_set [.ref a0, .int p1, .int p2] M Qr Qx := by
  refine kz_enter (n := 2) kmX12_set.1 (Nat.le_of_ble_eq_true rfl) (ls := [(0, .ref a0), (1, .int p1), (2, .int p2)]) rfl ?_
  refine kz_aload_n (pc := 0) 0 (v := .ref a0) (i := 0) rfl rfl rfl dX12_set_0 ?_
  refine kz_iconst (pc := 1) (v := 0) (by decide) dX12_set_1 ?_
  obtain ⟨fs1, hM, hlen, h⟩ := h
  refine kz_putf (pc := 2) (k := 9) kcX12 hM (by decide) hlen kw_1387 rfl rfl rfl dX12_set_2 ?_
  refine kz_aload_n (pc := 5) 0 (v := .ref a0) (i := 0) rfl rfl rfl dX12_set_5 ?_
  refine kz_iload_n (pc := 6) 1 (i := 1) rfl rfl dX12_set_6 ?_
  refine kz_iload_n (pc := 7) 2 (i := 2) rfl rfl dX12_set_7 ?_
  refine kz_callS (pc := 8) (μ' := mX12_mayBe) (d' := d + 1) (mc' := 0) (ms' := 0) (As := [.int p1, .int p2]) (st := [.ref a0]) (c := 0) (sl := 0) kmX12_mayBe kw_1908 (by omega) rfl (Nat.le_of_ble_eq_true rfl) (Nat.le_refl _) (Nat.le_refl _) dX12_set_8 (fun E M9 hx => kz_Tout rfl (Nat.le_refl _) (Nat.le_refl _) hx) (kz_Cmono (fun v M2 h => ?_) (fun _ _ h => h) h)
  obtain ⟨r3, rfl, h⟩ := h
  show kz_Z G (d + 2) 0 0 mX12_set Qr Qx 11 [(0, .ref a0), (1, .int p1), (2, .int p2)] [.int r3, .ref a0] M2 0 0
  refine kz_if_ne (pc := 11) (tgt := 18) (by decide) dX12_set_11 (fun hb => ?_) (fun hb => ?_)
  · replace h := h.1 hb
    refine kz_iconst (pc := 18) (v := 0) (by decide) dX12_set_18 ?_
    refine kz_iconst (pc := 19) (v := 1) (by decide) dX12_set_19 ?_
    obtain ⟨⟨fs20, he⟩, h⟩ := h
    refine kz_callV (pc := 20) (μ' := mX12_fails) (ci := 11) (q := (RX12, TX12, 32)) (b := a0) (d' := d + 1) (mc' := 0) (ms' := 0) (As := [.int 0, .int 1]) (st := []) (c := 0) (sl := 0) kmX12_fails kw_1653 (by omega) rfl (Nat.le_of_ble_eq_true rfl) he rfl rfl (Nat.le_refl _) (Nat.le_refl _) dX12_set_20 (fun E M9 hx => kz_Tout rfl (Nat.le_refl _) (Nat.le_refl _) hx) (kz_Cmono (fun v M5 h => ?_) (fun _ _ h => h) h)
    obtain ⟨r6, rfl, h⟩ := h
    show kz_Z G (d + 2) 0 0 mX12_set Qr Qx 23 [(0, .ref a0), (1, .int p1), (2, .int p2)] [.int r6] M5 0 0
    refine kz_if_eq (pc := 23) (tgt := 28) (by decide) dX12_set_23 (fun hb => ?_) (fun hb => ?_)
    · replace h := h.1 hb
      refine kz_aload_n (pc := 28) 0 (v := .ref a0) (i := 0) rfl rfl rfl dX12_set_28 ?_
      obtain ⟨⟨fs19, he⟩, h⟩ := h
      refine kz_callV (pc := 29) (μ' := mX12_remembers) (ci := 11) (q := (RX12, TX12, 32)) (b := a0) (d' := d + 1) (mc' := 0) (ms' := 0) (As := []) (st := []) (c := 0) (sl := 0) kmX12_remembers kw_1935 (by omega) rfl (Nat.le_of_ble_eq_true rfl) he rfl rfl (Nat.le_refl _) (Nat.le_refl _) dX12_set_29 (fun E M9 hx => kz_Tout rfl (Nat.le_refl _) (Nat.le_refl _) hx) (kz_Cmono (fun v M8 h => ?_) (fun _ _ h => h) h)
      obtain ⟨rfl, h⟩ := h
      show kz_Z G (d + 2) 0 0 mX12_set Qr Qx 32 [(0, .ref a0), (1, .int p1), (2, .int p2)] [] M8 0 0
      refine kz_aload_n (pc := 32) 0 (v := .ref a0) (i := 0) rfl rfl rfl dX12_set_32 ?_
      refine kz_iload_n (pc := 33) 1 (i := 1) rfl rfl dX12_set_33 ?_
      obtain ⟨⟨fs18, he⟩, h⟩ := h
      refine kz_callV (pc := 34) (μ' := mX12_its) (ci := 11) (q := (RX12, TX12, 32)) (b := a0) (d' := d + 1) (mc' := 0) (ms' := 0) (As := [.int p1]) (st := []) (c := 0) (sl := 0) kmX12_its kw_1657 (by omega) rfl (Nat.le_of_ble_eq_true rfl) he rfl rfl (Nat.le_refl _) (Nat.le_refl _) dX12_set_34 (fun E M9 hx => kz_Tout rfl (Nat.le_refl _) (Nat.le_refl _) hx) (kz_Cmono (fun v M11 h => ?_) (fun _ _ h => h) h)
      obtain ⟨r12, rfl, h⟩ := h
      show kz_Z G (d + 2) 0 0 mX12_set Qr Qx 37 [(0, .ref a0), (1, .int p1), (2, .int p2)] [.int r12] M11 0 0
      refine kz_istore_n (pc := 37) (i := 3) (ls' := [(0, .ref a0), (1, .int p1), (2, .int p2)]) rfl (by decide) rfl dX12_set_37 ?_
      refine kz_aload_n (pc := 38) 1 (v := .ref a0) (i := 0) rfl rfl rfl dX12_set_38 ?_
      refine kz_iload_n (pc := 39) 2 (i := 1) rfl rfl dX12_set_39 ?_
      refine kz_iload_n (pc := 40) 3 (i := 2) rfl rfl dX12_set_40 ?_
      obtain ⟨⟨fs17, he⟩, h⟩ := h
      refine kz_callV (pc := 41) (μ' := mX12_sets) (ci := 11) (q := (RX12, TX12, 32)) (b := a0) (d' := d + 1) (mc' := 0) (ms' := 0) (As := [.int p1, .int p2]) (st := []) (c := 0) (sl := 0) kmX12_sets kw_1374 (by omega) rfl (Nat.le_of_ble_eq_true rfl) he rfl rfl (Nat.le_refl _) (Nat.le_refl _) dX12_set_41 (fun E M9 hx => kz_Tout rfl (Nat.le_refl _) (Nat.le_refl _) hx) (kz_Cmono (fun v M14 h => ?_) (fun _ _ h => h) h)
      obtain ⟨rfl, h⟩ := h
      show kz_Z G (d + 2) 0 0 mX12_set Qr Qx 44 [(3, .int r12), (0, .ref a0), (1, .int p1), (2, .int p2)] [] M14 0 0
      refine kz_iload_n (pc := 44) 0 (i := 3) rfl rfl dX12_set_44 ?_
      exact kz_iret (pc := 45) rfl (Nat.le_refl _) (Nat.le_refl _) dX12_set_45 h
    · replace h := h.2 hb
      refine kz_iconst (pc := 26) (v := 0) (by decide) dX12_set_26 ?_
      exact kz_iret (pc := 27) rfl (Nat.le_refl _) (Nat.le_refl _) dX12_set_27 h
  · replace h := h.2 hb
    refine kz_iconst (pc := 14) (v := 1) (by decide) dX12_set_14 ?_
    refine kz_goto (pc := 15) (tgt := 19) (by decide) dX12_set_15 ?_
    refine kz_iconst (pc := 19) (v := 1) (by decide) dX12_set_19 ?_
    obtain ⟨⟨fs36, he⟩, h⟩ := h
    refine kz_callV (pc := 20) (μ' := mX12_fails) (ci := 11) (q := (RX12, TX12, 32)) (b := a0) (d' := d + 1) (mc' := 0) (ms' := 0) (As := [.int 1, .int 1]) (st := []) (c := 0) (sl := 0) kmX12_fails kw_1653 (by omega) rfl (Nat.le_of_ble_eq_true rfl) he rfl rfl (Nat.le_refl _) (Nat.le_refl _) dX12_set_20 (fun E M9 hx => kz_Tout rfl (Nat.le_refl _) (Nat.le_refl _) hx) (kz_Cmono (fun v M21 h => ?_) (fun _ _ h => h) h)
    obtain ⟨r22, rfl, h⟩ := h
    show kz_Z G (d + 2) 0 0 mX12_set Qr Qx 23 [(0, .ref a0), (1, .int p1), (2, .int p2)] [.int r22] M21 0 0
    refine kz_if_eq (pc := 23) (tgt := 28) (by decide) dX12_set_23 (fun hb => ?_) (fun hb => ?_)
    · replace h := h.1 hb
      refine kz_aload_n (pc := 28) 0 (v := .ref a0) (i := 0) rfl rfl rfl dX12_set_28 ?_
      obtain ⟨⟨fs35, he⟩, h⟩ := h
      refine kz_callV (pc := 29) (μ' := mX12_remembers) (ci := 11) (q := (RX12, TX12, 32)) (b := a0) (d' := d + 1) (mc' := 0) (ms' := 0) (As := []) (st := []) (c := 0) (sl := 0) kmX12_remembers kw_1935 (by omega) rfl (Nat.le_of_ble_eq_true rfl) he rfl rfl (Nat.le_refl _) (Nat.le_refl _) dX12_set_29 (fun E M9 hx => kz_Tout rfl (Nat.le_refl _) (Nat.le_refl _) hx) (kz_Cmono (fun v M24 h => ?_) (fun _ _ h => h) h)
      obtain ⟨rfl, h⟩ := h
      show kz_Z G (d + 2) 0 0 mX12_set Qr Qx 32 [(0, .ref a0), (1, .int p1), (2, .int p2)] [] M24 0 0
      refine kz_aload_n (pc := 32) 0 (v := .ref a0) (i := 0) rfl rfl rfl dX12_set_32 ?_
      refine kz_iload_n (pc := 33) 1 (i := 1) rfl rfl dX12_set_33 ?_
      obtain ⟨⟨fs34, he⟩, h⟩ := h
      refine kz_callV (pc := 34) (μ' := mX12_its) (ci := 11) (q := (RX12, TX12, 32)) (b := a0) (d' := d + 1) (mc' := 0) (ms' := 0) (As := [.int p1]) (st := []) (c := 0) (sl := 0) kmX12_its kw_1657 (by omega) rfl (Nat.le_of_ble_eq_true rfl) he rfl rfl (Nat.le_refl _) (Nat.le_refl _) dX12_set_34 (fun E M9 hx => kz_Tout rfl (Nat.le_refl _) (Nat.le_refl _) hx) (kz_Cmono (fun v M27 h => ?_) (fun _ _ h => h) h)
      obtain ⟨r28, rfl, h⟩ := h
      show kz_Z G (d + 2) 0 0 mX12_set Qr Qx 37 [(0, .ref a0), (1, .int p1), (2, .int p2)] [.int r28] M27 0 0
      refine kz_istore_n (pc := 37) (i := 3) (ls' := [(0, .ref a0), (1, .int p1), (2, .int p2)]) rfl (by decide) rfl dX12_set_37 ?_
      refine kz_aload_n (pc := 38) 1 (v := .ref a0) (i := 0) rfl rfl rfl dX12_set_38 ?_
      refine kz_iload_n (pc := 39) 2 (i := 1) rfl rfl dX12_set_39 ?_
      refine kz_iload_n (pc := 40) 3 (i := 2) rfl rfl dX12_set_40 ?_
      obtain ⟨⟨fs33, he⟩, h⟩ := h
      refine kz_callV (pc := 41) (μ' := mX12_sets) (ci := 11) (q := (RX12, TX12, 32)) (b := a0) (d' := d + 1) (mc' := 0) (ms' := 0) (As := [.int p1, .int p2]) (st := []) (c := 0) (sl := 0) kmX12_sets kw_1374 (by omega) rfl (Nat.le_of_ble_eq_true rfl) he rfl rfl (Nat.le_refl _) (Nat.le_refl _) dX12_set_41 (fun E M9 hx => kz_Tout rfl (Nat.le_refl _) (Nat.le_refl _) hx) (kz_Cmono (fun v M30 h => ?_) (fun _ _ h => h) h)
      obtain ⟨rfl, h⟩ := h
      show kz_Z G (d + 2) 0 0 mX12_set Qr Qx 44 [(3, .int r28), (0, .ref a0), (1, .int p1), (2, .int p2)] [] M30 0 0
      refine kz_iload_n (pc := 44) 0 (i := 3) rfl rfl dX12_set_44 ?_
      exact kz_iret (pc := 45) rfl (Nat.le_refl _) (Nat.le_refl _) dX12_set_45 h
    · replace h := h.2 hb
      refine kz_iconst (pc := 26) (v := 0) (by decide) dX12_set_26 ?_
      exact kz_iret (pc := 27) rfl (Nat.le_refl _) (Nat.le_refl _) dX12_set_27 h
theorem dX12_undo_0 : decode cX12_undo 0 = .ok (.aload_n 0, 1) := by decide +kernel
theorem dX12_undo_1 : decode cX12_undo 1 = .ok (.iconst 0, 1) := by decide +kernel
theorem dX12_undo_2 : decode cX12_undo 2 = .ok (.putfield 60, 3) := by decide +kernel
theorem dX12_undo_5 : decode cX12_undo 5 = .ok (.aload_n 0, 1) := by decide +kernel
theorem dX12_undo_6 : decode cX12_undo 6 = .ok (.aload_n 0, 1) := by decide +kernel
theorem dX12_undo_7 : decode cX12_undo 7 = .ok (.getfield 78, 3) := by decide +kernel
theorem dX12_undo_10 : decode cX12_undo 10 = .ok (.ifCond .ne 7, 3) := by decide +kernel
theorem dX12_undo_13 : decode cX12_undo 13 = .ok (.iconst 1, 1) := by decide +kernel
theorem dX12_undo_14 : decode cX12_undo 14 = .ok (.goto 4, 3) := by decide +kernel
theorem dX12_undo_17 : decode cX12_undo 17 = .ok (.iconst 0, 1) := by decide +kernel
theorem dX12_undo_18 : decode cX12_undo 18 = .ok (.iconst 1, 1) := by decide +kernel
theorem dX12_undo_19 : decode cX12_undo 19 = .ok (.invokevirtual 310, 3) := by decide +kernel
theorem dX12_undo_22 : decode cX12_undo 22 = .ok (.ifCond .eq 5, 3) := by decide +kernel
theorem dX12_undo_25 : decode cX12_undo 25 = .ok (.iconst 0, 1) := by decide +kernel
theorem dX12_undo_26 : decode cX12_undo 26 = .ok (.ireturn, 1) := by decide +kernel
theorem dX12_undo_27 : decode cX12_undo 27 = .ok (.aload_n 0, 1) := by decide +kernel
theorem dX12_undo_28 : decode cX12_undo 28 = .ok (.dup, 1) := by decide +kernel
theorem dX12_undo_29 : decode cX12_undo 29 = .ok (.getfield 78, 3) := by decide +kernel
theorem dX12_undo_32 : decode cX12_undo 32 = .ok (.iconst 1, 1) := by decide +kernel
theorem dX12_undo_33 : decode cX12_undo 33 = .ok (.isub, 1) := by decide +kernel
theorem dX12_undo_34 : decode cX12_undo 34 = .ok (.putfield 78, 3) := by decide +kernel
theorem dX12_undo_37 : decode cX12_undo 37 = .ok (.aload_n 0, 1) := by decide +kernel
theorem dX12_undo_38 : decode cX12_undo 38 = .ok (.getfield 19, 3) := by decide +kernel
theorem dX12_undo_41 : decode cX12_undo 41 = .ok (.sipush 3813, 3) := by decide +kernel
theorem dX12_undo_44 : decode cX12_undo 44 = .ok (.aload_n 0, 1) := by decide +kernel
theorem dX12_undo_45 : decode cX12_undo 45 = .ok (.getfield 78, 3) := by decide +kernel
theorem dX12_undo_48 : decode cX12_undo 48 = .ok (.imul, 1) := by decide +kernel
theorem dX12_undo_49 : decode cX12_undo 49 = .ok (.aload_n 0, 1) := by decide +kernel
theorem dX12_undo_50 : decode cX12_undo 50 = .ok (.getfield 7, 3) := by decide +kernel
theorem dX12_undo_53 : decode cX12_undo 53 = .ok (.iconst 0, 1) := by decide +kernel
theorem dX12_undo_54 : decode cX12_undo 54 = .ok (.sipush 3813, 3) := by decide +kernel
theorem dX12_undo_57 : decode cX12_undo 57 = .ok (.invokestatic 81, 3) := by decide +kernel
theorem dX12_undo_60 : decode cX12_undo 60 = .ok (.aload_n 0, 1) := by decide +kernel
theorem dX12_undo_61 : decode cX12_undo 61 = .ok (.getfield 29, 3) := by decide +kernel
theorem dX12_undo_64 : decode cX12_undo 64 = .ok (.sipush 732, 3) := by decide +kernel
theorem dX12_undo_67 : decode cX12_undo 67 = .ok (.aload_n 0, 1) := by decide +kernel
theorem dX12_undo_68 : decode cX12_undo 68 = .ok (.getfield 78, 3) := by decide +kernel
theorem dX12_undo_71 : decode cX12_undo 71 = .ok (.imul, 1) := by decide +kernel
theorem dX12_undo_72 : decode cX12_undo 72 = .ok (.aload_n 0, 1) := by decide +kernel
theorem dX12_undo_73 : decode cX12_undo 73 = .ok (.getfield 22, 3) := by decide +kernel
theorem dX12_undo_76 : decode cX12_undo 76 = .ok (.iconst 0, 1) := by decide +kernel
theorem dX12_undo_77 : decode cX12_undo 77 = .ok (.sipush 732, 3) := by decide +kernel
theorem dX12_undo_80 : decode cX12_undo 80 = .ok (.invokestatic 85, 3) := by decide +kernel
theorem dX12_undo_83 : decode cX12_undo 83 = .ok (.aload_n 0, 1) := by decide +kernel
theorem dX12_undo_84 : decode cX12_undo 84 = .ok (.getfield 78, 3) := by decide +kernel
theorem dX12_undo_87 : decode cX12_undo 87 = .ok (.ireturn, 1) := by decide +kernel
theorem rX12_undo_0 {G : kz_G} {d : Nat} {Qr : Option Value → kz_M → Prop} {Qx : String → kz_M → Prop} {a0 : Nat}  {M : kz_M} (h : ∃ fs1, (M).1 a0 = some (.inl (11, fs1)) ∧ 9 < fs1.length ∧ (∃ fs2 v3, ((kz_up M a0 (.inl (11, fs1.set 9 (.int 0))))).1 a0 = some (.inl (11, fs2)) ∧ fs2[7]? = some (.int v3) ∧ ((¬ v3 = 0 → (∃ fs32, ((kz_up M a0 (.inl (11, fs1.set 9 (.int 0))))).1 a0 = some (.inl (11, fs32))) ∧ kz_C G (d + 0) 0 0 mX12_fails [.ref a0, .int 0, .int 1] (kz_up M a0 (.inl (11, fs1.set 9 (.int 0)))) (fun v M4 => ∃ r5 : Int32, v = some (.int r5) ∧ ((r5 = 0 → ∃ fs7 v8, (M4).1 a0 = some (.inl (11, fs7)) ∧ fs7[7]? = some (.int v8) ∧ (∃ fs9, (M4).1 a0 = some (.inl (11, fs9)) ∧ 7 < fs9.length ∧ (∃ fs10 v11, ((kz_up M4 a0 (.inl (11, fs9.set 7 (.int (v8 - 1)))))).1 a0 = some (.inl (11, fs10)) ∧ fs10[3]? = some (.ref v11) ∧ (∃ fs12 v13, ((kz_up M4 a0 (.inl (11, fs9.set 7 (.int (v8 - 1)))))).1 a0 = some (.inl (11, fs12)) ∧ fs12[7]? = some (.int v13) ∧ (∃ fs14 v15, ((kz_up M4 a0 (.inl (11, fs9.set 7 (.int (v8 - 1)))))).1 a0 = some (.inl (11, fs14)) ∧ fs14[0]? = some (.ref v15) ∧ (kz_C G (d + 0) 0 0 mX12_copies [.ref v11, .int (3813 * v13), .ref v15, .int 0, .int 3813] (kz_up M4 a0 (.inl (11, fs9.set 7 (.int (v8 - 1))))) (fun v M16 => v = none ∧ (∃ fs19 v20, (M16).1 a0 = some (.inl (11, fs19)) ∧ fs19[6]? = some (.ref v20) ∧ (∃ fs21 v22, (M16).1 a0 = some (.inl (11, fs21)) ∧ fs21[7]? = some (.int v22) ∧ (∃ fs23 v24, (M16).1 a0 = some (.inl (11, fs23)) ∧ fs23[4]? = some (.ref v24) ∧ (kz_C G (d + 0) 0 0 mX12_copiesWords [.ref v20, .int (732 * v22), .ref v24, .int 0, .int 732] M16 (fun v M25 => v = none ∧ (∃ fs28 v29, (M25).1 a0 = some (.inl (11, fs28)) ∧ fs28[7]? = some (.int v29) ∧ (Qr (some (.int v29)) M25))) Qx))))) Qx)))))) ∧ (¬ r5 = 0 → Qr (some (.int 0)) M4))) Qx) ∧ (v3 = 0 → (∃ fs61, ((kz_up M a0 (.inl (11, fs1.set 9 (.int 0))))).1 a0 = some (.inl (11, fs61))) ∧ kz_C G (d + 0) 0 0 mX12_fails [.ref a0, .int 1, .int 1] (kz_up M a0 (.inl (11, fs1.set 9 (.int 0)))) (fun v M33 => ∃ r34 : Int32, v = some (.int r34) ∧ ((r34 = 0 → ∃ fs36 v37, (M33).1 a0 = some (.inl (11, fs36)) ∧ fs36[7]? = some (.int v37) ∧ (∃ fs38, (M33).1 a0 = some (.inl (11, fs38)) ∧ 7 < fs38.length ∧ (∃ fs39 v40, ((kz_up M33 a0 (.inl (11, fs38.set 7 (.int (v37 - 1)))))).1 a0 = some (.inl (11, fs39)) ∧ fs39[3]? = some (.ref v40) ∧ (∃ fs41 v42, ((kz_up M33 a0 (.inl (11, fs38.set 7 (.int (v37 - 1)))))).1 a0 = some (.inl (11, fs41)) ∧ fs41[7]? = some (.int v42) ∧ (∃ fs43 v44, ((kz_up M33 a0 (.inl (11, fs38.set 7 (.int (v37 - 1)))))).1 a0 = some (.inl (11, fs43)) ∧ fs43[0]? = some (.ref v44) ∧ (kz_C G (d + 0) 0 0 mX12_copies [.ref v40, .int (3813 * v42), .ref v44, .int 0, .int 3813] (kz_up M33 a0 (.inl (11, fs38.set 7 (.int (v37 - 1))))) (fun v M45 => v = none ∧ (∃ fs48 v49, (M45).1 a0 = some (.inl (11, fs48)) ∧ fs48[6]? = some (.ref v49) ∧ (∃ fs50 v51, (M45).1 a0 = some (.inl (11, fs50)) ∧ fs50[7]? = some (.int v51) ∧ (∃ fs52 v53, (M45).1 a0 = some (.inl (11, fs52)) ∧ fs52[4]? = some (.ref v53) ∧ (kz_C G (d + 0) 0 0 mX12_copiesWords [.ref v49, .int (732 * v51), .ref v53, .int 0, .int 732] M45 (fun v M54 => v = none ∧ (∃ fs57 v58, (M54).1 a0 = some (.inl (11, fs57)) ∧ fs57[7]? = some (.int v58) ∧ (Qr (some (.int v58)) M54))) Qx))))) Qx)))))) ∧ (¬ r34 = 0 → Qr (some (.int 0)) M33))) Qx)))) : kz_C G (d + 1) 0 0 mX12_undo [.ref a0] M Qr Qx := by
  refine kz_enter (n := 0) kmX12_undo.1 (Nat.le_of_ble_eq_true rfl) (ls := [(0, .ref a0)]) rfl ?_
  refine kz_aload_n (pc := 0) 0 (v := .ref a0) (i := 0) rfl rfl rfl dX12_undo_0 ?_
  refine kz_iconst (pc := 1) (v := 0) (by decide) dX12_undo_1 ?_
  obtain ⟨fs1, hM, hlen, h⟩ := h
  refine kz_putf (pc := 2) (k := 9) kcX12 hM (by decide) hlen kw_1387 rfl rfl rfl dX12_undo_2 ?_
  refine kz_aload_n (pc := 5) 0 (v := .ref a0) (i := 0) rfl rfl rfl dX12_undo_5 ?_
  refine kz_aload_n (pc := 6) 0 (v := .ref a0) (i := 0) rfl rfl rfl dX12_undo_6 ?_
  obtain ⟨fs2, v3, hM, hv, h⟩ := h
  refine kz_getf (pc := 7) (k := 7) kcX12 hM hv (by decide) kw_1385 dX12_undo_7 ?_
  refine kz_if_ne (pc := 10) (tgt := 17) (by decide) dX12_undo_10 (fun hb => ?_) (fun hb => ?_)
  · replace h := h.1 hb
    refine kz_iconst (pc := 17) (v := 0) (by decide) dX12_undo_17 ?_
    refine kz_iconst (pc := 18) (v := 1) (by decide) dX12_undo_18 ?_
    obtain ⟨⟨fs32, he⟩, h⟩ := h
    refine kz_callV (pc := 19) (μ' := mX12_fails) (ci := 11) (q := (RX12, TX12, 32)) (b := a0) (d' := d + 0) (mc' := 0) (ms' := 0) (As := [.int 0, .int 1]) (st := []) (c := 0) (sl := 0) kmX12_fails kw_1653 (by omega) rfl (Nat.le_of_ble_eq_true rfl) he rfl rfl (Nat.le_refl _) (Nat.le_refl _) dX12_undo_19 (fun E M9 hx => kz_Tout rfl (Nat.le_refl _) (Nat.le_refl _) hx) (kz_Cmono (fun v M4 h => ?_) (fun _ _ h => h) h)
    obtain ⟨r5, rfl, h⟩ := h
    show kz_Z G (d + 1) 0 0 mX12_undo Qr Qx 22 [(0, .ref a0)] [.int r5] M4 0 0
    refine kz_if_eq (pc := 22) (tgt := 27) (by decide) dX12_undo_22 (fun hb => ?_) (fun hb => ?_)
    · replace h := h.1 hb
      refine kz_aload_n (pc := 27) 0 (v := .ref a0) (i := 0) rfl rfl rfl dX12_undo_27 ?_
      refine kz_dup (pc := 28) rfl dX12_undo_28 ?_
      obtain ⟨fs7, v8, hM, hv, h⟩ := h
      refine kz_getf (pc := 29) (k := 7) kcX12 hM hv (by decide) kw_1385 dX12_undo_29 ?_
      refine kz_iconst (pc := 32) (v := 1) (by decide) dX12_undo_32 ?_
      refine kz_isub (pc := 33) dX12_undo_33 ?_
      obtain ⟨fs9, hM, hlen, h⟩ := h
      refine kz_putf (pc := 34) (k := 7) kcX12 hM (by decide) hlen kw_1385 rfl rfl rfl dX12_undo_34 ?_
      refine kz_aload_n (pc := 37) 0 (v := .ref a0) (i := 0) rfl rfl rfl dX12_undo_37 ?_
      obtain ⟨fs10, v11, hM, hv, h⟩ := h
      refine kz_getf (pc := 38) (k := 3) kcX12 hM hv (by decide) kw_1381 dX12_undo_38 ?_
      refine kz_sipush (pc := 41) (v := 3813) (by decide) dX12_undo_41 ?_
      refine kz_aload_n (pc := 44) 0 (v := .ref a0) (i := 0) rfl rfl rfl dX12_undo_44 ?_
      obtain ⟨fs12, v13, hM, hv, h⟩ := h
      refine kz_getf (pc := 45) (k := 7) kcX12 hM hv (by decide) kw_1385 dX12_undo_45 ?_
      refine kz_imul (pc := 48) dX12_undo_48 ?_
      refine kz_aload_n (pc := 49) 0 (v := .ref a0) (i := 0) rfl rfl rfl dX12_undo_49 ?_
      obtain ⟨fs14, v15, hM, hv, h⟩ := h
      refine kz_getf (pc := 50) (k := 0) kcX12 hM hv (by decide) kw_1378 dX12_undo_50 ?_
      refine kz_iconst (pc := 53) (v := 0) (by decide) dX12_undo_53 ?_
      refine kz_sipush (pc := 54) (v := 3813) (by decide) dX12_undo_54 ?_
      refine kz_callS (pc := 57) (μ' := mX12_copies) (d' := d + 0) (mc' := 0) (ms' := 0) (As := [.ref v11, .int (3813 * v13), .ref v15, .int 0, .int 3813]) (st := []) (c := 0) (sl := 0) kmX12_copies kw_1498 (by omega) rfl (Nat.le_of_ble_eq_true rfl) (Nat.le_refl _) (Nat.le_refl _) dX12_undo_57 (fun E M9 hx => kz_Tout rfl (Nat.le_refl _) (Nat.le_refl _) hx) (kz_Cmono (fun v M16 h => ?_) (fun _ _ h => h) h)
      obtain ⟨rfl, h⟩ := h
      show kz_Z G (d + 1) 0 0 mX12_undo Qr Qx 60 [(0, .ref a0)] [] M16 0 0
      refine kz_aload_n (pc := 60) 0 (v := .ref a0) (i := 0) rfl rfl rfl dX12_undo_60 ?_
      obtain ⟨fs19, v20, hM, hv, h⟩ := h
      refine kz_getf (pc := 61) (k := 6) kcX12 hM hv (by decide) kw_1384 dX12_undo_61 ?_
      refine kz_sipush (pc := 64) (v := 732) (by decide) dX12_undo_64 ?_
      refine kz_aload_n (pc := 67) 0 (v := .ref a0) (i := 0) rfl rfl rfl dX12_undo_67 ?_
      obtain ⟨fs21, v22, hM, hv, h⟩ := h
      refine kz_getf (pc := 68) (k := 7) kcX12 hM hv (by decide) kw_1385 dX12_undo_68 ?_
      refine kz_imul (pc := 71) dX12_undo_71 ?_
      refine kz_aload_n (pc := 72) 0 (v := .ref a0) (i := 0) rfl rfl rfl dX12_undo_72 ?_
      obtain ⟨fs23, v24, hM, hv, h⟩ := h
      refine kz_getf (pc := 73) (k := 4) kcX12 hM hv (by decide) kw_1382 dX12_undo_73 ?_
      refine kz_iconst (pc := 76) (v := 0) (by decide) dX12_undo_76 ?_
      refine kz_sipush (pc := 77) (v := 732) (by decide) dX12_undo_77 ?_
      refine kz_callS (pc := 80) (μ' := mX12_copiesWords) (d' := d + 0) (mc' := 0) (ms' := 0) (As := [.ref v20, .int (732 * v22), .ref v24, .int 0, .int 732]) (st := []) (c := 0) (sl := 0) kmX12_copiesWords kw_1824 (by omega) rfl (Nat.le_of_ble_eq_true rfl) (Nat.le_refl _) (Nat.le_refl _) dX12_undo_80 (fun E M9 hx => kz_Tout rfl (Nat.le_refl _) (Nat.le_refl _) hx) (kz_Cmono (fun v M25 h => ?_) (fun _ _ h => h) h)
      obtain ⟨rfl, h⟩ := h
      show kz_Z G (d + 1) 0 0 mX12_undo Qr Qx 83 [(0, .ref a0)] [] M25 0 0
      refine kz_aload_n (pc := 83) 0 (v := .ref a0) (i := 0) rfl rfl rfl dX12_undo_83 ?_
      obtain ⟨fs28, v29, hM, hv, h⟩ := h
      refine kz_getf (pc := 84) (k := 7) kcX12 hM hv (by decide) kw_1385 dX12_undo_84 ?_
      exact kz_iret (pc := 87) rfl (Nat.le_refl _) (Nat.le_refl _) dX12_undo_87 h
    · replace h := h.2 hb
      refine kz_iconst (pc := 25) (v := 0) (by decide) dX12_undo_25 ?_
      exact kz_iret (pc := 26) rfl (Nat.le_refl _) (Nat.le_refl _) dX12_undo_26 h
  · replace h := h.2 hb
    refine kz_iconst (pc := 13) (v := 1) (by decide) dX12_undo_13 ?_
    refine kz_goto (pc := 14) (tgt := 18) (by decide) dX12_undo_14 ?_
    refine kz_iconst (pc := 18) (v := 1) (by decide) dX12_undo_18 ?_
    obtain ⟨⟨fs61, he⟩, h⟩ := h
    refine kz_callV (pc := 19) (μ' := mX12_fails) (ci := 11) (q := (RX12, TX12, 32)) (b := a0) (d' := d + 0) (mc' := 0) (ms' := 0) (As := [.int 1, .int 1]) (st := []) (c := 0) (sl := 0) kmX12_fails kw_1653 (by omega) rfl (Nat.le_of_ble_eq_true rfl) he rfl rfl (Nat.le_refl _) (Nat.le_refl _) dX12_undo_19 (fun E M9 hx => kz_Tout rfl (Nat.le_refl _) (Nat.le_refl _) hx) (kz_Cmono (fun v M33 h => ?_) (fun _ _ h => h) h)
    obtain ⟨r34, rfl, h⟩ := h
    show kz_Z G (d + 1) 0 0 mX12_undo Qr Qx 22 [(0, .ref a0)] [.int r34] M33 0 0
    refine kz_if_eq (pc := 22) (tgt := 27) (by decide) dX12_undo_22 (fun hb => ?_) (fun hb => ?_)
    · replace h := h.1 hb
      refine kz_aload_n (pc := 27) 0 (v := .ref a0) (i := 0) rfl rfl rfl dX12_undo_27 ?_
      refine kz_dup (pc := 28) rfl dX12_undo_28 ?_
      obtain ⟨fs36, v37, hM, hv, h⟩ := h
      refine kz_getf (pc := 29) (k := 7) kcX12 hM hv (by decide) kw_1385 dX12_undo_29 ?_
      refine kz_iconst (pc := 32) (v := 1) (by decide) dX12_undo_32 ?_
      refine kz_isub (pc := 33) dX12_undo_33 ?_
      obtain ⟨fs38, hM, hlen, h⟩ := h
      refine kz_putf (pc := 34) (k := 7) kcX12 hM (by decide) hlen kw_1385 rfl rfl rfl dX12_undo_34 ?_
      refine kz_aload_n (pc := 37) 0 (v := .ref a0) (i := 0) rfl rfl rfl dX12_undo_37 ?_
      obtain ⟨fs39, v40, hM, hv, h⟩ := h
      refine kz_getf (pc := 38) (k := 3) kcX12 hM hv (by decide) kw_1381 dX12_undo_38 ?_
      refine kz_sipush (pc := 41) (v := 3813) (by decide) dX12_undo_41 ?_
      refine kz_aload_n (pc := 44) 0 (v := .ref a0) (i := 0) rfl rfl rfl dX12_undo_44 ?_
      obtain ⟨fs41, v42, hM, hv, h⟩ := h
      refine kz_getf (pc := 45) (k := 7) kcX12 hM hv (by decide) kw_1385 dX12_undo_45 ?_
      refine kz_imul (pc := 48) dX12_undo_48 ?_
      refine kz_aload_n (pc := 49) 0 (v := .ref a0) (i := 0) rfl rfl rfl dX12_undo_49 ?_
      obtain ⟨fs43, v44, hM, hv, h⟩ := h
      refine kz_getf (pc := 50) (k := 0) kcX12 hM hv (by decide) kw_1378 dX12_undo_50 ?_
      refine kz_iconst (pc := 53) (v := 0) (by decide) dX12_undo_53 ?_
      refine kz_sipush (pc := 54) (v := 3813) (by decide) dX12_undo_54 ?_
      refine kz_callS (pc := 57) (μ' := mX12_copies) (d' := d + 0) (mc' := 0) (ms' := 0) (As := [.ref v40, .int (3813 * v42), .ref v44, .int 0, .int 3813]) (st := []) (c := 0) (sl := 0) kmX12_copies kw_1498 (by omega) rfl (Nat.le_of_ble_eq_true rfl) (Nat.le_refl _) (Nat.le_refl _) dX12_undo_57 (fun E M9 hx => kz_Tout rfl (Nat.le_refl _) (Nat.le_refl _) hx) (kz_Cmono (fun v M45 h => ?_) (fun _ _ h => h) h)
      obtain ⟨rfl, h⟩ := h
      show kz_Z G (d + 1) 0 0 mX12_undo Qr Qx 60 [(0, .ref a0)] [] M45 0 0
      refine kz_aload_n (pc := 60) 0 (v := .ref a0) (i := 0) rfl rfl rfl dX12_undo_60 ?_
      obtain ⟨fs48, v49, hM, hv, h⟩ := h
      refine kz_getf (pc := 61) (k := 6) kcX12 hM hv (by decide) kw_1384 dX12_undo_61 ?_
      refine kz_sipush (pc := 64) (v := 732) (by decide) dX12_undo_64 ?_
      refine kz_aload_n (pc := 67) 0 (v := .ref a0) (i := 0) rfl rfl rfl dX12_undo_67 ?_
      obtain ⟨fs50, v51, hM, hv, h⟩ := h
      refine kz_getf (pc := 68) (k := 7) kcX12 hM hv (by decide) kw_1385 dX12_undo_68 ?_
      refine kz_imul (pc := 71) dX12_undo_71 ?_
      refine kz_aload_n (pc := 72) 0 (v := .ref a0) (i := 0) rfl rfl rfl dX12_undo_72 ?_
      obtain ⟨fs52, v53, hM, hv, h⟩ := h
      refine kz_getf (pc := 73) (k := 4) kcX12 hM hv (by decide) kw_1382 dX12_undo_73 ?_
      refine kz_iconst (pc := 76) (v := 0) (by decide) dX12_undo_76 ?_
      refine kz_sipush (pc := 77) (v := 732) (by decide) dX12_undo_77 ?_
      refine kz_callS (pc := 80) (μ' := mX12_copiesWords) (d' := d + 0) (mc' := 0) (ms' := 0) (As := [.ref v49, .int (732 * v51), .ref v53, .int 0, .int 732]) (st := []) (c := 0) (sl := 0) kmX12_copiesWords kw_1824 (by omega) rfl (Nat.le_of_ble_eq_true rfl) (Nat.le_refl _) (Nat.le_refl _) dX12_undo_80 (fun E M9 hx => kz_Tout rfl (Nat.le_refl _) (Nat.le_refl _) hx) (kz_Cmono (fun v M54 h => ?_) (fun _ _ h => h) h)
      obtain ⟨rfl, h⟩ := h
      show kz_Z G (d + 1) 0 0 mX12_undo Qr Qx 83 [(0, .ref a0)] [] M54 0 0
      refine kz_aload_n (pc := 83) 0 (v := .ref a0) (i := 0) rfl rfl rfl dX12_undo_83 ?_
      obtain ⟨fs57, v58, hM, hv, h⟩ := h
      refine kz_getf (pc := 84) (k := 7) kcX12 hM hv (by decide) kw_1385 dX12_undo_84 ?_
      exact kz_iret (pc := 87) rfl (Nat.le_refl _) (Nat.le_refl _) dX12_undo_87 h
    · replace h := h.2 hb
      refine kz_iconst (pc := 25) (v := 0) (by decide) dX12_undo_25 ?_
      exact kz_iret (pc := 26) rfl (Nat.le_refl _) (Nat.le_refl _) dX12_undo_26 h
theorem dX12_write_0 : decode cX12_write 0 = .ok (.aload_n 0, 1) := by decide +kernel
theorem dX12_write_1 : decode cX12_write 1 = .ok (.getfield 54, 3) := by decide +kernel
theorem dX12_write_4 : decode cX12_write 4 = .ok (.aload_n 0, 1) := by decide +kernel
theorem dX12_write_5 : decode cX12_write 5 = .ok (.getfield 428, 3) := by decide +kernel
theorem dX12_write_8 : decode cX12_write 8 = .ok (.iload_n 1, 1) := by decide +kernel
theorem dX12_write_9 : decode cX12_write 9 = .ok (.iastore, 1) := by decide +kernel
theorem dX12_write_10 : decode cX12_write 10 = .ok (.aload_n 0, 1) := by decide +kernel
theorem dX12_write_11 : decode cX12_write 11 = .ok (.dup, 1) := by decide +kernel
theorem dX12_write_12 : decode cX12_write 12 = .ok (.getfield 428, 3) := by decide +kernel
theorem dX12_write_15 : decode cX12_write 15 = .ok (.iconst 1, 1) := by decide +kernel
theorem dX12_write_16 : decode cX12_write 16 = .ok (.iadd, 1) := by decide +kernel
theorem dX12_write_17 : decode cX12_write 17 = .ok (.putfield 428, 3) := by decide +kernel
theorem dX12_write_20 : decode cX12_write 20 = .ok (.return_, 1) := by decide +kernel
theorem rX12_write_0 {G : kz_G} {d : Nat} {Qr : Option Value → kz_M → Prop} {Qx : String → kz_M → Prop} {a0 : Nat} {p1 : Int32}  {M : kz_M} (h : ∃ fs1 v2, (M).1 a0 = some (.inl (11, fs1)) ∧ fs1[30]? = some (.ref v2) ∧ (∃ fs3 v4, (M).1 a0 = some (.inl (11, fs3)) ∧ fs3[31]? = some (.int v4) ∧ (∃ n5 f6, (M).1 v2 = some (.inr (.int, n5, .inl f6)) ∧ vp_in v4 n5 ∧ (∃ fs7 v8, ((kz_up M v2 (.inr (.int, n5, .inl (upd f6 (v4 : Int32).toNatClampNeg p1))))).1 a0 = some (.inl (11, fs7)) ∧ fs7[31]? = some (.int v8) ∧ (∃ fs9, ((kz_up M v2 (.inr (.int, n5, .inl (upd f6 (v4 : Int32).toNatClampNeg p1))))).1 a0 = some (.inl (11, fs9)) ∧ 31 < fs9.length ∧ (Qr none (kz_up (kz_up M v2 (.inr (.int, n5, .inl (upd f6 (v4 : Int32).toNatClampNeg p1)))) a0 (.inl (11, fs9.set 31 (.int (v8 + 1))))))))))) : kz_C G d 0 0 mX12_write [.ref a0, .int p1] M Qr Qx := by
  refine kz_enter (n := 1) kmX12_write.1 (Nat.le_of_ble_eq_true rfl) (ls := [(0, .ref a0), (1, .int p1)]) rfl ?_
  refine kz_aload_n (pc := 0) 0 (v := .ref a0) (i := 0) rfl rfl rfl dX12_write_0 ?_
  obtain ⟨fs1, v2, hM, hv, h⟩ := h
  refine kz_getf (pc := 1) (k := 30) kcX12 hM hv (by decide) kw_1408 dX12_write_1 ?_
  refine kz_aload_n (pc := 4) 0 (v := .ref a0) (i := 0) rfl rfl rfl dX12_write_4 ?_
  obtain ⟨fs3, v4, hM, hv, h⟩ := h
  refine kz_getf (pc := 5) (k := 31) kcX12 hM hv (by decide) kw_1409 dX12_write_5 ?_
  refine kz_iload_n (pc := 8) 1 (i := 1) rfl rfl dX12_write_8 ?_
  obtain ⟨n5, f6, hM, hi, h⟩ := h
  refine kz_iast (pc := 9) hM hi dX12_write_9 ?_
  refine kz_aload_n (pc := 10) 0 (v := .ref a0) (i := 0) rfl rfl rfl dX12_write_10 ?_
  refine kz_dup (pc := 11) rfl dX12_write_11 ?_
  obtain ⟨fs7, v8, hM, hv, h⟩ := h
  refine kz_getf (pc := 12) (k := 31) kcX12 hM hv (by decide) kw_1409 dX12_write_12 ?_
  refine kz_iconst (pc := 15) (v := 1) (by decide) dX12_write_15 ?_
  refine kz_iadd (pc := 16) dX12_write_16 ?_
  obtain ⟨fs9, hM, hlen, h⟩ := h
  refine kz_putf (pc := 17) (k := 31) kcX12 hM (by decide) hlen kw_1409 rfl rfl rfl dX12_write_17 ?_
  exact kz_vret (pc := 20) rfl (Nat.le_refl _) (Nat.le_refl _) dX12_write_20 h
theorem dX12_writeNumber_0 : decode cX12_writeNumber 0 = .ok (.iload_n 1, 1) := by decide +kernel
theorem dX12_writeNumber_1 : decode cX12_writeNumber 1 = .ok (.ifCond .ge 9, 3) := by decide +kernel
theorem dX12_writeNumber_4 : decode cX12_writeNumber 4 = .ok (.aload_n 0, 1) := by decide +kernel
theorem dX12_writeNumber_5 : decode cX12_writeNumber 5 = .ok (.bipush 45, 2) := by decide +kernel
theorem dX12_writeNumber_7 : decode cX12_writeNumber 7 = .ok (.invokevirtual 431, 3) := by decide +kernel
theorem dX12_writeNumber_10 : decode cX12_writeNumber 10 = .ok (.iload_n 1, 1) := by decide +kernel
theorem dX12_writeNumber_11 : decode cX12_writeNumber 11 = .ok (.invokestatic 434, 3) := by decide +kernel
theorem dX12_writeNumber_14 : decode cX12_writeNumber 14 = .ok (.istore_n 2, 1) := by decide +kernel
theorem dX12_writeNumber_15 : decode cX12_writeNumber 15 = .ok (.iconst 1, 1) := by decide +kernel
theorem dX12_writeNumber_16 : decode cX12_writeNumber 16 = .ok (.istore_n 3, 1) := by decide +kernel
theorem dX12_writeNumber_17 : decode cX12_writeNumber 17 = .ok (.iload_n 2, 1) := by decide +kernel
theorem dX12_writeNumber_18 : decode cX12_writeNumber 18 = .ok (.iload_n 3, 1) := by decide +kernel
theorem dX12_writeNumber_19 : decode cX12_writeNumber 19 = .ok (.idiv, 1) := by decide +kernel
theorem dX12_writeNumber_20 : decode cX12_writeNumber 20 = .ok (.bipush 9, 2) := by decide +kernel
theorem dX12_writeNumber_22 : decode cX12_writeNumber 22 = .ok (.if_icmp .le 11, 3) := by decide +kernel
theorem dX12_writeNumber_25 : decode cX12_writeNumber 25 = .ok (.iload_n 3, 1) := by decide +kernel
theorem dX12_writeNumber_26 : decode cX12_writeNumber 26 = .ok (.bipush 10, 2) := by decide +kernel
theorem dX12_writeNumber_28 : decode cX12_writeNumber 28 = .ok (.imul, 1) := by decide +kernel
theorem dX12_writeNumber_29 : decode cX12_writeNumber 29 = .ok (.istore_n 3, 1) := by decide +kernel
theorem dX12_writeNumber_30 : decode cX12_writeNumber 30 = .ok (.goto (-13), 3) := by decide +kernel
theorem dX12_writeNumber_33 : decode cX12_writeNumber 33 = .ok (.iload_n 3, 1) := by decide +kernel
theorem dX12_writeNumber_34 : decode cX12_writeNumber 34 = .ok (.ifCond .le 24, 3) := by decide +kernel
theorem dX12_writeNumber_37 : decode cX12_writeNumber 37 = .ok (.aload_n 0, 1) := by decide +kernel
theorem dX12_writeNumber_38 : decode cX12_writeNumber 38 = .ok (.bipush 48, 2) := by decide +kernel
theorem dX12_writeNumber_40 : decode cX12_writeNumber 40 = .ok (.iload_n 2, 1) := by decide +kernel
theorem dX12_writeNumber_41 : decode cX12_writeNumber 41 = .ok (.iload_n 3, 1) := by decide +kernel
theorem dX12_writeNumber_42 : decode cX12_writeNumber 42 = .ok (.idiv, 1) := by decide +kernel
theorem dX12_writeNumber_43 : decode cX12_writeNumber 43 = .ok (.bipush 10, 2) := by decide +kernel
theorem dX12_writeNumber_45 : decode cX12_writeNumber 45 = .ok (.irem, 1) := by decide +kernel
theorem dX12_writeNumber_46 : decode cX12_writeNumber 46 = .ok (.iadd, 1) := by decide +kernel
theorem dX12_writeNumber_47 : decode cX12_writeNumber 47 = .ok (.invokevirtual 431, 3) := by decide +kernel
theorem dX12_writeNumber_50 : decode cX12_writeNumber 50 = .ok (.iload_n 3, 1) := by decide +kernel
theorem dX12_writeNumber_51 : decode cX12_writeNumber 51 = .ok (.bipush 10, 2) := by decide +kernel
theorem dX12_writeNumber_53 : decode cX12_writeNumber 53 = .ok (.idiv, 1) := by decide +kernel
theorem dX12_writeNumber_54 : decode cX12_writeNumber 54 = .ok (.istore_n 3, 1) := by decide +kernel
theorem dX12_writeNumber_55 : decode cX12_writeNumber 55 = .ok (.goto (-22), 3) := by decide +kernel
theorem dX12_writeNumber_58 : decode cX12_writeNumber 58 = .ok (.return_, 1) := by decide +kernel
def zX12_writeNumber_17 (G : kz_G) (d : Nat) (Qr : Option Value → kz_M → Prop) (Qx : String → kz_M → Prop) (x0 : Nat) (x2 : Int32) (x3 : Int32)  (M : kz_M) : Prop := kz_Z G (d + 1) 0 0 mX12_writeNumber Qr Qx 17 [(0, .ref x0), (2, .int x2), (3, .int x3)] [] M 0 0
def zX12_writeNumber_33 (G : kz_G) (d : Nat) (Qr : Option Value → kz_M → Prop) (Qx : String → kz_M → Prop) (x0 : Nat) (x2 : Int32) (x3 : Int32)  (M : kz_M) : Prop := kz_Z G (d + 1) 0 0 mX12_writeNumber Qr Qx 33 [(0, .ref x0), (2, .int x2), (3, .int x3)] [] M 0 0
theorem rX12_writeNumber_0 {G : kz_G} {d : Nat} {Qr : Option Value → kz_M → Prop} {Qx : String → kz_M → Prop} {a0 : Nat} {p1 : Int32}  {M : kz_M} (h : (0 ≤ p1 → zX12_writeNumber_17 G d Qr Qx a0 (if 0 ≤ p1 then p1 else 0 - p1) 1 M) ∧ (¬ 0 ≤ p1 → (∃ fs4, (M).1 a0 = some (.inl (11, fs4))) ∧ kz_C G (d + 0) 0 0 mX12_write [.ref a0, .int 45] M (fun v M1 => v = none ∧ (zX12_writeNumber_17 G d Qr Qx a0 (if 0 ≤ p1 then p1 else 0 - p1) 1 M1)) Qx)) : kz_C G (d + 1) 0 0 mX12_writeNumber [.ref a0, .int p1] M Qr Qx := by
  refine kz_enter (n := 1) kmX12_writeNumber.1 (Nat.le_of_ble_eq_true rfl) (ls := [(0, .ref a0), (1, .int p1)]) rfl ?_
  refine kz_iload_n (pc := 0) 1 (i := 1) rfl rfl dX12_writeNumber_0 ?_
  refine kz_if_ge (pc := 1) (tgt := 10) (by decide) dX12_writeNumber_1 (fun hb => ?_) (fun hb => ?_)
  · replace h := h.1 hb
    refine kz_iload_n (pc := 10) 1 (i := 1) rfl rfl dX12_writeNumber_10 ?_
    refine kz_mabs (pc := 11) kw_2008 kw_2009 kw_15 kw_2010 (by omega) (Nat.le_of_ble_eq_true rfl) (Nat.le_refl _) (Nat.le_refl _) dX12_writeNumber_11 ?_
    refine kz_istore_n (pc := 14) (i := 2) (ls' := [(0, .ref a0), (1, .int p1)]) rfl (by decide) rfl dX12_writeNumber_14 ?_
    refine kz_iconst (pc := 15) (v := 1) (by decide) dX12_writeNumber_15 ?_
    refine kz_istore_n (pc := 16) (i := 3) (ls' := [(2, .int (if 0 ≤ p1 then p1 else 0 - p1)), (0, .ref a0), (1, .int p1)]) rfl (by decide) rfl dX12_writeNumber_16 ?_
    refine kz_sub [2, 1, 0] rfl ?_
    exact h
  · replace h := h.2 hb
    refine kz_aload_n (pc := 4) 0 (v := .ref a0) (i := 0) rfl rfl rfl dX12_writeNumber_4 ?_
    refine kz_bipush (pc := 5) (v := 45) (by decide) dX12_writeNumber_5 ?_
    obtain ⟨⟨fs4, he⟩, h⟩ := h
    refine kz_callV (pc := 7) (μ' := mX12_write) (ci := 11) (q := (RX12, TX12, 32)) (b := a0) (d' := d + 0) (mc' := 0) (ms' := 0) (As := [.int 45]) (st := []) (c := 0) (sl := 0) kmX12_write kw_1991 (by omega) rfl (Nat.le_of_ble_eq_true rfl) he rfl rfl (Nat.le_refl _) (Nat.le_refl _) dX12_writeNumber_7 (fun E M9 hx => kz_Tout rfl (Nat.le_refl _) (Nat.le_refl _) hx) (kz_Cmono (fun v M1 h => ?_) (fun _ _ h => h) h)
    obtain ⟨rfl, h⟩ := h
    show kz_Z G (d + 1) 0 0 mX12_writeNumber Qr Qx 10 [(0, .ref a0), (1, .int p1)] [] M1 0 0
    refine kz_iload_n (pc := 10) 1 (i := 1) rfl rfl dX12_writeNumber_10 ?_
    refine kz_mabs (pc := 11) kw_2008 kw_2009 kw_15 kw_2010 (by omega) (Nat.le_of_ble_eq_true rfl) (Nat.le_refl _) (Nat.le_refl _) dX12_writeNumber_11 ?_
    refine kz_istore_n (pc := 14) (i := 2) (ls' := [(0, .ref a0), (1, .int p1)]) rfl (by decide) rfl dX12_writeNumber_14 ?_
    refine kz_iconst (pc := 15) (v := 1) (by decide) dX12_writeNumber_15 ?_
    refine kz_istore_n (pc := 16) (i := 3) (ls' := [(2, .int (if 0 ≤ p1 then p1 else 0 - p1)), (0, .ref a0), (1, .int p1)]) rfl (by decide) rfl dX12_writeNumber_16 ?_
    refine kz_sub [2, 1, 0] rfl ?_
    exact h
theorem rX12_writeNumber_17 {G : kz_G} {d : Nat} {Qr : Option Value → kz_M → Prop} {Qx : String → kz_M → Prop} {x0 : Nat} {x2 : Int32} {x3 : Int32}  {M : kz_M} (h : ¬ x3 = 0 ∧ (((x2 / x3) ≤ (9 : Int32) → zX12_writeNumber_33 G d Qr Qx x0 x2 x3 M) ∧ (¬ (x2 / x3) ≤ (9 : Int32) → zX12_writeNumber_17 G d Qr Qx x0 x2 (x3 * 10) M))) : zX12_writeNumber_17 G d Qr Qx x0 x2 x3  M := by
  show kz_Z G (d + 1) 0 0 mX12_writeNumber Qr Qx 17 [(0, .ref x0), (2, .int x2), (3, .int x3)] [] M 0 0
  refine kz_iload_n (pc := 17) 1 (i := 2) rfl rfl dX12_writeNumber_17 ?_
  refine kz_iload_n (pc := 18) 2 (i := 3) rfl rfl dX12_writeNumber_18 ?_
  obtain ⟨hz, h⟩ := h
  refine kz_idiv (pc := 19) hz dX12_writeNumber_19 ?_
  refine kz_bipush (pc := 20) (v := 9) (by decide) dX12_writeNumber_20 ?_
  refine kz_icmp_le (pc := 22) (tgt := 33) (by decide) dX12_writeNumber_22 (fun hb => ?_) (fun hb => ?_)
  · replace h := h.1 hb
    exact h
  · replace h := h.2 hb
    refine kz_iload_n (pc := 25) 2 (i := 3) rfl rfl dX12_writeNumber_25 ?_
    refine kz_bipush (pc := 26) (v := 10) (by decide) dX12_writeNumber_26 ?_
    refine kz_imul (pc := 28) dX12_writeNumber_28 ?_
    refine kz_istore_n (pc := 29) (i := 3) (ls' := [(0, .ref x0), (2, .int x2)]) rfl (by decide) rfl dX12_writeNumber_29 ?_
    refine kz_goto (pc := 30) (tgt := 17) (by decide) dX12_writeNumber_30 ?_
    refine kz_sub [1, 2, 0] rfl ?_
    exact h
theorem rX12_writeNumber_33 {G : kz_G} {d : Nat} {Qr : Option Value → kz_M → Prop} {Qx : String → kz_M → Prop} {x0 : Nat} {x2 : Int32} {x3 : Int32}  {M : kz_M} (h : (x3 ≤ 0 → Qr none M) ∧ (¬ x3 ≤ 0 → ¬ x3 = 0 ∧ ((∃ fs4, (M).1 x0 = some (.inl (11, fs4))) ∧ kz_C G (d + 0) 0 0 mX12_write [.ref x0, .int (48 + ((x2 / x3) - (x2 / x3) / 10 * 10))] M (fun v M1 => v = none ∧ (zX12_writeNumber_33 G d Qr Qx x0 x2 (x3 / 10) M1)) Qx))) : zX12_writeNumber_33 G d Qr Qx x0 x2 x3  M := by
  show kz_Z G (d + 1) 0 0 mX12_writeNumber Qr Qx 33 [(0, .ref x0), (2, .int x2), (3, .int x3)] [] M 0 0
  refine kz_iload_n (pc := 33) 2 (i := 3) rfl rfl dX12_writeNumber_33 ?_
  refine kz_if_le (pc := 34) (tgt := 58) (by decide) dX12_writeNumber_34 (fun hb => ?_) (fun hb => ?_)
  · replace h := h.1 hb
    exact kz_vret (pc := 58) rfl (Nat.le_refl _) (Nat.le_refl _) dX12_writeNumber_58 h
  · replace h := h.2 hb
    refine kz_aload_n (pc := 37) 0 (v := .ref x0) (i := 0) rfl rfl rfl dX12_writeNumber_37 ?_
    refine kz_bipush (pc := 38) (v := 48) (by decide) dX12_writeNumber_38 ?_
    refine kz_iload_n (pc := 40) 1 (i := 2) rfl rfl dX12_writeNumber_40 ?_
    refine kz_iload_n (pc := 41) 2 (i := 3) rfl rfl dX12_writeNumber_41 ?_
    obtain ⟨hz, h⟩ := h
    refine kz_idiv (pc := 42) hz dX12_writeNumber_42 ?_
    refine kz_bipush (pc := 43) (v := 10) (by decide) dX12_writeNumber_43 ?_
    refine kz_irem (pc := 45) (by decide) dX12_writeNumber_45 ?_
    refine kz_iadd (pc := 46) dX12_writeNumber_46 ?_
    obtain ⟨⟨fs4, he⟩, h⟩ := h
    refine kz_callV (pc := 47) (μ' := mX12_write) (ci := 11) (q := (RX12, TX12, 32)) (b := x0) (d' := d + 0) (mc' := 0) (ms' := 0) (As := [.int (48 + ((x2 / x3) - (x2 / x3) / 10 * 10))]) (st := []) (c := 0) (sl := 0) kmX12_write kw_1991 (by omega) rfl (Nat.le_of_ble_eq_true rfl) he rfl rfl (Nat.le_refl _) (Nat.le_refl _) dX12_writeNumber_47 (fun E M9 hx => kz_Tout rfl (Nat.le_refl _) (Nat.le_refl _) hx) (kz_Cmono (fun v M1 h => ?_) (fun _ _ h => h) h)
    obtain ⟨rfl, h⟩ := h
    show kz_Z G (d + 1) 0 0 mX12_writeNumber Qr Qx 50 [(0, .ref x0), (2, .int x2), (3, .int x3)] [] M1 0 0
    refine kz_iload_n (pc := 50) 2 (i := 3) rfl rfl dX12_writeNumber_50 ?_
    refine kz_bipush (pc := 51) (v := 10) (by decide) dX12_writeNumber_51 ?_
    refine kz_idiv (pc := 53) (by decide) dX12_writeNumber_53 ?_
    refine kz_istore_n (pc := 54) (i := 3) (ls' := [(0, .ref x0), (2, .int x2)]) rfl (by decide) rfl dX12_writeNumber_54 ?_
    refine kz_goto (pc := 55) (tgt := 33) (by decide) dX12_writeNumber_55 ?_
    refine kz_sub [1, 2, 0] rfl ?_
    exact h
theorem dX12_writeName_0 : decode cX12_writeName 0 = .ok (.iconst 1, 1) := by decide +kernel
theorem dX12_writeName_1 : decode cX12_writeName 1 = .ok (.istore_n 2, 1) := by decide +kernel
theorem dX12_writeName_2 : decode cX12_writeName 2 = .ok (.aload_n 0, 1) := by decide +kernel
theorem dX12_writeName_3 : decode cX12_writeName 3 = .ok (.getfield 7, 3) := by decide +kernel
theorem dX12_writeName_6 : decode cX12_writeName 6 = .ok (.bipush 15, 2) := by decide +kernel
theorem dX12_writeName_8 : decode cX12_writeName 8 = .ok (.iload_n 1, 1) := by decide +kernel
theorem dX12_writeName_9 : decode cX12_writeName 9 = .ok (.iadd, 1) := by decide +kernel
theorem dX12_writeName_10 : decode cX12_writeName 10 = .ok (.iaload, 1) := by decide +kernel
theorem dX12_writeName_11 : decode cX12_writeName 11 = .ok (.iload_n 2, 1) := by decide +kernel
theorem dX12_writeName_12 : decode cX12_writeName 12 = .ok (.idiv, 1) := by decide +kernel
theorem dX12_writeName_13 : decode cX12_writeName 13 = .ok (.bipush 26, 2) := by decide +kernel
theorem dX12_writeName_15 : decode cX12_writeName 15 = .ok (.if_icmp .le 11, 3) := by decide +kernel
theorem dX12_writeName_18 : decode cX12_writeName 18 = .ok (.iload_n 2, 1) := by decide +kernel
theorem dX12_writeName_19 : decode cX12_writeName 19 = .ok (.bipush 27, 2) := by decide +kernel
theorem dX12_writeName_21 : decode cX12_writeName 21 = .ok (.imul, 1) := by decide +kernel
theorem dX12_writeName_22 : decode cX12_writeName 22 = .ok (.istore_n 2, 1) := by decide +kernel
theorem dX12_writeName_23 : decode cX12_writeName 23 = .ok (.goto (-21), 3) := by decide +kernel
theorem dX12_writeName_26 : decode cX12_writeName 26 = .ok (.iload_n 2, 1) := by decide +kernel
theorem dX12_writeName_27 : decode cX12_writeName 27 = .ok (.ifCond .le 32, 3) := by decide +kernel
theorem dX12_writeName_30 : decode cX12_writeName 30 = .ok (.aload_n 0, 1) := by decide +kernel
theorem dX12_writeName_31 : decode cX12_writeName 31 = .ok (.bipush 96, 2) := by decide +kernel
theorem dX12_writeName_33 : decode cX12_writeName 33 = .ok (.aload_n 0, 1) := by decide +kernel
theorem dX12_writeName_34 : decode cX12_writeName 34 = .ok (.getfield 7, 3) := by decide +kernel
theorem dX12_writeName_37 : decode cX12_writeName 37 = .ok (.bipush 15, 2) := by decide +kernel
theorem dX12_writeName_39 : decode cX12_writeName 39 = .ok (.iload_n 1, 1) := by decide +kernel
theorem dX12_writeName_40 : decode cX12_writeName 40 = .ok (.iadd, 1) := by decide +kernel
theorem dX12_writeName_41 : decode cX12_writeName 41 = .ok (.iaload, 1) := by decide +kernel
theorem dX12_writeName_42 : decode cX12_writeName 42 = .ok (.iload_n 2, 1) := by decide +kernel
theorem dX12_writeName_43 : decode cX12_writeName 43 = .ok (.idiv, 1) := by decide +kernel
theorem dX12_writeName_44 : decode cX12_writeName 44 = .ok (.bipush 27, 2) := by decide +kernel
theorem dX12_writeName_46 : decode cX12_writeName 46 = .ok (.irem, 1) := by decide +kernel
theorem dX12_writeName_47 : decode cX12_writeName 47 = .ok (.iadd, 1) := by decide +kernel
theorem dX12_writeName_48 : decode cX12_writeName 48 = .ok (.invokevirtual 431, 3) := by decide +kernel
theorem dX12_writeName_51 : decode cX12_writeName 51 = .ok (.iload_n 2, 1) := by decide +kernel
theorem dX12_writeName_52 : decode cX12_writeName 52 = .ok (.bipush 27, 2) := by decide +kernel
theorem dX12_writeName_54 : decode cX12_writeName 54 = .ok (.idiv, 1) := by decide +kernel
theorem dX12_writeName_55 : decode cX12_writeName 55 = .ok (.istore_n 2, 1) := by decide +kernel
theorem dX12_writeName_56 : decode cX12_writeName 56 = .ok (.goto (-30), 3) := by decide +kernel
theorem dX12_writeName_59 : decode cX12_writeName 59 = .ok (.return_, 1) := by decide +kernel
def zX12_writeName_2 (G : kz_G) (d : Nat) (Qr : Option Value → kz_M → Prop) (Qx : String → kz_M → Prop) (x0 : Nat) (x1 : Int32) (x2 : Int32)  (M : kz_M) : Prop := kz_Z G (d + 1) 0 0 mX12_writeName Qr Qx 2 [(0, .ref x0), (1, .int x1), (2, .int x2)] [] M 0 0
def zX12_writeName_26 (G : kz_G) (d : Nat) (Qr : Option Value → kz_M → Prop) (Qx : String → kz_M → Prop) (x0 : Nat) (x1 : Int32) (x2 : Int32)  (M : kz_M) : Prop := kz_Z G (d + 1) 0 0 mX12_writeName Qr Qx 26 [(0, .ref x0), (1, .int x1), (2, .int x2)] [] M 0 0
theorem rX12_writeName_0 {G : kz_G} {d : Nat} {Qr : Option Value → kz_M → Prop} {Qx : String → kz_M → Prop} {a0 : Nat} {p1 : Int32}  {M : kz_M} (h : zX12_writeName_2 G d Qr Qx a0 p1 1 M) : kz_C G (d + 1) 0 0 mX12_writeName [.ref a0, .int p1] M Qr Qx := by
  refine kz_enter (n := 1) kmX12_writeName.1 (Nat.le_of_ble_eq_true rfl) (ls := [(0, .ref a0), (1, .int p1)]) rfl ?_
  refine kz_iconst (pc := 0) (v := 1) (by decide) dX12_writeName_0 ?_
  refine kz_istore_n (pc := 1) (i := 2) (ls' := [(0, .ref a0), (1, .int p1)]) rfl (by decide) rfl dX12_writeName_1 ?_
  refine kz_sub [1, 2, 0] rfl ?_
  exact h
theorem rX12_writeName_2 {G : kz_G} {d : Nat} {Qr : Option Value → kz_M → Prop} {Qx : String → kz_M → Prop} {x0 : Nat} {x1 : Int32} {x2 : Int32}  {M : kz_M} (h : ∃ fs1 v2, (M).1 x0 = some (.inl (11, fs1)) ∧ fs1[0]? = some (.ref v2) ∧ (∃ n3 f4, (M).1 v2 = some (.inr (.int, n3, .inl f4)) ∧ vp_in (15 + x1) n3 ∧ (¬ x2 = 0 ∧ ((((f4 (15 + x1).toNatClampNeg) / x2) ≤ (26 : Int32) → zX12_writeName_26 G d Qr Qx x0 x1 x2 M) ∧ (¬ ((f4 (15 + x1).toNatClampNeg) / x2) ≤ (26 : Int32) → zX12_writeName_2 G d Qr Qx x0 x1 (x2 * 27) M))))) : zX12_writeName_2 G d Qr Qx x0 x1 x2  M := by
  show kz_Z G (d + 1) 0 0 mX12_writeName Qr Qx 2 [(0, .ref x0), (1, .int x1), (2, .int x2)] [] M 0 0
  refine kz_aload_n (pc := 2) 0 (v := .ref x0) (i := 0) rfl rfl rfl dX12_writeName_2 ?_
  obtain ⟨fs1, v2, hM, hv, h⟩ := h
  refine kz_getf (pc := 3) (k := 0) kcX12 hM hv (by decide) kw_1378 dX12_writeName_3 ?_
  refine kz_bipush (pc := 6) (v := 15) (by decide) dX12_writeName_6 ?_
  refine kz_iload_n (pc := 8) 1 (i := 1) rfl rfl dX12_writeName_8 ?_
  refine kz_iadd (pc := 9) dX12_writeName_9 ?_
  obtain ⟨n3, f4, hM, hi, h⟩ := h
  refine kz_iald (pc := 10) hM hi dX12_writeName_10 ?_
  refine kz_iload_n (pc := 11) 2 (i := 2) rfl rfl dX12_writeName_11 ?_
  obtain ⟨hz, h⟩ := h
  refine kz_idiv (pc := 12) hz dX12_writeName_12 ?_
  refine kz_bipush (pc := 13) (v := 26) (by decide) dX12_writeName_13 ?_
  refine kz_icmp_le (pc := 15) (tgt := 26) (by decide) dX12_writeName_15 (fun hb => ?_) (fun hb => ?_)
  · replace h := h.1 hb
    exact h
  · replace h := h.2 hb
    refine kz_iload_n (pc := 18) 2 (i := 2) rfl rfl dX12_writeName_18 ?_
    refine kz_bipush (pc := 19) (v := 27) (by decide) dX12_writeName_19 ?_
    refine kz_imul (pc := 21) dX12_writeName_21 ?_
    refine kz_istore_n (pc := 22) (i := 2) (ls' := [(0, .ref x0), (1, .int x1)]) rfl (by decide) rfl dX12_writeName_22 ?_
    refine kz_goto (pc := 23) (tgt := 2) (by decide) dX12_writeName_23 ?_
    refine kz_sub [1, 2, 0] rfl ?_
    exact h
theorem rX12_writeName_26 {G : kz_G} {d : Nat} {Qr : Option Value → kz_M → Prop} {Qx : String → kz_M → Prop} {x0 : Nat} {x1 : Int32} {x2 : Int32}  {M : kz_M} (h : (x2 ≤ 0 → Qr none M) ∧ (¬ x2 ≤ 0 → ∃ fs1 v2, (M).1 x0 = some (.inl (11, fs1)) ∧ fs1[0]? = some (.ref v2) ∧ (∃ n3 f4, (M).1 v2 = some (.inr (.int, n3, .inl f4)) ∧ vp_in (15 + x1) n3 ∧ (¬ x2 = 0 ∧ ((∃ fs8, (M).1 x0 = some (.inl (11, fs8))) ∧ kz_C G (d + 0) 0 0 mX12_write [.ref x0, .int (96 + (((f4 (15 + x1).toNatClampNeg) / x2) - ((f4 (15 + x1).toNatClampNeg) / x2) / 27 * 27))] M (fun v M5 => v = none ∧ (zX12_writeName_26 G d Qr Qx x0 x1 (x2 / 27) M5)) Qx))))) : zX12_writeName_26 G d Qr Qx x0 x1 x2  M := by
  show kz_Z G (d + 1) 0 0 mX12_writeName Qr Qx 26 [(0, .ref x0), (1, .int x1), (2, .int x2)] [] M 0 0
  refine kz_iload_n (pc := 26) 2 (i := 2) rfl rfl dX12_writeName_26 ?_
  refine kz_if_le (pc := 27) (tgt := 59) (by decide) dX12_writeName_27 (fun hb => ?_) (fun hb => ?_)
  · replace h := h.1 hb
    exact kz_vret (pc := 59) rfl (Nat.le_refl _) (Nat.le_refl _) dX12_writeName_59 h
  · replace h := h.2 hb
    refine kz_aload_n (pc := 30) 0 (v := .ref x0) (i := 0) rfl rfl rfl dX12_writeName_30 ?_
    refine kz_bipush (pc := 31) (v := 96) (by decide) dX12_writeName_31 ?_
    refine kz_aload_n (pc := 33) 0 (v := .ref x0) (i := 0) rfl rfl rfl dX12_writeName_33 ?_
    obtain ⟨fs1, v2, hM, hv, h⟩ := h
    refine kz_getf (pc := 34) (k := 0) kcX12 hM hv (by decide) kw_1378 dX12_writeName_34 ?_
    refine kz_bipush (pc := 37) (v := 15) (by decide) dX12_writeName_37 ?_
    refine kz_iload_n (pc := 39) 1 (i := 1) rfl rfl dX12_writeName_39 ?_
    refine kz_iadd (pc := 40) dX12_writeName_40 ?_
    obtain ⟨n3, f4, hM, hi, h⟩ := h
    refine kz_iald (pc := 41) hM hi dX12_writeName_41 ?_
    refine kz_iload_n (pc := 42) 2 (i := 2) rfl rfl dX12_writeName_42 ?_
    obtain ⟨hz, h⟩ := h
    refine kz_idiv (pc := 43) hz dX12_writeName_43 ?_
    refine kz_bipush (pc := 44) (v := 27) (by decide) dX12_writeName_44 ?_
    refine kz_irem (pc := 46) (by decide) dX12_writeName_46 ?_
    refine kz_iadd (pc := 47) dX12_writeName_47 ?_
    obtain ⟨⟨fs8, he⟩, h⟩ := h
    refine kz_callV (pc := 48) (μ' := mX12_write) (ci := 11) (q := (RX12, TX12, 32)) (b := x0) (d' := d + 0) (mc' := 0) (ms' := 0) (As := [.int (96 + (((f4 (15 + x1).toNatClampNeg) / x2) - ((f4 (15 + x1).toNatClampNeg) / x2) / 27 * 27))]) (st := []) (c := 0) (sl := 0) kmX12_write kw_1991 (by omega) rfl (Nat.le_of_ble_eq_true rfl) he rfl rfl (Nat.le_refl _) (Nat.le_refl _) dX12_writeName_48 (fun E M9 hx => kz_Tout rfl (Nat.le_refl _) (Nat.le_refl _) hx) (kz_Cmono (fun v M5 h => ?_) (fun _ _ h => h) h)
    obtain ⟨rfl, h⟩ := h
    show kz_Z G (d + 1) 0 0 mX12_writeName Qr Qx 51 [(0, .ref x0), (1, .int x1), (2, .int x2)] [] M5 0 0
    refine kz_iload_n (pc := 51) 2 (i := 2) rfl rfl dX12_writeName_51 ?_
    refine kz_bipush (pc := 52) (v := 27) (by decide) dX12_writeName_52 ?_
    refine kz_idiv (pc := 54) (by decide) dX12_writeName_54 ?_
    refine kz_istore_n (pc := 55) (i := 2) (ls' := [(0, .ref x0), (1, .int x1)]) rfl (by decide) rfl dX12_writeName_55 ?_
    refine kz_goto (pc := 56) (tgt := 26) (by decide) dX12_writeName_56 ?_
    refine kz_sub [1, 2, 0] rfl ?_
    exact h
theorem dX12_writeWord_0 : decode cX12_writeWord 0 = .ok (.iconst 5, 1) := by decide +kernel
theorem dX12_writeWord_1 : decode cX12_writeWord 1 = .ok (.lload_n 1, 1) := by decide +kernel
theorem dX12_writeWord_2 : decode cX12_writeWord 2 = .ok (.invokestatic 108, 3) := by decide +kernel
theorem dX12_writeWord_5 : decode cX12_writeWord 5 = .ok (.imul, 1) := by decide +kernel
theorem dX12_writeWord_6 : decode cX12_writeWord 6 = .ok (.iconst 5, 1) := by decide +kernel
theorem dX12_writeWord_7 : decode cX12_writeWord 7 = .ok (.isub, 1) := by decide +kernel
theorem dX12_writeWord_8 : decode cX12_writeWord 8 = .ok (.istore_n 3, 1) := by decide +kernel
theorem dX12_writeWord_9 : decode cX12_writeWord 9 = .ok (.iload_n 3, 1) := by decide +kernel
theorem dX12_writeWord_10 : decode cX12_writeWord 10 = .ok (.ifCond .lt 24, 3) := by decide +kernel
theorem dX12_writeWord_13 : decode cX12_writeWord 13 = .ok (.aload_n 0, 1) := by decide +kernel
theorem dX12_writeWord_14 : decode cX12_writeWord 14 = .ok (.bipush 96, 2) := by decide +kernel
theorem dX12_writeWord_16 : decode cX12_writeWord 16 = .ok (.lload_n 1, 1) := by decide +kernel
theorem dX12_writeWord_17 : decode cX12_writeWord 17 = .ok (.iload_n 3, 1) := by decide +kernel
theorem dX12_writeWord_18 : decode cX12_writeWord 18 = .ok (.lshr, 1) := by decide +kernel
theorem dX12_writeWord_19 : decode cX12_writeWord 19 = .ok (.ldc2_w 437, 3) := by decide +kernel
theorem dX12_writeWord_22 : decode cX12_writeWord 22 = .ok (.land, 1) := by decide +kernel
theorem dX12_writeWord_23 : decode cX12_writeWord 23 = .ok (.l2i, 1) := by decide +kernel
theorem dX12_writeWord_24 : decode cX12_writeWord 24 = .ok (.iadd, 1) := by decide +kernel
theorem dX12_writeWord_25 : decode cX12_writeWord 25 = .ok (.invokevirtual 431, 3) := by decide +kernel
theorem dX12_writeWord_28 : decode cX12_writeWord 28 = .ok (.iinc 3 (-5), 3) := by decide +kernel
theorem dX12_writeWord_31 : decode cX12_writeWord 31 = .ok (.goto (-22), 3) := by decide +kernel
theorem dX12_writeWord_34 : decode cX12_writeWord 34 = .ok (.return_, 1) := by decide +kernel
def zX12_writeWord_9 (G : kz_G) (d : Nat) (Qr : Option Value → kz_M → Prop) (Qx : String → kz_M → Prop) (x0 : Nat) (x1 : Int64) (x3 : Int32)  (M : kz_M) : Prop := kz_Z G (d + 1) 0 0 mX12_writeWord Qr Qx 9 [(0, .ref x0), (1, .long x1), (3, .int x3)] [] M 0 0
theorem rX12_writeWord_0 {G : kz_G} {d : Nat} {Qr : Option Value → kz_M → Prop} {Qx : String → kz_M → Prop} {a0 : Nat} {p1 : Int64}  {M : kz_M} (h : kz_C G (d + 0) 0 0 mX12_lettersOf [.long p1] M (fun v M1 => ∃ r2 : Int32, v = some (.int r2) ∧ (zX12_writeWord_9 G d Qr Qx a0 p1 ((5 * r2) - 5) M1)) Qx) : kz_C G (d + 1) 0 0 mX12_writeWord [.ref a0, .long p1] M Qr Qx := by
  refine kz_enter (n := 1) kmX12_writeWord.1 (Nat.le_of_ble_eq_true rfl) (ls := [(0, .ref a0), (1, .long p1)]) rfl ?_
  refine kz_iconst (pc := 0) (v := 5) (by decide) dX12_writeWord_0 ?_
  refine kz_lload_n (pc := 1) 1 (i := 1) rfl rfl dX12_writeWord_1 ?_
  refine kz_callS (pc := 2) (μ' := mX12_lettersOf) (d' := d + 0) (mc' := 0) (ms' := 0) (As := [.long p1]) (st := [.int 5]) (c := 0) (sl := 0) kmX12_lettersOf kw_1737 (by omega) rfl (Nat.le_of_ble_eq_true rfl) (Nat.le_refl _) (Nat.le_refl _) dX12_writeWord_2 (fun E M9 hx => kz_Tout rfl (Nat.le_refl _) (Nat.le_refl _) hx) (kz_Cmono (fun v M1 h => ?_) (fun _ _ h => h) h)
  obtain ⟨r2, rfl, h⟩ := h
  show kz_Z G (d + 1) 0 0 mX12_writeWord Qr Qx 5 [(0, .ref a0), (1, .long p1)] [.int r2, .int 5] M1 0 0
  refine kz_imul (pc := 5) dX12_writeWord_5 ?_
  refine kz_iconst (pc := 6) (v := 5) (by decide) dX12_writeWord_6 ?_
  refine kz_isub (pc := 7) dX12_writeWord_7 ?_
  refine kz_istore_n (pc := 8) (i := 3) (ls' := [(0, .ref a0), (1, .long p1)]) rfl (by decide) rfl dX12_writeWord_8 ?_
  refine kz_sub [1, 2, 0] rfl ?_
  exact h
theorem rX12_writeWord_9 {G : kz_G} {d : Nat} {Qr : Option Value → kz_M → Prop} {Qx : String → kz_M → Prop} {x0 : Nat} {x1 : Int64} {x3 : Int32}  {M : kz_M} (h : (x3 < 0 → Qr none M) ∧ (¬ x3 < 0 → (∃ fs4, (M).1 x0 = some (.inl (11, fs4))) ∧ kz_C G (d + 0) 0 0 mX12_write [.ref x0, .int (96 + (((x1 >>> ((x3).toInt64 &&& 63)) &&& 31 : Int64).toInt32))] M (fun v M1 => v = none ∧ (zX12_writeWord_9 G d Qr Qx x0 x1 (x3 + (-5)) M1)) Qx)) : zX12_writeWord_9 G d Qr Qx x0 x1 x3  M := by
  show kz_Z G (d + 1) 0 0 mX12_writeWord Qr Qx 9 [(0, .ref x0), (1, .long x1), (3, .int x3)] [] M 0 0
  refine kz_iload_n (pc := 9) 2 (i := 3) rfl rfl dX12_writeWord_9 ?_
  refine kz_if_lt (pc := 10) (tgt := 34) (by decide) dX12_writeWord_10 (fun hb => ?_) (fun hb => ?_)
  · replace h := h.1 hb
    exact kz_vret (pc := 34) rfl (Nat.le_refl _) (Nat.le_refl _) dX12_writeWord_34 h
  · replace h := h.2 hb
    refine kz_aload_n (pc := 13) 0 (v := .ref x0) (i := 0) rfl rfl rfl dX12_writeWord_13 ?_
    refine kz_bipush (pc := 14) (v := 96) (by decide) dX12_writeWord_14 ?_
    refine kz_lload_n (pc := 16) 1 (i := 1) rfl rfl dX12_writeWord_16 ?_
    refine kz_iload_n (pc := 17) 2 (i := 3) rfl rfl dX12_writeWord_17 ?_
    refine kz_lshr (pc := 18) dX12_writeWord_18 ?_
    refine kz_ldc2 (pc := 19) kw_1999 rfl dX12_writeWord_19 ?_
    refine kz_land (pc := 22) dX12_writeWord_22 ?_
    refine kz_l2i (pc := 23) dX12_writeWord_23 ?_
    refine kz_iadd (pc := 24) dX12_writeWord_24 ?_
    obtain ⟨⟨fs4, he⟩, h⟩ := h
    refine kz_callV (pc := 25) (μ' := mX12_write) (ci := 11) (q := (RX12, TX12, 32)) (b := x0) (d' := d + 0) (mc' := 0) (ms' := 0) (As := [.int (96 + (((x1 >>> ((x3).toInt64 &&& 63)) &&& 31 : Int64).toInt32))]) (st := []) (c := 0) (sl := 0) kmX12_write kw_1991 (by omega) rfl (Nat.le_of_ble_eq_true rfl) he rfl rfl (Nat.le_refl _) (Nat.le_refl _) dX12_writeWord_25 (fun E M9 hx => kz_Tout rfl (Nat.le_refl _) (Nat.le_refl _) hx) (kz_Cmono (fun v M1 h => ?_) (fun _ _ h => h) h)
    obtain ⟨rfl, h⟩ := h
    show kz_Z G (d + 1) 0 0 mX12_writeWord Qr Qx 28 [(0, .ref x0), (1, .long x1), (3, .int x3)] [] M1 0 0
    refine kz_iinc (pc := 28) 2 (i := 3) (v := x3 + (-5)) (ls' := [(0, .ref x0), (1, .long x1)]) rfl (congrArg (fun z => x3 + z) (by decide)) (by decide) rfl dX12_writeWord_28 ?_
    refine kz_goto (pc := 31) (tgt := 9) (by decide) dX12_writeWord_31 ?_
    refine kz_sub [1, 2, 0] rfl ?_
    exact h
theorem dX12_printLine_0 : decode cX12_printLine 0 = .ok (.aload_n 0, 1) := by decide +kernel
theorem dX12_printLine_1 : decode cX12_printLine 1 = .ok (.iconst 0, 1) := by decide +kernel
theorem dX12_printLine_2 : decode cX12_printLine 2 = .ok (.putfield 60, 3) := by decide +kernel
theorem dX12_printLine_5 : decode cX12_printLine 5 = .ok (.aload_n 0, 1) := by decide +kernel
theorem dX12_printLine_6 : decode cX12_printLine 6 = .ok (.iload_n 1, 1) := by decide +kernel
theorem dX12_printLine_7 : decode cX12_printLine 7 = .ok (.iload_n 2, 1) := by decide +kernel
theorem dX12_printLine_8 : decode cX12_printLine 8 = .ok (.invokevirtual 358, 3) := by decide +kernel
theorem dX12_printLine_11 : decode cX12_printLine 11 = .ok (.ifCond .eq 5, 3) := by decide +kernel
theorem dX12_printLine_14 : decode cX12_printLine 14 = .ok (.iconst 0, 1) := by decide +kernel
theorem dX12_printLine_15 : decode cX12_printLine 15 = .ok (.ireturn, 1) := by decide +kernel
theorem dX12_printLine_16 : decode cX12_printLine 16 = .ok (.aload_n 0, 1) := by decide +kernel
theorem dX12_printLine_17 : decode cX12_printLine 17 = .ok (.iconst 0, 1) := by decide +kernel
theorem dX12_printLine_18 : decode cX12_printLine 18 = .ok (.putfield 428, 3) := by decide +kernel
theorem dX12_printLine_21 : decode cX12_printLine 21 = .ok (.iconst 0, 1) := by decide +kernel
theorem dX12_printLine_22 : decode cX12_printLine 22 = .ok (.istore_n 3, 1) := by decide +kernel
theorem dX12_printLine_23 : decode cX12_printLine 23 = .ok (.iload_n 3, 1) := by decide +kernel
theorem dX12_printLine_24 : decode cX12_printLine 24 = .ok (.aload_n 0, 1) := by decide +kernel
theorem dX12_printLine_25 : decode cX12_printLine 25 = .ok (.iload_n 1, 1) := by decide +kernel
theorem dX12_printLine_26 : decode cX12_printLine 26 = .ok (.iload_n 2, 1) := by decide +kernel
theorem dX12_printLine_27 : decode cX12_printLine 27 = .ok (.iconst 1, 1) := by decide +kernel
theorem dX12_printLine_28 : decode cX12_printLine 28 = .ok (.invokevirtual 93, 3) := by decide +kernel
theorem dX12_printLine_31 : decode cX12_printLine 31 = .ok (.if_icmp .ge 30, 3) := by decide +kernel
theorem dX12_printLine_34 : decode cX12_printLine 34 = .ok (.iload_n 3, 1) := by decide +kernel
theorem dX12_printLine_35 : decode cX12_printLine 35 = .ok (.ifCond .le 9, 3) := by decide +kernel
theorem dX12_printLine_38 : decode cX12_printLine 38 = .ok (.aload_n 0, 1) := by decide +kernel
theorem dX12_printLine_39 : decode cX12_printLine 39 = .ok (.bipush 32, 2) := by decide +kernel
theorem dX12_printLine_41 : decode cX12_printLine 41 = .ok (.invokevirtual 431, 3) := by decide +kernel
theorem dX12_printLine_44 : decode cX12_printLine 44 = .ok (.aload_n 0, 1) := by decide +kernel
theorem dX12_printLine_45 : decode cX12_printLine 45 = .ok (.aload_n 0, 1) := by decide +kernel
theorem dX12_printLine_46 : decode cX12_printLine 46 = .ok (.iload_n 1, 1) := by decide +kernel
theorem dX12_printLine_47 : decode cX12_printLine 47 = .ok (.iload_n 2, 1) := by decide +kernel
theorem dX12_printLine_48 : decode cX12_printLine 48 = .ok (.iload_n 3, 1) := by decide +kernel
theorem dX12_printLine_49 : decode cX12_printLine 49 = .ok (.invokevirtual 104, 3) := by decide +kernel
theorem dX12_printLine_52 : decode cX12_printLine 52 = .ok (.invokevirtual 439, 3) := by decide +kernel
theorem dX12_printLine_55 : decode cX12_printLine 55 = .ok (.iinc 3 1, 3) := by decide +kernel
theorem dX12_printLine_58 : decode cX12_printLine 58 = .ok (.goto (-35), 3) := by decide +kernel
theorem dX12_printLine_61 : decode cX12_printLine 61 = .ok (.aload_n 0, 1) := by decide +kernel
theorem dX12_printLine_62 : decode cX12_printLine 62 = .ok (.getfield 428, 3) := by decide +kernel
theorem dX12_printLine_65 : decode cX12_printLine 65 = .ok (.ireturn, 1) := by decide +kernel
def zX12_printLine_23 (G : kz_G) (d : Nat) (Qr : Option Value → kz_M → Prop) (Qx : String → kz_M → Prop) (x0 : Nat) (x1 : Int32) (x2 : Int32) (x3 : Int32)  (M : kz_M) : Prop := kz_Z G (d + 3) 0 0 mX12_printLine Qr Qx 23 [(0, .ref x0), (1, .int x1), (2, .int x2), (3, .int x3)] [] M 0 0
theorem rX12_printLine_0 {G : kz_G} {d : Nat} {Qr : Option Value → kz_M → Prop} {Qx : String → kz_M → Prop} {a0 : Nat} {p1 : Int32} {p2 : Int32}  {M : kz_M} (h : ∃ fs1, (M).1 a0 = some (.inl (11, fs1)) ∧ 9 < fs1.length ∧ ((∃ fs6, ((kz_up M a0 (.inl (11, fs1.set 9 (.int 0))))).1 a0 = some (.inl (11, fs6))) ∧ kz_C G (d + 2) 0 0 mX12_noLine [.ref a0, .int p1, .int p2] (kz_up M a0 (.inl (11, fs1.set 9 (.int 0)))) (fun v M2 => ∃ r3 : Int32, v = some (.int r3) ∧ ((r3 = 0 → ∃ fs5, (M2).1 a0 = some (.inl (11, fs5)) ∧ 31 < fs5.length ∧ (zX12_printLine_23 G d Qr Qx a0 p1 p2 0 (kz_up M2 a0 (.inl (11, fs5.set 31 (.int 0)))))) ∧ (¬ r3 = 0 → Qr (some (.int 0)) M2))) Qx)) : kz_C G (d + 3) 0 0 mX12_printLine [.ref a0, .int p1, .int p2] M Qr Qx := by
  refine kz_enter (n := 2) kmX12_printLine.1 (Nat.le_of_ble_eq_true rfl) (ls := [(0, .ref a0), (1, .int p1), (2, .int p2)]) rfl ?_
  refine kz_aload_n (pc := 0) 0 (v := .ref a0) (i := 0) rfl rfl rfl dX12_printLine_0 ?_
  refine kz_iconst (pc := 1) (v := 0) (by decide) dX12_printLine_1 ?_
  obtain ⟨fs1, hM, hlen, h⟩ := h
  refine kz_putf (pc := 2) (k := 9) kcX12 hM (by decide) hlen kw_1387 rfl rfl rfl dX12_printLine_2 ?_
  refine kz_aload_n (pc := 5) 0 (v := .ref a0) (i := 0) rfl rfl rfl dX12_printLine_5 ?_
  refine kz_iload_n (pc := 6) 1 (i := 1) rfl rfl dX12_printLine_6 ?_
  refine kz_iload_n (pc := 7) 2 (i := 2) rfl rfl dX12_printLine_7 ?_
  obtain ⟨⟨fs6, he⟩, h⟩ := h
  refine kz_callV (pc := 8) (μ' := mX12_noLine) (ci := 11) (q := (RX12, TX12, 32)) (b := a0) (d' := d + 2) (mc' := 0) (ms' := 0) (As := [.int p1, .int p2]) (st := []) (c := 0) (sl := 0) kmX12_noLine kw_1729 (by omega) rfl (Nat.le_of_ble_eq_true rfl) he rfl rfl (Nat.le_refl _) (Nat.le_refl _) dX12_printLine_8 (fun E M9 hx => kz_Tout rfl (Nat.le_refl _) (Nat.le_refl _) hx) (kz_Cmono (fun v M2 h => ?_) (fun _ _ h => h) h)
  obtain ⟨r3, rfl, h⟩ := h
  show kz_Z G (d + 3) 0 0 mX12_printLine Qr Qx 11 [(0, .ref a0), (1, .int p1), (2, .int p2)] [.int r3] M2 0 0
  refine kz_if_eq (pc := 11) (tgt := 16) (by decide) dX12_printLine_11 (fun hb => ?_) (fun hb => ?_)
  · replace h := h.1 hb
    refine kz_aload_n (pc := 16) 0 (v := .ref a0) (i := 0) rfl rfl rfl dX12_printLine_16 ?_
    refine kz_iconst (pc := 17) (v := 0) (by decide) dX12_printLine_17 ?_
    obtain ⟨fs5, hM, hlen, h⟩ := h
    refine kz_putf (pc := 18) (k := 31) kcX12 hM (by decide) hlen kw_1409 rfl rfl rfl dX12_printLine_18 ?_
    refine kz_iconst (pc := 21) (v := 0) (by decide) dX12_printLine_21 ?_
    refine kz_istore_n (pc := 22) (i := 3) (ls' := [(0, .ref a0), (1, .int p1), (2, .int p2)]) rfl (by decide) rfl dX12_printLine_22 ?_
    refine kz_sub [1, 2, 3, 0] rfl ?_
    exact h
  · replace h := h.2 hb
    refine kz_iconst (pc := 14) (v := 0) (by decide) dX12_printLine_14 ?_
    exact kz_iret (pc := 15) rfl (Nat.le_refl _) (Nat.le_refl _) dX12_printLine_15 h
theorem rX12_printLine_23 {G : kz_G} {d : Nat} {Qr : Option Value → kz_M → Prop} {Qx : String → kz_M → Prop} {x0 : Nat} {x1 : Int32} {x2 : Int32} {x3 : Int32}  {M : kz_M} (h : (∃ fs26, (M).1 x0 = some (.inl (11, fs26))) ∧ kz_C G (d + 2) 0 0 mX12_ofLine [.ref x0, .int x1, .int x2, .int 1] M (fun v M1 => ∃ r2 : Int32, v = some (.int r2) ∧ ((r2 ≤ x3 → ∃ fs4 v5, (M1).1 x0 = some (.inl (11, fs4)) ∧ fs4[31]? = some (.int v5) ∧ (Qr (some (.int v5)) M1)) ∧ (¬ r2 ≤ x3 → (x3 ≤ 0 → (∃ fs13, (M1).1 x0 = some (.inl (11, fs13))) ∧ kz_C G (d + 2) 0 0 mX12_wordIn [.ref x0, .int x1, .int x2, .int x3] M1 (fun v M6 => ∃ r7 : Int64, v = some (.long r7) ∧ ((∃ fs12, (M6).1 x0 = some (.inl (11, fs12))) ∧ kz_C G (d + 2) 0 0 mX12_writeWord [.ref x0, .long r7] M6 (fun v M9 => v = none ∧ (zX12_printLine_23 G d Qr Qx x0 x1 x2 (x3 + 1) M9)) Qx)) Qx) ∧ (¬ x3 ≤ 0 → (∃ fs25, (M1).1 x0 = some (.inl (11, fs25))) ∧ kz_C G (d + 2) 0 0 mX12_write [.ref x0, .int 32] M1 (fun v M14 => v = none ∧ ((∃ fs24, (M14).1 x0 = some (.inl (11, fs24))) ∧ kz_C G (d + 2) 0 0 mX12_wordIn [.ref x0, .int x1, .int x2, .int x3] M14 (fun v M17 => ∃ r18 : Int64, v = some (.long r18) ∧ ((∃ fs23, (M17).1 x0 = some (.inl (11, fs23))) ∧ kz_C G (d + 2) 0 0 mX12_writeWord [.ref x0, .long r18] M17 (fun v M20 => v = none ∧ (zX12_printLine_23 G d Qr Qx x0 x1 x2 (x3 + 1) M20)) Qx)) Qx)) Qx)))) Qx) : zX12_printLine_23 G d Qr Qx x0 x1 x2 x3  M := by
  show kz_Z G (d + 3) 0 0 mX12_printLine Qr Qx 23 [(0, .ref x0), (1, .int x1), (2, .int x2), (3, .int x3)] [] M 0 0
  refine kz_iload_n (pc := 23) 3 (i := 3) rfl rfl dX12_printLine_23 ?_
  refine kz_aload_n (pc := 24) 0 (v := .ref x0) (i := 0) rfl rfl rfl dX12_printLine_24 ?_
  refine kz_iload_n (pc := 25) 1 (i := 1) rfl rfl dX12_printLine_25 ?_
  refine kz_iload_n (pc := 26) 2 (i := 2) rfl rfl dX12_printLine_26 ?_
  refine kz_iconst (pc := 27) (v := 1) (by decide) dX12_printLine_27 ?_
  obtain ⟨⟨fs26, he⟩, h⟩ := h
  refine kz_callV (pc := 28) (μ' := mX12_ofLine) (ci := 11) (q := (RX12, TX12, 32)) (b := x0) (d' := d + 2) (mc' := 0) (ms' := 0) (As := [.int x1, .int x2, .int 1]) (st := [.int x3]) (c := 0) (sl := 0) kmX12_ofLine kw_1636 (by omega) rfl (Nat.le_of_ble_eq_true rfl) he rfl rfl (Nat.le_refl _) (Nat.le_refl _) dX12_printLine_28 (fun E M9 hx => kz_Tout rfl (Nat.le_refl _) (Nat.le_refl _) hx) (kz_Cmono (fun v M1 h => ?_) (fun _ _ h => h) h)
  obtain ⟨r2, rfl, h⟩ := h
  show kz_Z G (d + 3) 0 0 mX12_printLine Qr Qx 31 [(0, .ref x0), (1, .int x1), (2, .int x2), (3, .int x3)] [.int r2, .int x3] M1 0 0
  refine kz_icmp_ge (pc := 31) (tgt := 61) (by decide) dX12_printLine_31 (fun hb => ?_) (fun hb => ?_)
  · replace h := h.1 hb
    refine kz_aload_n (pc := 61) 0 (v := .ref x0) (i := 0) rfl rfl rfl dX12_printLine_61 ?_
    obtain ⟨fs4, v5, hM, hv, h⟩ := h
    refine kz_getf (pc := 62) (k := 31) kcX12 hM hv (by decide) kw_1409 dX12_printLine_62 ?_
    exact kz_iret (pc := 65) rfl (Nat.le_refl _) (Nat.le_refl _) dX12_printLine_65 h
  · replace h := h.2 hb
    refine kz_iload_n (pc := 34) 3 (i := 3) rfl rfl dX12_printLine_34 ?_
    refine kz_if_le (pc := 35) (tgt := 44) (by decide) dX12_printLine_35 (fun hb => ?_) (fun hb => ?_)
    · replace h := h.1 hb
      refine kz_aload_n (pc := 44) 0 (v := .ref x0) (i := 0) rfl rfl rfl dX12_printLine_44 ?_
      refine kz_aload_n (pc := 45) 0 (v := .ref x0) (i := 0) rfl rfl rfl dX12_printLine_45 ?_
      refine kz_iload_n (pc := 46) 1 (i := 1) rfl rfl dX12_printLine_46 ?_
      refine kz_iload_n (pc := 47) 2 (i := 2) rfl rfl dX12_printLine_47 ?_
      refine kz_iload_n (pc := 48) 3 (i := 3) rfl rfl dX12_printLine_48 ?_
      obtain ⟨⟨fs13, he⟩, h⟩ := h
      refine kz_callV (pc := 49) (μ' := mX12_wordIn) (ci := 11) (q := (RX12, TX12, 32)) (b := x0) (d' := d + 2) (mc' := 0) (ms' := 0) (As := [.int x1, .int x2, .int x3]) (st := [.ref x0]) (c := 0) (sl := 0) kmX12_wordIn kw_1705 (by omega) rfl (Nat.le_of_ble_eq_true rfl) he rfl rfl (Nat.le_refl _) (Nat.le_refl _) dX12_printLine_49 (fun E M9 hx => kz_Tout rfl (Nat.le_refl _) (Nat.le_refl _) hx) (kz_Cmono (fun v M6 h => ?_) (fun _ _ h => h) h)
      obtain ⟨r7, rfl, h⟩ := h
      show kz_Z G (d + 3) 0 0 mX12_printLine Qr Qx 52 [(0, .ref x0), (1, .int x1), (2, .int x2), (3, .int x3)] [.long r7, .ref x0] M6 0 0
      obtain ⟨⟨fs12, he⟩, h⟩ := h
      refine kz_callV (pc := 52) (μ' := mX12_writeWord) (ci := 11) (q := (RX12, TX12, 32)) (b := x0) (d' := d + 2) (mc' := 0) (ms' := 0) (As := [.long r7]) (st := []) (c := 0) (sl := 0) kmX12_writeWord kw_1995 (by omega) rfl (Nat.le_of_ble_eq_true rfl) he rfl rfl (Nat.le_refl _) (Nat.le_refl _) dX12_printLine_52 (fun E M9 hx => kz_Tout rfl (Nat.le_refl _) (Nat.le_refl _) hx) (kz_Cmono (fun v M9 h => ?_) (fun _ _ h => h) h)
      obtain ⟨rfl, h⟩ := h
      show kz_Z G (d + 3) 0 0 mX12_printLine Qr Qx 55 [(0, .ref x0), (1, .int x1), (2, .int x2), (3, .int x3)] [] M9 0 0
      refine kz_iinc (pc := 55) 3 (i := 3) (v := x3 + 1) (ls' := [(0, .ref x0), (1, .int x1), (2, .int x2)]) rfl (congrArg (fun z => x3 + z) (by decide)) (by decide) rfl dX12_printLine_55 ?_
      refine kz_goto (pc := 58) (tgt := 23) (by decide) dX12_printLine_58 ?_
      refine kz_sub [1, 2, 3, 0] rfl ?_
      exact h
    · replace h := h.2 hb
      refine kz_aload_n (pc := 38) 0 (v := .ref x0) (i := 0) rfl rfl rfl dX12_printLine_38 ?_
      refine kz_bipush (pc := 39) (v := 32) (by decide) dX12_printLine_39 ?_
      obtain ⟨⟨fs25, he⟩, h⟩ := h
      refine kz_callV (pc := 41) (μ' := mX12_write) (ci := 11) (q := (RX12, TX12, 32)) (b := x0) (d' := d + 2) (mc' := 0) (ms' := 0) (As := [.int 32]) (st := []) (c := 0) (sl := 0) kmX12_write kw_1991 (by omega) rfl (Nat.le_of_ble_eq_true rfl) he rfl rfl (Nat.le_refl _) (Nat.le_refl _) dX12_printLine_41 (fun E M9 hx => kz_Tout rfl (Nat.le_refl _) (Nat.le_refl _) hx) (kz_Cmono (fun v M14 h => ?_) (fun _ _ h => h) h)
      obtain ⟨rfl, h⟩ := h
      show kz_Z G (d + 3) 0 0 mX12_printLine Qr Qx 44 [(0, .ref x0), (1, .int x1), (2, .int x2), (3, .int x3)] [] M14 0 0
      refine kz_aload_n (pc := 44) 0 (v := .ref x0) (i := 0) rfl rfl rfl dX12_printLine_44 ?_
      refine kz_aload_n (pc := 45) 0 (v := .ref x0) (i := 0) rfl rfl rfl dX12_printLine_45 ?_
      refine kz_iload_n (pc := 46) 1 (i := 1) rfl rfl dX12_printLine_46 ?_
      refine kz_iload_n (pc := 47) 2 (i := 2) rfl rfl dX12_printLine_47 ?_
      refine kz_iload_n (pc := 48) 3 (i := 3) rfl rfl dX12_printLine_48 ?_
      obtain ⟨⟨fs24, he⟩, h⟩ := h
      refine kz_callV (pc := 49) (μ' := mX12_wordIn) (ci := 11) (q := (RX12, TX12, 32)) (b := x0) (d' := d + 2) (mc' := 0) (ms' := 0) (As := [.int x1, .int x2, .int x3]) (st := [.ref x0]) (c := 0) (sl := 0) kmX12_wordIn kw_1705 (by omega) rfl (Nat.le_of_ble_eq_true rfl) he rfl rfl (Nat.le_refl _) (Nat.le_refl _) dX12_printLine_49 (fun E M9 hx => kz_Tout rfl (Nat.le_refl _) (Nat.le_refl _) hx) (kz_Cmono (fun v M17 h => ?_) (fun _ _ h => h) h)
      obtain ⟨r18, rfl, h⟩ := h
      show kz_Z G (d + 3) 0 0 mX12_printLine Qr Qx 52 [(0, .ref x0), (1, .int x1), (2, .int x2), (3, .int x3)] [.long r18, .ref x0] M17 0 0
      obtain ⟨⟨fs23, he⟩, h⟩ := h
      refine kz_callV (pc := 52) (μ' := mX12_writeWord) (ci := 11) (q := (RX12, TX12, 32)) (b := x0) (d' := d + 2) (mc' := 0) (ms' := 0) (As := [.long r18]) (st := []) (c := 0) (sl := 0) kmX12_writeWord kw_1995 (by omega) rfl (Nat.le_of_ble_eq_true rfl) he rfl rfl (Nat.le_refl _) (Nat.le_refl _) dX12_printLine_52 (fun E M9 hx => kz_Tout rfl (Nat.le_refl _) (Nat.le_refl _) hx) (kz_Cmono (fun v M20 h => ?_) (fun _ _ h => h) h)
      obtain ⟨rfl, h⟩ := h
      show kz_Z G (d + 3) 0 0 mX12_printLine Qr Qx 55 [(0, .ref x0), (1, .int x1), (2, .int x2), (3, .int x3)] [] M20 0 0
      refine kz_iinc (pc := 55) 3 (i := 3) (v := x3 + 1) (ls' := [(0, .ref x0), (1, .int x1), (2, .int x2)]) rfl (congrArg (fun z => x3 + z) (by decide)) (by decide) rfl dX12_printLine_55 ?_
      refine kz_goto (pc := 58) (tgt := 23) (by decide) dX12_printLine_58 ?_
      refine kz_sub [1, 2, 3, 0] rfl ?_
      exact h
theorem dX12_letterOf_0 : decode cX12_letterOf 0 = .ok (.iload_n 0, 1) := by decide +kernel
theorem dX12_letterOf_1 : decode cX12_letterOf 1 = .ok (.ifCond .ne 8, 3) := by decide +kernel
theorem dX12_letterOf_4 : decode cX12_letterOf 4 = .ok (.bipush 99, 2) := by decide +kernel
theorem dX12_letterOf_6 : decode cX12_letterOf 6 = .ok (.goto 25, 3) := by decide +kernel
theorem dX12_letterOf_9 : decode cX12_letterOf 9 = .ok (.iload_n 0, 1) := by decide +kernel
theorem dX12_letterOf_10 : decode cX12_letterOf 10 = .ok (.iconst 1, 1) := by decide +kernel
theorem dX12_letterOf_11 : decode cX12_letterOf 11 = .ok (.if_icmp .ne 8, 3) := by decide +kernel
theorem dX12_letterOf_14 : decode cX12_letterOf 14 = .ok (.bipush 120, 2) := by decide +kernel
theorem dX12_letterOf_16 : decode cX12_letterOf 16 = .ok (.goto 15, 3) := by decide +kernel
theorem dX12_letterOf_19 : decode cX12_letterOf 19 = .ok (.iload_n 0, 1) := by decide +kernel
theorem dX12_letterOf_20 : decode cX12_letterOf 20 = .ok (.iconst 2, 1) := by decide +kernel
theorem dX12_letterOf_21 : decode cX12_letterOf 21 = .ok (.if_icmp .ne 8, 3) := by decide +kernel
theorem dX12_letterOf_24 : decode cX12_letterOf 24 = .ok (.bipush 103, 2) := by decide +kernel
theorem dX12_letterOf_26 : decode cX12_letterOf 26 = .ok (.goto 5, 3) := by decide +kernel
theorem dX12_letterOf_29 : decode cX12_letterOf 29 = .ok (.bipush 108, 2) := by decide +kernel
theorem dX12_letterOf_31 : decode cX12_letterOf 31 = .ok (.ireturn, 1) := by decide +kernel
theorem rX12_letterOf_0 {G : kz_G} {d : Nat} {Qr : Option Value → kz_M → Prop} {Qx : String → kz_M → Prop} {p0 : Int32}  {M : kz_M} (h : (¬ p0 = 0 → (¬ p0 = (1 : Int32) → (¬ p0 = (2 : Int32) → Qr (some (.int 108)) M) ∧ (p0 = (2 : Int32) → Qr (some (.int 103)) M)) ∧ (p0 = (1 : Int32) → Qr (some (.int 120)) M)) ∧ (p0 = 0 → Qr (some (.int 99)) M)) : kz_C G d 0 0 mX12_letterOf [.int p0] M Qr Qx := by
  refine kz_enter (n := 1) kmX12_letterOf.1 (Nat.le_of_ble_eq_true rfl) (ls := [(0, .int p0)]) rfl ?_
  refine kz_iload_n (pc := 0) 0 (i := 0) rfl rfl dX12_letterOf_0 ?_
  refine kz_if_ne (pc := 1) (tgt := 9) (by decide) dX12_letterOf_1 (fun hb => ?_) (fun hb => ?_)
  · replace h := h.1 hb
    refine kz_iload_n (pc := 9) 0 (i := 0) rfl rfl dX12_letterOf_9 ?_
    refine kz_iconst (pc := 10) (v := 1) (by decide) dX12_letterOf_10 ?_
    refine kz_icmp_ne (pc := 11) (tgt := 19) (by decide) dX12_letterOf_11 (fun hb => ?_) (fun hb => ?_)
    · replace h := h.1 hb
      refine kz_iload_n (pc := 19) 0 (i := 0) rfl rfl dX12_letterOf_19 ?_
      refine kz_iconst (pc := 20) (v := 2) (by decide) dX12_letterOf_20 ?_
      refine kz_icmp_ne (pc := 21) (tgt := 29) (by decide) dX12_letterOf_21 (fun hb => ?_) (fun hb => ?_)
      · replace h := h.1 hb
        refine kz_bipush (pc := 29) (v := 108) (by decide) dX12_letterOf_29 ?_
        exact kz_iret (pc := 31) rfl (Nat.le_refl _) (Nat.le_refl _) dX12_letterOf_31 h
      · replace h := h.2 hb
        refine kz_bipush (pc := 24) (v := 103) (by decide) dX12_letterOf_24 ?_
        refine kz_goto (pc := 26) (tgt := 31) (by decide) dX12_letterOf_26 ?_
        exact kz_iret (pc := 31) rfl (Nat.le_refl _) (Nat.le_refl _) dX12_letterOf_31 h
    · replace h := h.2 hb
      refine kz_bipush (pc := 14) (v := 120) (by decide) dX12_letterOf_14 ?_
      refine kz_goto (pc := 16) (tgt := 31) (by decide) dX12_letterOf_16 ?_
      exact kz_iret (pc := 31) rfl (Nat.le_refl _) (Nat.le_refl _) dX12_letterOf_31 h
  · replace h := h.2 hb
    refine kz_bipush (pc := 4) (v := 99) (by decide) dX12_letterOf_4 ?_
    refine kz_goto (pc := 6) (tgt := 31) (by decide) dX12_letterOf_6 ?_
    exact kz_iret (pc := 31) rfl (Nat.le_refl _) (Nat.le_refl _) dX12_letterOf_31 h
theorem dX12_printWork_0 : decode cX12_printWork 0 = .ok (.aload_n 0, 1) := by decide +kernel
theorem dX12_printWork_1 : decode cX12_printWork 1 = .ok (.iconst 0, 1) := by decide +kernel
theorem dX12_printWork_2 : decode cX12_printWork 2 = .ok (.putfield 60, 3) := by decide +kernel
theorem dX12_printWork_5 : decode cX12_printWork 5 = .ok (.aload_n 0, 1) := by decide +kernel
theorem dX12_printWork_6 : decode cX12_printWork 6 = .ok (.iload_n 1, 1) := by decide +kernel
theorem dX12_printWork_7 : decode cX12_printWork 7 = .ok (.invokevirtual 314, 3) := by decide +kernel
theorem dX12_printWork_10 : decode cX12_printWork 10 = .ok (.ifCond .eq 5, 3) := by decide +kernel
theorem dX12_printWork_13 : decode cX12_printWork 13 = .ok (.iconst 0, 1) := by decide +kernel
theorem dX12_printWork_14 : decode cX12_printWork 14 = .ok (.ireturn, 1) := by decide +kernel
theorem dX12_printWork_15 : decode cX12_printWork 15 = .ok (.aload_n 0, 1) := by decide +kernel
theorem dX12_printWork_16 : decode cX12_printWork 16 = .ok (.iconst 0, 1) := by decide +kernel
theorem dX12_printWork_17 : decode cX12_printWork 17 = .ok (.putfield 428, 3) := by decide +kernel
theorem dX12_printWork_20 : decode cX12_printWork 20 = .ok (.iconst 0, 1) := by decide +kernel
theorem dX12_printWork_21 : decode cX12_printWork 21 = .ok (.istore_n 2, 1) := by decide +kernel
theorem dX12_printWork_22 : decode cX12_printWork 22 = .ok (.iload_n 2, 1) := by decide +kernel
theorem dX12_printWork_23 : decode cX12_printWork 23 = .ok (.aload_n 0, 1) := by decide +kernel
theorem dX12_printWork_24 : decode cX12_printWork 24 = .ok (.iload_n 1, 1) := by decide +kernel
theorem dX12_printWork_25 : decode cX12_printWork 25 = .ok (.iconst 4, 1) := by decide +kernel
theorem dX12_printWork_26 : decode cX12_printWork 26 = .ok (.invokevirtual 101, 3) := by decide +kernel
theorem dX12_printWork_29 : decode cX12_printWork 29 = .ok (.if_icmp .ge 43, 3) := by decide +kernel
theorem dX12_printWork_32 : decode cX12_printWork 32 = .ok (.iload_n 2, 1) := by decide +kernel
theorem dX12_printWork_33 : decode cX12_printWork 33 = .ok (.ifCond .le 9, 3) := by decide +kernel
theorem dX12_printWork_36 : decode cX12_printWork 36 = .ok (.aload_n 0, 1) := by decide +kernel
theorem dX12_printWork_37 : decode cX12_printWork 37 = .ok (.bipush 32, 2) := by decide +kernel
theorem dX12_printWork_39 : decode cX12_printWork 39 = .ok (.invokevirtual 431, 3) := by decide +kernel
theorem dX12_printWork_42 : decode cX12_printWork 42 = .ok (.aload_n 0, 1) := by decide +kernel
theorem dX12_printWork_43 : decode cX12_printWork 43 = .ok (.aload_n 0, 1) := by decide +kernel
theorem dX12_printWork_44 : decode cX12_printWork 44 = .ok (.iload_n 1, 1) := by decide +kernel
theorem dX12_printWork_45 : decode cX12_printWork 45 = .ok (.iload_n 2, 1) := by decide +kernel
theorem dX12_printWork_46 : decode cX12_printWork 46 = .ok (.invokevirtual 361, 3) := by decide +kernel
theorem dX12_printWork_49 : decode cX12_printWork 49 = .ok (.invokevirtual 443, 3) := by decide +kernel
theorem dX12_printWork_52 : decode cX12_printWork 52 = .ok (.aload_n 0, 1) := by decide +kernel
theorem dX12_printWork_53 : decode cX12_printWork 53 = .ok (.aload_n 0, 1) := by decide +kernel
theorem dX12_printWork_54 : decode cX12_printWork 54 = .ok (.iload_n 1, 1) := by decide +kernel
theorem dX12_printWork_55 : decode cX12_printWork 55 = .ok (.iload_n 2, 1) := by decide +kernel
theorem dX12_printWork_56 : decode cX12_printWork 56 = .ok (.iconst 2, 1) := by decide +kernel
theorem dX12_printWork_57 : decode cX12_printWork 57 = .ok (.invokevirtual 93, 3) := by decide +kernel
theorem dX12_printWork_60 : decode cX12_printWork 60 = .ok (.invokestatic 446, 3) := by decide +kernel
theorem dX12_printWork_63 : decode cX12_printWork 63 = .ok (.invokevirtual 431, 3) := by decide +kernel
theorem dX12_printWork_66 : decode cX12_printWork 66 = .ok (.iinc 2 1, 3) := by decide +kernel
theorem dX12_printWork_69 : decode cX12_printWork 69 = .ok (.goto (-47), 3) := by decide +kernel
theorem dX12_printWork_72 : decode cX12_printWork 72 = .ok (.aload_n 0, 1) := by decide +kernel
theorem dX12_printWork_73 : decode cX12_printWork 73 = .ok (.getfield 428, 3) := by decide +kernel
theorem dX12_printWork_76 : decode cX12_printWork 76 = .ok (.ireturn, 1) := by decide +kernel
def zX12_printWork_22 (G : kz_G) (d : Nat) (Qr : Option Value → kz_M → Prop) (Qx : String → kz_M → Prop) (x0 : Nat) (x1 : Int32) (x2 : Int32)  (M : kz_M) : Prop := kz_Z G (d + 4) 0 0 mX12_printWork Qr Qx 22 [(0, .ref x0), (1, .int x1), (2, .int x2)] [] M 0 0
theorem rX12_printWork_0 {G : kz_G} {d : Nat} {Qr : Option Value → kz_M → Prop} {Qx : String → kz_M → Prop} {a0 : Nat} {p1 : Int32}  {M : kz_M} (h : ∃ fs1, (M).1 a0 = some (.inl (11, fs1)) ∧ 9 < fs1.length ∧ ((∃ fs6, ((kz_up M a0 (.inl (11, fs1.set 9 (.int 0))))).1 a0 = some (.inl (11, fs6))) ∧ kz_C G (d + 3) 0 0 mX12_noWork [.ref a0, .int p1] (kz_up M a0 (.inl (11, fs1.set 9 (.int 0)))) (fun v M2 => ∃ r3 : Int32, v = some (.int r3) ∧ ((r3 = 0 → ∃ fs5, (M2).1 a0 = some (.inl (11, fs5)) ∧ 31 < fs5.length ∧ (zX12_printWork_22 G d Qr Qx a0 p1 0 (kz_up M2 a0 (.inl (11, fs5.set 31 (.int 0)))))) ∧ (¬ r3 = 0 → Qr (some (.int 0)) M2))) Qx)) : kz_C G (d + 4) 0 0 mX12_printWork [.ref a0, .int p1] M Qr Qx := by
  refine kz_enter (n := 1) kmX12_printWork.1 (Nat.le_of_ble_eq_true rfl) (ls := [(0, .ref a0), (1, .int p1)]) rfl ?_
  refine kz_aload_n (pc := 0) 0 (v := .ref a0) (i := 0) rfl rfl rfl dX12_printWork_0 ?_
  refine kz_iconst (pc := 1) (v := 0) (by decide) dX12_printWork_1 ?_
  obtain ⟨fs1, hM, hlen, h⟩ := h
  refine kz_putf (pc := 2) (k := 9) kcX12 hM (by decide) hlen kw_1387 rfl rfl rfl dX12_printWork_2 ?_
  refine kz_aload_n (pc := 5) 0 (v := .ref a0) (i := 0) rfl rfl rfl dX12_printWork_5 ?_
  refine kz_iload_n (pc := 6) 1 (i := 1) rfl rfl dX12_printWork_6 ?_
  obtain ⟨⟨fs6, he⟩, h⟩ := h
  refine kz_callV (pc := 7) (μ' := mX12_noWork) (ci := 11) (q := (RX12, TX12, 32)) (b := a0) (d' := d + 3) (mc' := 0) (ms' := 0) (As := [.int p1]) (st := []) (c := 0) (sl := 0) kmX12_noWork kw_1713 (by omega) rfl (Nat.le_of_ble_eq_true rfl) he rfl rfl (Nat.le_refl _) (Nat.le_refl _) dX12_printWork_7 (fun E M9 hx => kz_Tout rfl (Nat.le_refl _) (Nat.le_refl _) hx) (kz_Cmono (fun v M2 h => ?_) (fun _ _ h => h) h)
  obtain ⟨r3, rfl, h⟩ := h
  show kz_Z G (d + 4) 0 0 mX12_printWork Qr Qx 10 [(0, .ref a0), (1, .int p1)] [.int r3] M2 0 0
  refine kz_if_eq (pc := 10) (tgt := 15) (by decide) dX12_printWork_10 (fun hb => ?_) (fun hb => ?_)
  · replace h := h.1 hb
    refine kz_aload_n (pc := 15) 0 (v := .ref a0) (i := 0) rfl rfl rfl dX12_printWork_15 ?_
    refine kz_iconst (pc := 16) (v := 0) (by decide) dX12_printWork_16 ?_
    obtain ⟨fs5, hM, hlen, h⟩ := h
    refine kz_putf (pc := 17) (k := 31) kcX12 hM (by decide) hlen kw_1409 rfl rfl rfl dX12_printWork_17 ?_
    refine kz_iconst (pc := 20) (v := 0) (by decide) dX12_printWork_20 ?_
    refine kz_istore_n (pc := 21) (i := 2) (ls' := [(0, .ref a0), (1, .int p1)]) rfl (by decide) rfl dX12_printWork_21 ?_
    refine kz_sub [1, 2, 0] rfl ?_
    exact h
  · replace h := h.2 hb
    refine kz_iconst (pc := 13) (v := 0) (by decide) dX12_printWork_13 ?_
    exact kz_iret (pc := 14) rfl (Nat.le_refl _) (Nat.le_refl _) dX12_printWork_14 h
theorem rX12_printWork_22 {G : kz_G} {d : Nat} {Qr : Option Value → kz_M → Prop} {Qx : String → kz_M → Prop} {x0 : Nat} {x1 : Int32} {x2 : Int32}  {M : kz_M} (h : (∃ fs50, (M).1 x0 = some (.inl (11, fs50))) ∧ kz_C G (d + 3) 0 0 mX12_of [.ref x0, .int x1, .int 4] M (fun v M1 => ∃ r2 : Int32, v = some (.int r2) ∧ ((r2 ≤ x2 → ∃ fs4 v5, (M1).1 x0 = some (.inl (11, fs4)) ∧ fs4[31]? = some (.int v5) ∧ (Qr (some (.int v5)) M1)) ∧ (¬ r2 ≤ x2 → (x2 ≤ 0 → (∃ fs25, (M1).1 x0 = some (.inl (11, fs25))) ∧ kz_C G (d + 3) 0 0 mX12_widthOf [.ref x0, .int x1, .int x2] M1 (fun v M6 => ∃ r7 : Int32, v = some (.int r7) ∧ ((∃ fs24, (M6).1 x0 = some (.inl (11, fs24))) ∧ kz_C G (d + 3) 0 0 mX12_writeNumber [.ref x0, .int r7] M6 (fun v M9 => v = none ∧ ((∃ fs23, (M9).1 x0 = some (.inl (11, fs23))) ∧ kz_C G (d + 3) 0 0 mX12_ofLine [.ref x0, .int x1, .int x2, .int 2] M9 (fun v M12 => ∃ r13 : Int32, v = some (.int r13) ∧ (kz_C G (d + 3) 0 0 mX12_letterOf [.int r13] M12 (fun v M15 => ∃ r16 : Int32, v = some (.int r16) ∧ ((∃ fs21, (M15).1 x0 = some (.inl (11, fs21))) ∧ kz_C G (d + 3) 0 0 mX12_write [.ref x0, .int r16] M15 (fun v M18 => v = none ∧ (zX12_printWork_22 G d Qr Qx x0 x1 (x2 + 1) M18)) Qx)) Qx)) Qx)) Qx)) Qx) ∧ (¬ x2 ≤ 0 → (∃ fs49, (M1).1 x0 = some (.inl (11, fs49))) ∧ kz_C G (d + 3) 0 0 mX12_write [.ref x0, .int 32] M1 (fun v M26 => v = none ∧ ((∃ fs48, (M26).1 x0 = some (.inl (11, fs48))) ∧ kz_C G (d + 3) 0 0 mX12_widthOf [.ref x0, .int x1, .int x2] M26 (fun v M29 => ∃ r30 : Int32, v = some (.int r30) ∧ ((∃ fs47, (M29).1 x0 = some (.inl (11, fs47))) ∧ kz_C G (d + 3) 0 0 mX12_writeNumber [.ref x0, .int r30] M29 (fun v M32 => v = none ∧ ((∃ fs46, (M32).1 x0 = some (.inl (11, fs46))) ∧ kz_C G (d + 3) 0 0 mX12_ofLine [.ref x0, .int x1, .int x2, .int 2] M32 (fun v M35 => ∃ r36 : Int32, v = some (.int r36) ∧ (kz_C G (d + 3) 0 0 mX12_letterOf [.int r36] M35 (fun v M38 => ∃ r39 : Int32, v = some (.int r39) ∧ ((∃ fs44, (M38).1 x0 = some (.inl (11, fs44))) ∧ kz_C G (d + 3) 0 0 mX12_write [.ref x0, .int r39] M38 (fun v M41 => v = none ∧ (zX12_printWork_22 G d Qr Qx x0 x1 (x2 + 1) M41)) Qx)) Qx)) Qx)) Qx)) Qx)) Qx)))) Qx) : zX12_printWork_22 G d Qr Qx x0 x1 x2  M := by
  show kz_Z G (d + 4) 0 0 mX12_printWork Qr Qx 22 [(0, .ref x0), (1, .int x1), (2, .int x2)] [] M 0 0
  refine kz_iload_n (pc := 22) 2 (i := 2) rfl rfl dX12_printWork_22 ?_
  refine kz_aload_n (pc := 23) 0 (v := .ref x0) (i := 0) rfl rfl rfl dX12_printWork_23 ?_
  refine kz_iload_n (pc := 24) 1 (i := 1) rfl rfl dX12_printWork_24 ?_
  refine kz_iconst (pc := 25) (v := 4) (by decide) dX12_printWork_25 ?_
  obtain ⟨⟨fs50, he⟩, h⟩ := h
  refine kz_callV (pc := 26) (μ' := mX12_of) (ci := 11) (q := (RX12, TX12, 32)) (b := x0) (d' := d + 3) (mc' := 0) (ms' := 0) (As := [.int x1, .int 4]) (st := [.int x2]) (c := 0) (sl := 0) kmX12_of kw_1620 (by omega) rfl (Nat.le_of_ble_eq_true rfl) he rfl rfl (Nat.le_refl _) (Nat.le_refl _) dX12_printWork_26 (fun E M9 hx => kz_Tout rfl (Nat.le_refl _) (Nat.le_refl _) hx) (kz_Cmono (fun v M1 h => ?_) (fun _ _ h => h) h)
  obtain ⟨r2, rfl, h⟩ := h
  show kz_Z G (d + 4) 0 0 mX12_printWork Qr Qx 29 [(0, .ref x0), (1, .int x1), (2, .int x2)] [.int r2, .int x2] M1 0 0
  refine kz_icmp_ge (pc := 29) (tgt := 72) (by decide) dX12_printWork_29 (fun hb => ?_) (fun hb => ?_)
  · replace h := h.1 hb
    refine kz_aload_n (pc := 72) 0 (v := .ref x0) (i := 0) rfl rfl rfl dX12_printWork_72 ?_
    obtain ⟨fs4, v5, hM, hv, h⟩ := h
    refine kz_getf (pc := 73) (k := 31) kcX12 hM hv (by decide) kw_1409 dX12_printWork_73 ?_
    exact kz_iret (pc := 76) rfl (Nat.le_refl _) (Nat.le_refl _) dX12_printWork_76 h
  · replace h := h.2 hb
    refine kz_iload_n (pc := 32) 2 (i := 2) rfl rfl dX12_printWork_32 ?_
    refine kz_if_le (pc := 33) (tgt := 42) (by decide) dX12_printWork_33 (fun hb => ?_) (fun hb => ?_)
    · replace h := h.1 hb
      refine kz_aload_n (pc := 42) 0 (v := .ref x0) (i := 0) rfl rfl rfl dX12_printWork_42 ?_
      refine kz_aload_n (pc := 43) 0 (v := .ref x0) (i := 0) rfl rfl rfl dX12_printWork_43 ?_
      refine kz_iload_n (pc := 44) 1 (i := 1) rfl rfl dX12_printWork_44 ?_
      refine kz_iload_n (pc := 45) 2 (i := 2) rfl rfl dX12_printWork_45 ?_
      obtain ⟨⟨fs25, he⟩, h⟩ := h
      refine kz_callV (pc := 46) (μ' := mX12_widthOf) (ci := 11) (q := (RX12, TX12, 32)) (b := x0) (d' := d + 3) (mc' := 0) (ms' := 0) (As := [.int x1, .int x2]) (st := [.ref x0]) (c := 0) (sl := 0) kmX12_widthOf kw_1733 (by omega) rfl (Nat.le_of_ble_eq_true rfl) he rfl rfl (Nat.le_refl _) (Nat.le_refl _) dX12_printWork_46 (fun E M9 hx => kz_Tout rfl (Nat.le_refl _) (Nat.le_refl _) hx) (kz_Cmono (fun v M6 h => ?_) (fun _ _ h => h) h)
      obtain ⟨r7, rfl, h⟩ := h
      show kz_Z G (d + 4) 0 0 mX12_printWork Qr Qx 49 [(0, .ref x0), (1, .int x1), (2, .int x2)] [.int r7, .ref x0] M6 0 0
      obtain ⟨⟨fs24, he⟩, h⟩ := h
      refine kz_callV (pc := 49) (μ' := mX12_writeNumber) (ci := 11) (q := (RX12, TX12, 32)) (b := x0) (d' := d + 3) (mc' := 0) (ms' := 0) (As := [.int r7]) (st := []) (c := 0) (sl := 0) kmX12_writeNumber kw_2004 (by omega) rfl (Nat.le_of_ble_eq_true rfl) he rfl rfl (Nat.le_refl _) (Nat.le_refl _) dX12_printWork_49 (fun E M9 hx => kz_Tout rfl (Nat.le_refl _) (Nat.le_refl _) hx) (kz_Cmono (fun v M9 h => ?_) (fun _ _ h => h) h)
      obtain ⟨rfl, h⟩ := h
      show kz_Z G (d + 4) 0 0 mX12_printWork Qr Qx 52 [(0, .ref x0), (1, .int x1), (2, .int x2)] [] M9 0 0
      refine kz_aload_n (pc := 52) 0 (v := .ref x0) (i := 0) rfl rfl rfl dX12_printWork_52 ?_
      refine kz_aload_n (pc := 53) 0 (v := .ref x0) (i := 0) rfl rfl rfl dX12_printWork_53 ?_
      refine kz_iload_n (pc := 54) 1 (i := 1) rfl rfl dX12_printWork_54 ?_
      refine kz_iload_n (pc := 55) 2 (i := 2) rfl rfl dX12_printWork_55 ?_
      refine kz_iconst (pc := 56) (v := 2) (by decide) dX12_printWork_56 ?_
      obtain ⟨⟨fs23, he⟩, h⟩ := h
      refine kz_callV (pc := 57) (μ' := mX12_ofLine) (ci := 11) (q := (RX12, TX12, 32)) (b := x0) (d' := d + 3) (mc' := 0) (ms' := 0) (As := [.int x1, .int x2, .int 2]) (st := [.ref x0]) (c := 0) (sl := 0) kmX12_ofLine kw_1636 (by omega) rfl (Nat.le_of_ble_eq_true rfl) he rfl rfl (Nat.le_refl _) (Nat.le_refl _) dX12_printWork_57 (fun E M9 hx => kz_Tout rfl (Nat.le_refl _) (Nat.le_refl _) hx) (kz_Cmono (fun v M12 h => ?_) (fun _ _ h => h) h)
      obtain ⟨r13, rfl, h⟩ := h
      show kz_Z G (d + 4) 0 0 mX12_printWork Qr Qx 60 [(0, .ref x0), (1, .int x1), (2, .int x2)] [.int r13, .ref x0] M12 0 0
      refine kz_callS (pc := 60) (μ' := mX12_letterOf) (d' := d + 3) (mc' := 0) (ms' := 0) (As := [.int r13]) (st := [.ref x0]) (c := 0) (sl := 0) kmX12_letterOf kw_2011 (by omega) rfl (Nat.le_of_ble_eq_true rfl) (Nat.le_refl _) (Nat.le_refl _) dX12_printWork_60 (fun E M9 hx => kz_Tout rfl (Nat.le_refl _) (Nat.le_refl _) hx) (kz_Cmono (fun v M15 h => ?_) (fun _ _ h => h) h)
      obtain ⟨r16, rfl, h⟩ := h
      show kz_Z G (d + 4) 0 0 mX12_printWork Qr Qx 63 [(0, .ref x0), (1, .int x1), (2, .int x2)] [.int r16, .ref x0] M15 0 0
      obtain ⟨⟨fs21, he⟩, h⟩ := h
      refine kz_callV (pc := 63) (μ' := mX12_write) (ci := 11) (q := (RX12, TX12, 32)) (b := x0) (d' := d + 3) (mc' := 0) (ms' := 0) (As := [.int r16]) (st := []) (c := 0) (sl := 0) kmX12_write kw_1991 (by omega) rfl (Nat.le_of_ble_eq_true rfl) he rfl rfl (Nat.le_refl _) (Nat.le_refl _) dX12_printWork_63 (fun E M9 hx => kz_Tout rfl (Nat.le_refl _) (Nat.le_refl _) hx) (kz_Cmono (fun v M18 h => ?_) (fun _ _ h => h) h)
      obtain ⟨rfl, h⟩ := h
      show kz_Z G (d + 4) 0 0 mX12_printWork Qr Qx 66 [(0, .ref x0), (1, .int x1), (2, .int x2)] [] M18 0 0
      refine kz_iinc (pc := 66) 2 (i := 2) (v := x2 + 1) (ls' := [(0, .ref x0), (1, .int x1)]) rfl (congrArg (fun z => x2 + z) (by decide)) (by decide) rfl dX12_printWork_66 ?_
      refine kz_goto (pc := 69) (tgt := 22) (by decide) dX12_printWork_69 ?_
      refine kz_sub [1, 2, 0] rfl ?_
      exact h
    · replace h := h.2 hb
      refine kz_aload_n (pc := 36) 0 (v := .ref x0) (i := 0) rfl rfl rfl dX12_printWork_36 ?_
      refine kz_bipush (pc := 37) (v := 32) (by decide) dX12_printWork_37 ?_
      obtain ⟨⟨fs49, he⟩, h⟩ := h
      refine kz_callV (pc := 39) (μ' := mX12_write) (ci := 11) (q := (RX12, TX12, 32)) (b := x0) (d' := d + 3) (mc' := 0) (ms' := 0) (As := [.int 32]) (st := []) (c := 0) (sl := 0) kmX12_write kw_1991 (by omega) rfl (Nat.le_of_ble_eq_true rfl) he rfl rfl (Nat.le_refl _) (Nat.le_refl _) dX12_printWork_39 (fun E M9 hx => kz_Tout rfl (Nat.le_refl _) (Nat.le_refl _) hx) (kz_Cmono (fun v M26 h => ?_) (fun _ _ h => h) h)
      obtain ⟨rfl, h⟩ := h
      show kz_Z G (d + 4) 0 0 mX12_printWork Qr Qx 42 [(0, .ref x0), (1, .int x1), (2, .int x2)] [] M26 0 0
      refine kz_aload_n (pc := 42) 0 (v := .ref x0) (i := 0) rfl rfl rfl dX12_printWork_42 ?_
      refine kz_aload_n (pc := 43) 0 (v := .ref x0) (i := 0) rfl rfl rfl dX12_printWork_43 ?_
      refine kz_iload_n (pc := 44) 1 (i := 1) rfl rfl dX12_printWork_44 ?_
      refine kz_iload_n (pc := 45) 2 (i := 2) rfl rfl dX12_printWork_45 ?_
      obtain ⟨⟨fs48, he⟩, h⟩ := h
      refine kz_callV (pc := 46) (μ' := mX12_widthOf) (ci := 11) (q := (RX12, TX12, 32)) (b := x0) (d' := d + 3) (mc' := 0) (ms' := 0) (As := [.int x1, .int x2]) (st := [.ref x0]) (c := 0) (sl := 0) kmX12_widthOf kw_1733 (by omega) rfl (Nat.le_of_ble_eq_true rfl) he rfl rfl (Nat.le_refl _) (Nat.le_refl _) dX12_printWork_46 (fun E M9 hx => kz_Tout rfl (Nat.le_refl _) (Nat.le_refl _) hx) (kz_Cmono (fun v M29 h => ?_) (fun _ _ h => h) h)
      obtain ⟨r30, rfl, h⟩ := h
      show kz_Z G (d + 4) 0 0 mX12_printWork Qr Qx 49 [(0, .ref x0), (1, .int x1), (2, .int x2)] [.int r30, .ref x0] M29 0 0
      obtain ⟨⟨fs47, he⟩, h⟩ := h
      refine kz_callV (pc := 49) (μ' := mX12_writeNumber) (ci := 11) (q := (RX12, TX12, 32)) (b := x0) (d' := d + 3) (mc' := 0) (ms' := 0) (As := [.int r30]) (st := []) (c := 0) (sl := 0) kmX12_writeNumber kw_2004 (by omega) rfl (Nat.le_of_ble_eq_true rfl) he rfl rfl (Nat.le_refl _) (Nat.le_refl _) dX12_printWork_49 (fun E M9 hx => kz_Tout rfl (Nat.le_refl _) (Nat.le_refl _) hx) (kz_Cmono (fun v M32 h => ?_) (fun _ _ h => h) h)
      obtain ⟨rfl, h⟩ := h
      show kz_Z G (d + 4) 0 0 mX12_printWork Qr Qx 52 [(0, .ref x0), (1, .int x1), (2, .int x2)] [] M32 0 0
      refine kz_aload_n (pc := 52) 0 (v := .ref x0) (i := 0) rfl rfl rfl dX12_printWork_52 ?_
      refine kz_aload_n (pc := 53) 0 (v := .ref x0) (i := 0) rfl rfl rfl dX12_printWork_53 ?_
      refine kz_iload_n (pc := 54) 1 (i := 1) rfl rfl dX12_printWork_54 ?_
      refine kz_iload_n (pc := 55) 2 (i := 2) rfl rfl dX12_printWork_55 ?_
      refine kz_iconst (pc := 56) (v := 2) (by decide) dX12_printWork_56 ?_
      obtain ⟨⟨fs46, he⟩, h⟩ := h
      refine kz_callV (pc := 57) (μ' := mX12_ofLine) (ci := 11) (q := (RX12, TX12, 32)) (b := x0) (d' := d + 3) (mc' := 0) (ms' := 0) (As := [.int x1, .int x2, .int 2]) (st := [.ref x0]) (c := 0) (sl := 0) kmX12_ofLine kw_1636 (by omega) rfl (Nat.le_of_ble_eq_true rfl) he rfl rfl (Nat.le_refl _) (Nat.le_refl _) dX12_printWork_57 (fun E M9 hx => kz_Tout rfl (Nat.le_refl _) (Nat.le_refl _) hx) (kz_Cmono (fun v M35 h => ?_) (fun _ _ h => h) h)
      obtain ⟨r36, rfl, h⟩ := h
      show kz_Z G (d + 4) 0 0 mX12_printWork Qr Qx 60 [(0, .ref x0), (1, .int x1), (2, .int x2)] [.int r36, .ref x0] M35 0 0
      refine kz_callS (pc := 60) (μ' := mX12_letterOf) (d' := d + 3) (mc' := 0) (ms' := 0) (As := [.int r36]) (st := [.ref x0]) (c := 0) (sl := 0) kmX12_letterOf kw_2011 (by omega) rfl (Nat.le_of_ble_eq_true rfl) (Nat.le_refl _) (Nat.le_refl _) dX12_printWork_60 (fun E M9 hx => kz_Tout rfl (Nat.le_refl _) (Nat.le_refl _) hx) (kz_Cmono (fun v M38 h => ?_) (fun _ _ h => h) h)
      obtain ⟨r39, rfl, h⟩ := h
      show kz_Z G (d + 4) 0 0 mX12_printWork Qr Qx 63 [(0, .ref x0), (1, .int x1), (2, .int x2)] [.int r39, .ref x0] M38 0 0
      obtain ⟨⟨fs44, he⟩, h⟩ := h
      refine kz_callV (pc := 63) (μ' := mX12_write) (ci := 11) (q := (RX12, TX12, 32)) (b := x0) (d' := d + 3) (mc' := 0) (ms' := 0) (As := [.int r39]) (st := []) (c := 0) (sl := 0) kmX12_write kw_1991 (by omega) rfl (Nat.le_of_ble_eq_true rfl) he rfl rfl (Nat.le_refl _) (Nat.le_refl _) dX12_printWork_63 (fun E M9 hx => kz_Tout rfl (Nat.le_refl _) (Nat.le_refl _) hx) (kz_Cmono (fun v M41 h => ?_) (fun _ _ h => h) h)
      obtain ⟨rfl, h⟩ := h
      show kz_Z G (d + 4) 0 0 mX12_printWork Qr Qx 66 [(0, .ref x0), (1, .int x1), (2, .int x2)] [] M41 0 0
      refine kz_iinc (pc := 66) 2 (i := 2) (v := x2 + 1) (ls' := [(0, .ref x0), (1, .int x1)]) rfl (congrArg (fun z => x2 + z) (by decide)) (by decide) rfl dX12_printWork_66 ?_
      refine kz_goto (pc := 69) (tgt := 22) (by decide) dX12_printWork_69 ?_
      refine kz_sub [1, 2, 0] rfl ?_
      exact h
theorem dX12_printBalances_0 : decode cX12_printBalances 0 = .ok (.aload_n 0, 1) := by decide +kernel
theorem dX12_printBalances_1 : decode cX12_printBalances 1 = .ok (.iconst 0, 1) := by decide +kernel
theorem dX12_printBalances_2 : decode cX12_printBalances 2 = .ok (.putfield 60, 3) := by decide +kernel
theorem dX12_printBalances_5 : decode cX12_printBalances 5 = .ok (.aload_n 0, 1) := by decide +kernel
theorem dX12_printBalances_6 : decode cX12_printBalances 6 = .ok (.iconst 0, 1) := by decide +kernel
theorem dX12_printBalances_7 : decode cX12_printBalances 7 = .ok (.putfield 428, 3) := by decide +kernel
theorem dX12_printBalances_10 : decode cX12_printBalances 10 = .ok (.iconst 0, 1) := by decide +kernel
theorem dX12_printBalances_11 : decode cX12_printBalances 11 = .ok (.istore_n 1, 1) := by decide +kernel
theorem dX12_printBalances_12 : decode cX12_printBalances 12 = .ok (.iload_n 1, 1) := by decide +kernel
theorem dX12_printBalances_13 : decode cX12_printBalances 13 = .ok (.aload_n 0, 1) := by decide +kernel
theorem dX12_printBalances_14 : decode cX12_printBalances 14 = .ok (.getfield 7, 3) := by decide +kernel
theorem dX12_printBalances_17 : decode cX12_printBalances 17 = .ok (.iconst 0, 1) := by decide +kernel
theorem dX12_printBalances_18 : decode cX12_printBalances 18 = .ok (.iaload, 1) := by decide +kernel
theorem dX12_printBalances_19 : decode cX12_printBalances 19 = .ok (.if_icmp .ge 43, 3) := by decide +kernel
theorem dX12_printBalances_22 : decode cX12_printBalances 22 = .ok (.iload_n 1, 1) := by decide +kernel
theorem dX12_printBalances_23 : decode cX12_printBalances 23 = .ok (.ifCond .le 9, 3) := by decide +kernel
theorem dX12_printBalances_26 : decode cX12_printBalances 26 = .ok (.aload_n 0, 1) := by decide +kernel
theorem dX12_printBalances_27 : decode cX12_printBalances 27 = .ok (.bipush 32, 2) := by decide +kernel
theorem dX12_printBalances_29 : decode cX12_printBalances 29 = .ok (.invokevirtual 431, 3) := by decide +kernel
theorem dX12_printBalances_32 : decode cX12_printBalances 32 = .ok (.aload_n 0, 1) := by decide +kernel
theorem dX12_printBalances_33 : decode cX12_printBalances 33 = .ok (.iload_n 1, 1) := by decide +kernel
theorem dX12_printBalances_34 : decode cX12_printBalances 34 = .ok (.invokevirtual 449, 3) := by decide +kernel
theorem dX12_printBalances_37 : decode cX12_printBalances 37 = .ok (.aload_n 0, 1) := by decide +kernel
theorem dX12_printBalances_38 : decode cX12_printBalances 38 = .ok (.bipush 61, 2) := by decide +kernel
theorem dX12_printBalances_40 : decode cX12_printBalances 40 = .ok (.invokevirtual 431, 3) := by decide +kernel
theorem dX12_printBalances_43 : decode cX12_printBalances 43 = .ok (.aload_n 0, 1) := by decide +kernel
theorem dX12_printBalances_44 : decode cX12_printBalances 44 = .ok (.aload_n 0, 1) := by decide +kernel
theorem dX12_printBalances_45 : decode cX12_printBalances 45 = .ok (.getfield 7, 3) := by decide +kernel
theorem dX12_printBalances_48 : decode cX12_printBalances 48 = .ok (.bipush 21, 2) := by decide +kernel
theorem dX12_printBalances_50 : decode cX12_printBalances 50 = .ok (.iload_n 1, 1) := by decide +kernel
theorem dX12_printBalances_51 : decode cX12_printBalances 51 = .ok (.iadd, 1) := by decide +kernel
theorem dX12_printBalances_52 : decode cX12_printBalances 52 = .ok (.iaload, 1) := by decide +kernel
theorem dX12_printBalances_53 : decode cX12_printBalances 53 = .ok (.invokevirtual 443, 3) := by decide +kernel
theorem dX12_printBalances_56 : decode cX12_printBalances 56 = .ok (.iinc 1 1, 3) := by decide +kernel
theorem dX12_printBalances_59 : decode cX12_printBalances 59 = .ok (.goto (-47), 3) := by decide +kernel
theorem dX12_printBalances_62 : decode cX12_printBalances 62 = .ok (.aload_n 0, 1) := by decide +kernel
theorem dX12_printBalances_63 : decode cX12_printBalances 63 = .ok (.getfield 428, 3) := by decide +kernel
theorem dX12_printBalances_66 : decode cX12_printBalances 66 = .ok (.ireturn, 1) := by decide +kernel
def zX12_printBalances_12 (G : kz_G) (d : Nat) (Qr : Option Value → kz_M → Prop) (Qx : String → kz_M → Prop) (x0 : Nat) (x1 : Int32)  (M : kz_M) : Prop := kz_Z G (d + 2) 0 0 mX12_printBalances Qr Qx 12 [(0, .ref x0), (1, .int x1)] [] M 0 0
theorem rX12_printBalances_0 {G : kz_G} {d : Nat} {Qr : Option Value → kz_M → Prop} {Qx : String → kz_M → Prop} {a0 : Nat}  {M : kz_M} (h : ∃ fs1, (M).1 a0 = some (.inl (11, fs1)) ∧ 9 < fs1.length ∧ (∃ fs2, ((kz_up M a0 (.inl (11, fs1.set 9 (.int 0))))).1 a0 = some (.inl (11, fs2)) ∧ 31 < fs2.length ∧ (zX12_printBalances_12 G d Qr Qx a0 0 (kz_up (kz_up M a0 (.inl (11, fs1.set 9 (.int 0)))) a0 (.inl (11, fs2.set 31 (.int 0))))))) : kz_C G (d + 2) 0 0 mX12_printBalances [.ref a0] M Qr Qx := by
  refine kz_enter (n := 0) kmX12_printBalances.1 (Nat.le_of_ble_eq_true rfl) (ls := [(0, .ref a0)]) rfl ?_
  refine kz_aload_n (pc := 0) 0 (v := .ref a0) (i := 0) rfl rfl rfl dX12_printBalances_0 ?_
  refine kz_iconst (pc := 1) (v := 0) (by decide) dX12_printBalances_1 ?_
  obtain ⟨fs1, hM, hlen, h⟩ := h
  refine kz_putf (pc := 2) (k := 9) kcX12 hM (by decide) hlen kw_1387 rfl rfl rfl dX12_printBalances_2 ?_
  refine kz_aload_n (pc := 5) 0 (v := .ref a0) (i := 0) rfl rfl rfl dX12_printBalances_5 ?_
  refine kz_iconst (pc := 6) (v := 0) (by decide) dX12_printBalances_6 ?_
  obtain ⟨fs2, hM, hlen, h⟩ := h
  refine kz_putf (pc := 7) (k := 31) kcX12 hM (by decide) hlen kw_1409 rfl rfl rfl dX12_printBalances_7 ?_
  refine kz_iconst (pc := 10) (v := 0) (by decide) dX12_printBalances_10 ?_
  refine kz_istore_n (pc := 11) (i := 1) (ls' := [(0, .ref a0)]) rfl (by decide) rfl dX12_printBalances_11 ?_
  refine kz_sub [1, 0] rfl ?_
  exact h
theorem rX12_printBalances_12 {G : kz_G} {d : Nat} {Qr : Option Value → kz_M → Prop} {Qx : String → kz_M → Prop} {x0 : Nat} {x1 : Int32}  {M : kz_M} (h : ∃ fs1 v2, (M).1 x0 = some (.inl (11, fs1)) ∧ fs1[0]? = some (.ref v2) ∧ (∃ n3 f4, (M).1 v2 = some (.inr (.int, n3, .inl f4)) ∧ vp_in (0 : Int32) n3 ∧ (((f4 (0 : Int32).toNatClampNeg) ≤ x1 → ∃ fs5 v6, (M).1 x0 = some (.inl (11, fs5)) ∧ fs5[31]? = some (.int v6) ∧ (Qr (some (.int v6)) M)) ∧ (¬ (f4 (0 : Int32).toNatClampNeg) ≤ x1 → (x1 ≤ 0 → (∃ fs22, (M).1 x0 = some (.inl (11, fs22))) ∧ kz_C G (d + 1) 0 0 mX12_writeName [.ref x0, .int x1] M (fun v M7 => v = none ∧ ((∃ fs21, (M7).1 x0 = some (.inl (11, fs21))) ∧ kz_C G (d + 1) 0 0 mX12_write [.ref x0, .int 61] M7 (fun v M10 => v = none ∧ (∃ fs13 v14, (M10).1 x0 = some (.inl (11, fs13)) ∧ fs13[0]? = some (.ref v14) ∧ (∃ n15 f16, (M10).1 v14 = some (.inr (.int, n15, .inl f16)) ∧ vp_in (21 + x1) n15 ∧ ((∃ fs20, (M10).1 x0 = some (.inl (11, fs20))) ∧ kz_C G (d + 1) 0 0 mX12_writeNumber [.ref x0, .int (f16 (21 + x1).toNatClampNeg)] M10 (fun v M17 => v = none ∧ (zX12_printBalances_12 G d Qr Qx x0 (x1 + 1) M17)) Qx)))) Qx)) Qx) ∧ (¬ x1 ≤ 0 → (∃ fs42, (M).1 x0 = some (.inl (11, fs42))) ∧ kz_C G (d + 1) 0 0 mX12_write [.ref x0, .int 32] M (fun v M23 => v = none ∧ ((∃ fs41, (M23).1 x0 = some (.inl (11, fs41))) ∧ kz_C G (d + 1) 0 0 mX12_writeName [.ref x0, .int x1] M23 (fun v M26 => v = none ∧ ((∃ fs40, (M26).1 x0 = some (.inl (11, fs40))) ∧ kz_C G (d + 1) 0 0 mX12_write [.ref x0, .int 61] M26 (fun v M29 => v = none ∧ (∃ fs32 v33, (M29).1 x0 = some (.inl (11, fs32)) ∧ fs32[0]? = some (.ref v33) ∧ (∃ n34 f35, (M29).1 v33 = some (.inr (.int, n34, .inl f35)) ∧ vp_in (21 + x1) n34 ∧ ((∃ fs39, (M29).1 x0 = some (.inl (11, fs39))) ∧ kz_C G (d + 1) 0 0 mX12_writeNumber [.ref x0, .int (f35 (21 + x1).toNatClampNeg)] M29 (fun v M36 => v = none ∧ (zX12_printBalances_12 G d Qr Qx x0 (x1 + 1) M36)) Qx)))) Qx)) Qx)) Qx))))) : zX12_printBalances_12 G d Qr Qx x0 x1  M := by
  show kz_Z G (d + 2) 0 0 mX12_printBalances Qr Qx 12 [(0, .ref x0), (1, .int x1)] [] M 0 0
  refine kz_iload_n (pc := 12) 1 (i := 1) rfl rfl dX12_printBalances_12 ?_
  refine kz_aload_n (pc := 13) 0 (v := .ref x0) (i := 0) rfl rfl rfl dX12_printBalances_13 ?_
  obtain ⟨fs1, v2, hM, hv, h⟩ := h
  refine kz_getf (pc := 14) (k := 0) kcX12 hM hv (by decide) kw_1378 dX12_printBalances_14 ?_
  refine kz_iconst (pc := 17) (v := 0) (by decide) dX12_printBalances_17 ?_
  obtain ⟨n3, f4, hM, hi, h⟩ := h
  refine kz_iald (pc := 18) hM hi dX12_printBalances_18 ?_
  refine kz_icmp_ge (pc := 19) (tgt := 62) (by decide) dX12_printBalances_19 (fun hb => ?_) (fun hb => ?_)
  · replace h := h.1 hb
    refine kz_aload_n (pc := 62) 0 (v := .ref x0) (i := 0) rfl rfl rfl dX12_printBalances_62 ?_
    obtain ⟨fs5, v6, hM, hv, h⟩ := h
    refine kz_getf (pc := 63) (k := 31) kcX12 hM hv (by decide) kw_1409 dX12_printBalances_63 ?_
    exact kz_iret (pc := 66) rfl (Nat.le_refl _) (Nat.le_refl _) dX12_printBalances_66 h
  · replace h := h.2 hb
    refine kz_iload_n (pc := 22) 1 (i := 1) rfl rfl dX12_printBalances_22 ?_
    refine kz_if_le (pc := 23) (tgt := 32) (by decide) dX12_printBalances_23 (fun hb => ?_) (fun hb => ?_)
    · replace h := h.1 hb
      refine kz_aload_n (pc := 32) 0 (v := .ref x0) (i := 0) rfl rfl rfl dX12_printBalances_32 ?_
      refine kz_iload_n (pc := 33) 1 (i := 1) rfl rfl dX12_printBalances_33 ?_
      obtain ⟨⟨fs22, he⟩, h⟩ := h
      refine kz_callV (pc := 34) (μ' := mX12_writeName) (ci := 11) (q := (RX12, TX12, 32)) (b := x0) (d' := d + 1) (mc' := 0) (ms' := 0) (As := [.int x1]) (st := []) (c := 0) (sl := 0) kmX12_writeName kw_2018 (by omega) rfl (Nat.le_of_ble_eq_true rfl) he rfl rfl (Nat.le_refl _) (Nat.le_refl _) dX12_printBalances_34 (fun E M9 hx => kz_Tout rfl (Nat.le_refl _) (Nat.le_refl _) hx) (kz_Cmono (fun v M7 h => ?_) (fun _ _ h => h) h)
      obtain ⟨rfl, h⟩ := h
      show kz_Z G (d + 2) 0 0 mX12_printBalances Qr Qx 37 [(0, .ref x0), (1, .int x1)] [] M7 0 0
      refine kz_aload_n (pc := 37) 0 (v := .ref x0) (i := 0) rfl rfl rfl dX12_printBalances_37 ?_
      refine kz_bipush (pc := 38) (v := 61) (by decide) dX12_printBalances_38 ?_
      obtain ⟨⟨fs21, he⟩, h⟩ := h
      refine kz_callV (pc := 40) (μ' := mX12_write) (ci := 11) (q := (RX12, TX12, 32)) (b := x0) (d' := d + 1) (mc' := 0) (ms' := 0) (As := [.int 61]) (st := []) (c := 0) (sl := 0) kmX12_write kw_1991 (by omega) rfl (Nat.le_of_ble_eq_true rfl) he rfl rfl (Nat.le_refl _) (Nat.le_refl _) dX12_printBalances_40 (fun E M9 hx => kz_Tout rfl (Nat.le_refl _) (Nat.le_refl _) hx) (kz_Cmono (fun v M10 h => ?_) (fun _ _ h => h) h)
      obtain ⟨rfl, h⟩ := h
      show kz_Z G (d + 2) 0 0 mX12_printBalances Qr Qx 43 [(0, .ref x0), (1, .int x1)] [] M10 0 0
      refine kz_aload_n (pc := 43) 0 (v := .ref x0) (i := 0) rfl rfl rfl dX12_printBalances_43 ?_
      refine kz_aload_n (pc := 44) 0 (v := .ref x0) (i := 0) rfl rfl rfl dX12_printBalances_44 ?_
      obtain ⟨fs13, v14, hM, hv, h⟩ := h
      refine kz_getf (pc := 45) (k := 0) kcX12 hM hv (by decide) kw_1378 dX12_printBalances_45 ?_
      refine kz_bipush (pc := 48) (v := 21) (by decide) dX12_printBalances_48 ?_
      refine kz_iload_n (pc := 50) 1 (i := 1) rfl rfl dX12_printBalances_50 ?_
      refine kz_iadd (pc := 51) dX12_printBalances_51 ?_
      obtain ⟨n15, f16, hM, hi, h⟩ := h
      refine kz_iald (pc := 52) hM hi dX12_printBalances_52 ?_
      obtain ⟨⟨fs20, he⟩, h⟩ := h
      refine kz_callV (pc := 53) (μ' := mX12_writeNumber) (ci := 11) (q := (RX12, TX12, 32)) (b := x0) (d' := d + 1) (mc' := 0) (ms' := 0) (As := [.int (f16 (21 + x1).toNatClampNeg)]) (st := []) (c := 0) (sl := 0) kmX12_writeNumber kw_2004 (by omega) rfl (Nat.le_of_ble_eq_true rfl) he rfl rfl (Nat.le_refl _) (Nat.le_refl _) dX12_printBalances_53 (fun E M9 hx => kz_Tout rfl (Nat.le_refl _) (Nat.le_refl _) hx) (kz_Cmono (fun v M17 h => ?_) (fun _ _ h => h) h)
      obtain ⟨rfl, h⟩ := h
      show kz_Z G (d + 2) 0 0 mX12_printBalances Qr Qx 56 [(0, .ref x0), (1, .int x1)] [] M17 0 0
      refine kz_iinc (pc := 56) 1 (i := 1) (v := x1 + 1) (ls' := [(0, .ref x0)]) rfl (congrArg (fun z => x1 + z) (by decide)) (by decide) rfl dX12_printBalances_56 ?_
      refine kz_goto (pc := 59) (tgt := 12) (by decide) dX12_printBalances_59 ?_
      refine kz_sub [1, 0] rfl ?_
      exact h
    · replace h := h.2 hb
      refine kz_aload_n (pc := 26) 0 (v := .ref x0) (i := 0) rfl rfl rfl dX12_printBalances_26 ?_
      refine kz_bipush (pc := 27) (v := 32) (by decide) dX12_printBalances_27 ?_
      obtain ⟨⟨fs42, he⟩, h⟩ := h
      refine kz_callV (pc := 29) (μ' := mX12_write) (ci := 11) (q := (RX12, TX12, 32)) (b := x0) (d' := d + 1) (mc' := 0) (ms' := 0) (As := [.int 32]) (st := []) (c := 0) (sl := 0) kmX12_write kw_1991 (by omega) rfl (Nat.le_of_ble_eq_true rfl) he rfl rfl (Nat.le_refl _) (Nat.le_refl _) dX12_printBalances_29 (fun E M9 hx => kz_Tout rfl (Nat.le_refl _) (Nat.le_refl _) hx) (kz_Cmono (fun v M23 h => ?_) (fun _ _ h => h) h)
      obtain ⟨rfl, h⟩ := h
      show kz_Z G (d + 2) 0 0 mX12_printBalances Qr Qx 32 [(0, .ref x0), (1, .int x1)] [] M23 0 0
      refine kz_aload_n (pc := 32) 0 (v := .ref x0) (i := 0) rfl rfl rfl dX12_printBalances_32 ?_
      refine kz_iload_n (pc := 33) 1 (i := 1) rfl rfl dX12_printBalances_33 ?_
      obtain ⟨⟨fs41, he⟩, h⟩ := h
      refine kz_callV (pc := 34) (μ' := mX12_writeName) (ci := 11) (q := (RX12, TX12, 32)) (b := x0) (d' := d + 1) (mc' := 0) (ms' := 0) (As := [.int x1]) (st := []) (c := 0) (sl := 0) kmX12_writeName kw_2018 (by omega) rfl (Nat.le_of_ble_eq_true rfl) he rfl rfl (Nat.le_refl _) (Nat.le_refl _) dX12_printBalances_34 (fun E M9 hx => kz_Tout rfl (Nat.le_refl _) (Nat.le_refl _) hx) (kz_Cmono (fun v M26 h => ?_) (fun _ _ h => h) h)
      obtain ⟨rfl, h⟩ := h
      show kz_Z G (d + 2) 0 0 mX12_printBalances Qr Qx 37 [(0, .ref x0), (1, .int x1)] [] M26 0 0
      refine kz_aload_n (pc := 37) 0 (v := .ref x0) (i := 0) rfl rfl rfl dX12_printBalances_37 ?_
      refine kz_bipush (pc := 38) (v := 61) (by decide) dX12_printBalances_38 ?_
      obtain ⟨⟨fs40, he⟩, h⟩ := h
      refine kz_callV (pc := 40) (μ' := mX12_write) (ci := 11) (q := (RX12, TX12, 32)) (b := x0) (d' := d + 1) (mc' := 0) (ms' := 0) (As := [.int 61]) (st := []) (c := 0) (sl := 0) kmX12_write kw_1991 (by omega) rfl (Nat.le_of_ble_eq_true rfl) he rfl rfl (Nat.le_refl _) (Nat.le_refl _) dX12_printBalances_40 (fun E M9 hx => kz_Tout rfl (Nat.le_refl _) (Nat.le_refl _) hx) (kz_Cmono (fun v M29 h => ?_) (fun _ _ h => h) h)
      obtain ⟨rfl, h⟩ := h
      show kz_Z G (d + 2) 0 0 mX12_printBalances Qr Qx 43 [(0, .ref x0), (1, .int x1)] [] M29 0 0
      refine kz_aload_n (pc := 43) 0 (v := .ref x0) (i := 0) rfl rfl rfl dX12_printBalances_43 ?_
      refine kz_aload_n (pc := 44) 0 (v := .ref x0) (i := 0) rfl rfl rfl dX12_printBalances_44 ?_
      obtain ⟨fs32, v33, hM, hv, h⟩ := h
      refine kz_getf (pc := 45) (k := 0) kcX12 hM hv (by decide) kw_1378 dX12_printBalances_45 ?_
      refine kz_bipush (pc := 48) (v := 21) (by decide) dX12_printBalances_48 ?_
      refine kz_iload_n (pc := 50) 1 (i := 1) rfl rfl dX12_printBalances_50 ?_
      refine kz_iadd (pc := 51) dX12_printBalances_51 ?_
      obtain ⟨n34, f35, hM, hi, h⟩ := h
      refine kz_iald (pc := 52) hM hi dX12_printBalances_52 ?_
      obtain ⟨⟨fs39, he⟩, h⟩ := h
      refine kz_callV (pc := 53) (μ' := mX12_writeNumber) (ci := 11) (q := (RX12, TX12, 32)) (b := x0) (d' := d + 1) (mc' := 0) (ms' := 0) (As := [.int (f35 (21 + x1).toNatClampNeg)]) (st := []) (c := 0) (sl := 0) kmX12_writeNumber kw_2004 (by omega) rfl (Nat.le_of_ble_eq_true rfl) he rfl rfl (Nat.le_refl _) (Nat.le_refl _) dX12_printBalances_53 (fun E M9 hx => kz_Tout rfl (Nat.le_refl _) (Nat.le_refl _) hx) (kz_Cmono (fun v M36 h => ?_) (fun _ _ h => h) h)
      obtain ⟨rfl, h⟩ := h
      show kz_Z G (d + 2) 0 0 mX12_printBalances Qr Qx 56 [(0, .ref x0), (1, .int x1)] [] M36 0 0
      refine kz_iinc (pc := 56) 1 (i := 1) (v := x1 + 1) (ls' := [(0, .ref x0)]) rfl (congrArg (fun z => x1 + z) (by decide)) (by decide) rfl dX12_printBalances_56 ?_
      refine kz_goto (pc := 59) (tgt := 12) (by decide) dX12_printBalances_59 ?_
      refine kz_sub [1, 0] rfl ?_
      exact h
theorem dX12_outputByte_0 : decode cX12_outputByte 0 = .ok (.aload_n 0, 1) := by decide +kernel
theorem dX12_outputByte_1 : decode cX12_outputByte 1 = .ok (.iconst 0, 1) := by decide +kernel
theorem dX12_outputByte_2 : decode cX12_outputByte 2 = .ok (.putfield 60, 3) := by decide +kernel
theorem dX12_outputByte_5 : decode cX12_outputByte 5 = .ok (.iload_n 1, 1) := by decide +kernel
theorem dX12_outputByte_6 : decode cX12_outputByte 6 = .ok (.iconst 0, 1) := by decide +kernel
theorem dX12_outputByte_7 : decode cX12_outputByte 7 = .ok (.aload_n 0, 1) := by decide +kernel
theorem dX12_outputByte_8 : decode cX12_outputByte 8 = .ok (.getfield 428, 3) := by decide +kernel
theorem dX12_outputByte_11 : decode cX12_outputByte 11 = .ok (.iconst 1, 1) := by decide +kernel
theorem dX12_outputByte_12 : decode cX12_outputByte 12 = .ok (.isub, 1) := by decide +kernel
theorem dX12_outputByte_13 : decode cX12_outputByte 13 = .ok (.invokestatic 67, 3) := by decide +kernel
theorem dX12_outputByte_16 : decode cX12_outputByte 16 = .ok (.ifCond .eq 12, 3) := by decide +kernel
theorem dX12_outputByte_19 : decode cX12_outputByte 19 = .ok (.aload_n 0, 1) := by decide +kernel
theorem dX12_outputByte_20 : decode cX12_outputByte 20 = .ok (.getfield 54, 3) := by decide +kernel
theorem dX12_outputByte_23 : decode cX12_outputByte 23 = .ok (.iload_n 1, 1) := by decide +kernel
theorem dX12_outputByte_24 : decode cX12_outputByte 24 = .ok (.iaload, 1) := by decide +kernel
theorem dX12_outputByte_25 : decode cX12_outputByte 25 = .ok (.goto 4, 3) := by decide +kernel
theorem dX12_outputByte_28 : decode cX12_outputByte 28 = .ok (.iconst (-1), 1) := by decide +kernel
theorem dX12_outputByte_29 : decode cX12_outputByte 29 = .ok (.ireturn, 1) := by decide +kernel
theorem rX12_outputByte_0 {G : kz_G} {d : Nat} {Qr : Option Value → kz_M → Prop} {Qx : String → kz_M → Prop} {a0 : Nat} {p1 : Int32}  {M : kz_M} (h : ∃ fs1, (M).1 a0 = some (.inl (11, fs1)) ∧ 9 < fs1.length ∧ (∃ fs2 v3, ((kz_up M a0 (.inl (11, fs1.set 9 (.int 0))))).1 a0 = some (.inl (11, fs2)) ∧ fs2[31]? = some (.int v3) ∧ (kz_C G (d + 0) 0 0 mX12_inRange [.int p1, .int 0, .int (v3 - 1)] (kz_up M a0 (.inl (11, fs1.set 9 (.int 0)))) (fun v M4 => ∃ r5 : Int32, v = some (.int r5) ∧ ((r5 = 0 → Qr (some (.int ((-1)))) M4) ∧ (¬ r5 = 0 → ∃ fs7 v8, (M4).1 a0 = some (.inl (11, fs7)) ∧ fs7[30]? = some (.ref v8) ∧ (∃ n9 f10, (M4).1 v8 = some (.inr (.int, n9, .inl f10)) ∧ vp_in p1 n9 ∧ (Qr (some (.int (f10 p1.toNatClampNeg))) M4))))) Qx))) : kz_C G (d + 1) 0 0 mX12_outputByte [.ref a0, .int p1] M Qr Qx := by
  refine kz_enter (n := 1) kmX12_outputByte.1 (Nat.le_of_ble_eq_true rfl) (ls := [(0, .ref a0), (1, .int p1)]) rfl ?_
  refine kz_aload_n (pc := 0) 0 (v := .ref a0) (i := 0) rfl rfl rfl dX12_outputByte_0 ?_
  refine kz_iconst (pc := 1) (v := 0) (by decide) dX12_outputByte_1 ?_
  obtain ⟨fs1, hM, hlen, h⟩ := h
  refine kz_putf (pc := 2) (k := 9) kcX12 hM (by decide) hlen kw_1387 rfl rfl rfl dX12_outputByte_2 ?_
  refine kz_iload_n (pc := 5) 1 (i := 1) rfl rfl dX12_outputByte_5 ?_
  refine kz_iconst (pc := 6) (v := 0) (by decide) dX12_outputByte_6 ?_
  refine kz_aload_n (pc := 7) 0 (v := .ref a0) (i := 0) rfl rfl rfl dX12_outputByte_7 ?_
  obtain ⟨fs2, v3, hM, hv, h⟩ := h
  refine kz_getf (pc := 8) (k := 31) kcX12 hM hv (by decide) kw_1409 dX12_outputByte_8 ?_
  refine kz_iconst (pc := 11) (v := 1) (by decide) dX12_outputByte_11 ?_
  refine kz_isub (pc := 12) dX12_outputByte_12 ?_
  refine kz_callS (pc := 13) (μ' := mX12_inRange) (d' := d + 0) (mc' := 0) (ms' := 0) (As := [.int p1, .int 0, .int (v3 - 1)]) (st := []) (c := 0) (sl := 0) kmX12_inRange kw_1491 (by omega) rfl (Nat.le_of_ble_eq_true rfl) (Nat.le_refl _) (Nat.le_refl _) dX12_outputByte_13 (fun E M9 hx => kz_Tout rfl (Nat.le_refl _) (Nat.le_refl _) hx) (kz_Cmono (fun v M4 h => ?_) (fun _ _ h => h) h)
  obtain ⟨r5, rfl, h⟩ := h
  show kz_Z G (d + 1) 0 0 mX12_outputByte Qr Qx 16 [(0, .ref a0), (1, .int p1)] [.int r5] M4 0 0
  refine kz_if_eq (pc := 16) (tgt := 28) (by decide) dX12_outputByte_16 (fun hb => ?_) (fun hb => ?_)
  · replace h := h.1 hb
    refine kz_iconst (pc := 28) (v := (-1)) (by decide) dX12_outputByte_28 ?_
    exact kz_iret (pc := 29) rfl (Nat.le_refl _) (Nat.le_refl _) dX12_outputByte_29 h
  · replace h := h.2 hb
    refine kz_aload_n (pc := 19) 0 (v := .ref a0) (i := 0) rfl rfl rfl dX12_outputByte_19 ?_
    obtain ⟨fs7, v8, hM, hv, h⟩ := h
    refine kz_getf (pc := 20) (k := 30) kcX12 hM hv (by decide) kw_1408 dX12_outputByte_20 ?_
    refine kz_iload_n (pc := 23) 1 (i := 1) rfl rfl dX12_outputByte_23 ?_
    obtain ⟨n9, f10, hM, hi, h⟩ := h
    refine kz_iald (pc := 24) hM hi dX12_outputByte_24 ?_
    refine kz_goto (pc := 25) (tgt := 29) (by decide) dX12_outputByte_25 ?_
    exact kz_iret (pc := 29) rfl (Nat.le_refl _) (Nat.le_refl _) dX12_outputByte_29 h
theorem dX12_saveState_0 : decode cX12_saveState 0 = .ok (.aload_n 0, 1) := by decide +kernel
theorem dX12_saveState_1 : decode cX12_saveState 1 = .ok (.iconst 0, 1) := by decide +kernel
theorem dX12_saveState_2 : decode cX12_saveState 2 = .ok (.putfield 60, 3) := by decide +kernel
theorem dX12_saveState_5 : decode cX12_saveState 5 = .ok (.aload_n 0, 1) := by decide +kernel
theorem dX12_saveState_6 : decode cX12_saveState 6 = .ok (.getfield 7, 3) := by decide +kernel
theorem dX12_saveState_9 : decode cX12_saveState 9 = .ok (.iconst 0, 1) := by decide +kernel
theorem dX12_saveState_10 : decode cX12_saveState 10 = .ok (.aload_n 0, 1) := by decide +kernel
theorem dX12_saveState_11 : decode cX12_saveState 11 = .ok (.getfield 16, 3) := by decide +kernel
theorem dX12_saveState_14 : decode cX12_saveState 14 = .ok (.iconst 0, 1) := by decide +kernel
theorem dX12_saveState_15 : decode cX12_saveState 15 = .ok (.sipush 3813, 3) := by decide +kernel
theorem dX12_saveState_18 : decode cX12_saveState 18 = .ok (.invokestatic 81, 3) := by decide +kernel
theorem dX12_saveState_21 : decode cX12_saveState 21 = .ok (.aload_n 0, 1) := by decide +kernel
theorem dX12_saveState_22 : decode cX12_saveState 22 = .ok (.getfield 22, 3) := by decide +kernel
theorem dX12_saveState_25 : decode cX12_saveState 25 = .ok (.iconst 0, 1) := by decide +kernel
theorem dX12_saveState_26 : decode cX12_saveState 26 = .ok (.aload_n 0, 1) := by decide +kernel
theorem dX12_saveState_27 : decode cX12_saveState 27 = .ok (.getfield 26, 3) := by decide +kernel
theorem dX12_saveState_30 : decode cX12_saveState 30 = .ok (.iconst 0, 1) := by decide +kernel
theorem dX12_saveState_31 : decode cX12_saveState 31 = .ok (.sipush 732, 3) := by decide +kernel
theorem dX12_saveState_34 : decode cX12_saveState 34 = .ok (.invokestatic 85, 3) := by decide +kernel
theorem dX12_saveState_37 : decode cX12_saveState 37 = .ok (.aload_n 0, 1) := by decide +kernel
theorem dX12_saveState_38 : decode cX12_saveState 38 = .ok (.iconst 1, 1) := by decide +kernel
theorem dX12_saveState_39 : decode cX12_saveState 39 = .ok (.putfield 306, 3) := by decide +kernel
theorem dX12_saveState_42 : decode cX12_saveState 42 = .ok (.aload_n 0, 1) := by decide +kernel
theorem dX12_saveState_43 : decode cX12_saveState 43 = .ok (.getfield 7, 3) := by decide +kernel
theorem dX12_saveState_46 : decode cX12_saveState 46 = .ok (.iconst 2, 1) := by decide +kernel
theorem dX12_saveState_47 : decode cX12_saveState 47 = .ok (.iaload, 1) := by decide +kernel
theorem dX12_saveState_48 : decode cX12_saveState 48 = .ok (.ireturn, 1) := by decide +kernel
theorem rX12_saveState_0 {G : kz_G} {d : Nat} {Qr : Option Value → kz_M → Prop} {Qx : String → kz_M → Prop} {a0 : Nat}  {M : kz_M} (h : ∃ fs1, (M).1 a0 = some (.inl (11, fs1)) ∧ 9 < fs1.length ∧ (∃ fs2 v3, ((kz_up M a0 (.inl (11, fs1.set 9 (.int 0))))).1 a0 = some (.inl (11, fs2)) ∧ fs2[0]? = some (.ref v3) ∧ (∃ fs4 v5, ((kz_up M a0 (.inl (11, fs1.set 9 (.int 0))))).1 a0 = some (.inl (11, fs4)) ∧ fs4[2]? = some (.ref v5) ∧ (kz_C G (d + 0) 0 0 mX12_copies [.ref v3, .int 0, .ref v5, .int 0, .int 3813] (kz_up M a0 (.inl (11, fs1.set 9 (.int 0)))) (fun v M6 => v = none ∧ (∃ fs9 v10, (M6).1 a0 = some (.inl (11, fs9)) ∧ fs9[4]? = some (.ref v10) ∧ (∃ fs11 v12, (M6).1 a0 = some (.inl (11, fs11)) ∧ fs11[5]? = some (.ref v12) ∧ (kz_C G (d + 0) 0 0 mX12_copiesWords [.ref v10, .int 0, .ref v12, .int 0, .int 732] M6 (fun v M13 => v = none ∧ (∃ fs16, (M13).1 a0 = some (.inl (11, fs16)) ∧ 8 < fs16.length ∧ (∃ fs17 v18, ((kz_up M13 a0 (.inl (11, fs16.set 8 (.int 1))))).1 a0 = some (.inl (11, fs17)) ∧ fs17[0]? = some (.ref v18) ∧ (∃ n19 f20, ((kz_up M13 a0 (.inl (11, fs16.set 8 (.int 1))))).1 v18 = some (.inr (.int, n19, .inl f20)) ∧ vp_in (2 : Int32) n19 ∧ (Qr (some (.int (f20 (2 : Int32).toNatClampNeg))) (kz_up M13 a0 (.inl (11, fs16.set 8 (.int 1))))))))) Qx)))) Qx)))) : kz_C G (d + 1) 0 0 mX12_saveState [.ref a0] M Qr Qx := by
  refine kz_enter (n := 0) kmX12_saveState.1 (Nat.le_of_ble_eq_true rfl) (ls := [(0, .ref a0)]) rfl ?_
  refine kz_aload_n (pc := 0) 0 (v := .ref a0) (i := 0) rfl rfl rfl dX12_saveState_0 ?_
  refine kz_iconst (pc := 1) (v := 0) (by decide) dX12_saveState_1 ?_
  obtain ⟨fs1, hM, hlen, h⟩ := h
  refine kz_putf (pc := 2) (k := 9) kcX12 hM (by decide) hlen kw_1387 rfl rfl rfl dX12_saveState_2 ?_
  refine kz_aload_n (pc := 5) 0 (v := .ref a0) (i := 0) rfl rfl rfl dX12_saveState_5 ?_
  obtain ⟨fs2, v3, hM, hv, h⟩ := h
  refine kz_getf (pc := 6) (k := 0) kcX12 hM hv (by decide) kw_1378 dX12_saveState_6 ?_
  refine kz_iconst (pc := 9) (v := 0) (by decide) dX12_saveState_9 ?_
  refine kz_aload_n (pc := 10) 0 (v := .ref a0) (i := 0) rfl rfl rfl dX12_saveState_10 ?_
  obtain ⟨fs4, v5, hM, hv, h⟩ := h
  refine kz_getf (pc := 11) (k := 2) kcX12 hM hv (by decide) kw_1380 dX12_saveState_11 ?_
  refine kz_iconst (pc := 14) (v := 0) (by decide) dX12_saveState_14 ?_
  refine kz_sipush (pc := 15) (v := 3813) (by decide) dX12_saveState_15 ?_
  refine kz_callS (pc := 18) (μ' := mX12_copies) (d' := d + 0) (mc' := 0) (ms' := 0) (As := [.ref v3, .int 0, .ref v5, .int 0, .int 3813]) (st := []) (c := 0) (sl := 0) kmX12_copies kw_1498 (by omega) rfl (Nat.le_of_ble_eq_true rfl) (Nat.le_refl _) (Nat.le_refl _) dX12_saveState_18 (fun E M9 hx => kz_Tout rfl (Nat.le_refl _) (Nat.le_refl _) hx) (kz_Cmono (fun v M6 h => ?_) (fun _ _ h => h) h)
  obtain ⟨rfl, h⟩ := h
  show kz_Z G (d + 1) 0 0 mX12_saveState Qr Qx 21 [(0, .ref a0)] [] M6 0 0
  refine kz_aload_n (pc := 21) 0 (v := .ref a0) (i := 0) rfl rfl rfl dX12_saveState_21 ?_
  obtain ⟨fs9, v10, hM, hv, h⟩ := h
  refine kz_getf (pc := 22) (k := 4) kcX12 hM hv (by decide) kw_1382 dX12_saveState_22 ?_
  refine kz_iconst (pc := 25) (v := 0) (by decide) dX12_saveState_25 ?_
  refine kz_aload_n (pc := 26) 0 (v := .ref a0) (i := 0) rfl rfl rfl dX12_saveState_26 ?_
  obtain ⟨fs11, v12, hM, hv, h⟩ := h
  refine kz_getf (pc := 27) (k := 5) kcX12 hM hv (by decide) kw_1383 dX12_saveState_27 ?_
  refine kz_iconst (pc := 30) (v := 0) (by decide) dX12_saveState_30 ?_
  refine kz_sipush (pc := 31) (v := 732) (by decide) dX12_saveState_31 ?_
  refine kz_callS (pc := 34) (μ' := mX12_copiesWords) (d' := d + 0) (mc' := 0) (ms' := 0) (As := [.ref v10, .int 0, .ref v12, .int 0, .int 732]) (st := []) (c := 0) (sl := 0) kmX12_copiesWords kw_1824 (by omega) rfl (Nat.le_of_ble_eq_true rfl) (Nat.le_refl _) (Nat.le_refl _) dX12_saveState_34 (fun E M9 hx => kz_Tout rfl (Nat.le_refl _) (Nat.le_refl _) hx) (kz_Cmono (fun v M13 h => ?_) (fun _ _ h => h) h)
  obtain ⟨rfl, h⟩ := h
  show kz_Z G (d + 1) 0 0 mX12_saveState Qr Qx 37 [(0, .ref a0)] [] M13 0 0
  refine kz_aload_n (pc := 37) 0 (v := .ref a0) (i := 0) rfl rfl rfl dX12_saveState_37 ?_
  refine kz_iconst (pc := 38) (v := 1) (by decide) dX12_saveState_38 ?_
  obtain ⟨fs16, hM, hlen, h⟩ := h
  refine kz_putf (pc := 39) (k := 8) kcX12 hM (by decide) hlen kw_1386 rfl rfl rfl dX12_saveState_39 ?_
  refine kz_aload_n (pc := 42) 0 (v := .ref a0) (i := 0) rfl rfl rfl dX12_saveState_42 ?_
  obtain ⟨fs17, v18, hM, hv, h⟩ := h
  refine kz_getf (pc := 43) (k := 0) kcX12 hM hv (by decide) kw_1378 dX12_saveState_43 ?_
  refine kz_iconst (pc := 46) (v := 2) (by decide) dX12_saveState_46 ?_
  obtain ⟨n19, f20, hM, hi, h⟩ := h
  refine kz_iald (pc := 47) hM hi dX12_saveState_47 ?_
  exact kz_iret (pc := 48) rfl (Nat.le_refl _) (Nat.le_refl _) dX12_saveState_48 h
theorem dX12_restoreState_0 : decode cX12_restoreState 0 = .ok (.aload_n 0, 1) := by decide +kernel
theorem dX12_restoreState_1 : decode cX12_restoreState 1 = .ok (.iconst 0, 1) := by decide +kernel
theorem dX12_restoreState_2 : decode cX12_restoreState 2 = .ok (.putfield 60, 3) := by decide +kernel
theorem dX12_restoreState_5 : decode cX12_restoreState 5 = .ok (.aload_n 0, 1) := by decide +kernel
theorem dX12_restoreState_6 : decode cX12_restoreState 6 = .ok (.aload_n 0, 1) := by decide +kernel
theorem dX12_restoreState_7 : decode cX12_restoreState 7 = .ok (.getfield 306, 3) := by decide +kernel
theorem dX12_restoreState_10 : decode cX12_restoreState 10 = .ok (.ifCond .ne 7, 3) := by decide +kernel
theorem dX12_restoreState_13 : decode cX12_restoreState 13 = .ok (.iconst 1, 1) := by decide +kernel
theorem dX12_restoreState_14 : decode cX12_restoreState 14 = .ok (.goto 4, 3) := by decide +kernel
theorem dX12_restoreState_17 : decode cX12_restoreState 17 = .ok (.iconst 0, 1) := by decide +kernel
theorem dX12_restoreState_18 : decode cX12_restoreState 18 = .ok (.iconst 1, 1) := by decide +kernel
theorem dX12_restoreState_19 : decode cX12_restoreState 19 = .ok (.invokevirtual 310, 3) := by decide +kernel
theorem dX12_restoreState_22 : decode cX12_restoreState 22 = .ok (.ifCond .eq 5, 3) := by decide +kernel
theorem dX12_restoreState_25 : decode cX12_restoreState 25 = .ok (.iconst 0, 1) := by decide +kernel
theorem dX12_restoreState_26 : decode cX12_restoreState 26 = .ok (.ireturn, 1) := by decide +kernel
theorem dX12_restoreState_27 : decode cX12_restoreState 27 = .ok (.aload_n 0, 1) := by decide +kernel
theorem dX12_restoreState_28 : decode cX12_restoreState 28 = .ok (.getfield 16, 3) := by decide +kernel
theorem dX12_restoreState_31 : decode cX12_restoreState 31 = .ok (.iconst 0, 1) := by decide +kernel
theorem dX12_restoreState_32 : decode cX12_restoreState 32 = .ok (.aload_n 0, 1) := by decide +kernel
theorem dX12_restoreState_33 : decode cX12_restoreState 33 = .ok (.getfield 7, 3) := by decide +kernel
theorem dX12_restoreState_36 : decode cX12_restoreState 36 = .ok (.iconst 0, 1) := by decide +kernel
theorem dX12_restoreState_37 : decode cX12_restoreState 37 = .ok (.sipush 3813, 3) := by decide +kernel
theorem dX12_restoreState_40 : decode cX12_restoreState 40 = .ok (.invokestatic 81, 3) := by decide +kernel
theorem dX12_restoreState_43 : decode cX12_restoreState 43 = .ok (.aload_n 0, 1) := by decide +kernel
theorem dX12_restoreState_44 : decode cX12_restoreState 44 = .ok (.getfield 26, 3) := by decide +kernel
theorem dX12_restoreState_47 : decode cX12_restoreState 47 = .ok (.iconst 0, 1) := by decide +kernel
theorem dX12_restoreState_48 : decode cX12_restoreState 48 = .ok (.aload_n 0, 1) := by decide +kernel
theorem dX12_restoreState_49 : decode cX12_restoreState 49 = .ok (.getfield 22, 3) := by decide +kernel
theorem dX12_restoreState_52 : decode cX12_restoreState 52 = .ok (.iconst 0, 1) := by decide +kernel
theorem dX12_restoreState_53 : decode cX12_restoreState 53 = .ok (.sipush 732, 3) := by decide +kernel
theorem dX12_restoreState_56 : decode cX12_restoreState 56 = .ok (.invokestatic 85, 3) := by decide +kernel
theorem dX12_restoreState_59 : decode cX12_restoreState 59 = .ok (.aload_n 0, 1) := by decide +kernel
theorem dX12_restoreState_60 : decode cX12_restoreState 60 = .ok (.iconst 0, 1) := by decide +kernel
theorem dX12_restoreState_61 : decode cX12_restoreState 61 = .ok (.putfield 78, 3) := by decide +kernel
theorem dX12_restoreState_64 : decode cX12_restoreState 64 = .ok (.aload_n 0, 1) := by decide +kernel
theorem dX12_restoreState_65 : decode cX12_restoreState 65 = .ok (.getfield 7, 3) := by decide +kernel
theorem dX12_restoreState_68 : decode cX12_restoreState 68 = .ok (.iconst 2, 1) := by decide +kernel
theorem dX12_restoreState_69 : decode cX12_restoreState 69 = .ok (.iaload, 1) := by decide +kernel
theorem dX12_restoreState_70 : decode cX12_restoreState 70 = .ok (.ireturn, 1) := by decide +kernel
theorem rX12_restoreState_0 {G : kz_G} {d : Nat} {Qr : Option Value → kz_M → Prop} {Qx : String → kz_M → Prop} {a0 : Nat}  {M : kz_M} (h : ∃ fs1, (M).1 a0 = some (.inl (11, fs1)) ∧ 9 < fs1.length ∧ (∃ fs2 v3, ((kz_up M a0 (.inl (11, fs1.set 9 (.int 0))))).1 a0 = some (.inl (11, fs2)) ∧ fs2[8]? = some (.int v3) ∧ ((¬ v3 = 0 → (∃ fs28, ((kz_up M a0 (.inl (11, fs1.set 9 (.int 0))))).1 a0 = some (.inl (11, fs28))) ∧ kz_C G (d + 0) 0 0 mX12_fails [.ref a0, .int 0, .int 1] (kz_up M a0 (.inl (11, fs1.set 9 (.int 0)))) (fun v M4 => ∃ r5 : Int32, v = some (.int r5) ∧ ((r5 = 0 → ∃ fs7 v8, (M4).1 a0 = some (.inl (11, fs7)) ∧ fs7[2]? = some (.ref v8) ∧ (∃ fs9 v10, (M4).1 a0 = some (.inl (11, fs9)) ∧ fs9[0]? = some (.ref v10) ∧ (kz_C G (d + 0) 0 0 mX12_copies [.ref v8, .int 0, .ref v10, .int 0, .int 3813] M4 (fun v M11 => v = none ∧ (∃ fs14 v15, (M11).1 a0 = some (.inl (11, fs14)) ∧ fs14[5]? = some (.ref v15) ∧ (∃ fs16 v17, (M11).1 a0 = some (.inl (11, fs16)) ∧ fs16[4]? = some (.ref v17) ∧ (kz_C G (d + 0) 0 0 mX12_copiesWords [.ref v15, .int 0, .ref v17, .int 0, .int 732] M11 (fun v M18 => v = none ∧ (∃ fs21, (M18).1 a0 = some (.inl (11, fs21)) ∧ 7 < fs21.length ∧ (∃ fs22 v23, ((kz_up M18 a0 (.inl (11, fs21.set 7 (.int 0))))).1 a0 = some (.inl (11, fs22)) ∧ fs22[0]? = some (.ref v23) ∧ (∃ n24 f25, ((kz_up M18 a0 (.inl (11, fs21.set 7 (.int 0))))).1 v23 = some (.inr (.int, n24, .inl f25)) ∧ vp_in (2 : Int32) n24 ∧ (Qr (some (.int (f25 (2 : Int32).toNatClampNeg))) (kz_up M18 a0 (.inl (11, fs21.set 7 (.int 0))))))))) Qx)))) Qx))) ∧ (¬ r5 = 0 → Qr (some (.int 0)) M4))) Qx) ∧ (v3 = 0 → (∃ fs53, ((kz_up M a0 (.inl (11, fs1.set 9 (.int 0))))).1 a0 = some (.inl (11, fs53))) ∧ kz_C G (d + 0) 0 0 mX12_fails [.ref a0, .int 1, .int 1] (kz_up M a0 (.inl (11, fs1.set 9 (.int 0)))) (fun v M29 => ∃ r30 : Int32, v = some (.int r30) ∧ ((r30 = 0 → ∃ fs32 v33, (M29).1 a0 = some (.inl (11, fs32)) ∧ fs32[2]? = some (.ref v33) ∧ (∃ fs34 v35, (M29).1 a0 = some (.inl (11, fs34)) ∧ fs34[0]? = some (.ref v35) ∧ (kz_C G (d + 0) 0 0 mX12_copies [.ref v33, .int 0, .ref v35, .int 0, .int 3813] M29 (fun v M36 => v = none ∧ (∃ fs39 v40, (M36).1 a0 = some (.inl (11, fs39)) ∧ fs39[5]? = some (.ref v40) ∧ (∃ fs41 v42, (M36).1 a0 = some (.inl (11, fs41)) ∧ fs41[4]? = some (.ref v42) ∧ (kz_C G (d + 0) 0 0 mX12_copiesWords [.ref v40, .int 0, .ref v42, .int 0, .int 732] M36 (fun v M43 => v = none ∧ (∃ fs46, (M43).1 a0 = some (.inl (11, fs46)) ∧ 7 < fs46.length ∧ (∃ fs47 v48, ((kz_up M43 a0 (.inl (11, fs46.set 7 (.int 0))))).1 a0 = some (.inl (11, fs47)) ∧ fs47[0]? = some (.ref v48) ∧ (∃ n49 f50, ((kz_up M43 a0 (.inl (11, fs46.set 7 (.int 0))))).1 v48 = some (.inr (.int, n49, .inl f50)) ∧ vp_in (2 : Int32) n49 ∧ (Qr (some (.int (f50 (2 : Int32).toNatClampNeg))) (kz_up M43 a0 (.inl (11, fs46.set 7 (.int 0))))))))) Qx)))) Qx))) ∧ (¬ r30 = 0 → Qr (some (.int 0)) M29))) Qx)))) : kz_C G (d + 1) 0 0 mX12_restoreState [.ref a0] M Qr Qx := by
  refine kz_enter (n := 0) kmX12_restoreState.1 (Nat.le_of_ble_eq_true rfl) (ls := [(0, .ref a0)]) rfl ?_
  refine kz_aload_n (pc := 0) 0 (v := .ref a0) (i := 0) rfl rfl rfl dX12_restoreState_0 ?_
  refine kz_iconst (pc := 1) (v := 0) (by decide) dX12_restoreState_1 ?_
  obtain ⟨fs1, hM, hlen, h⟩ := h
  refine kz_putf (pc := 2) (k := 9) kcX12 hM (by decide) hlen kw_1387 rfl rfl rfl dX12_restoreState_2 ?_
  refine kz_aload_n (pc := 5) 0 (v := .ref a0) (i := 0) rfl rfl rfl dX12_restoreState_5 ?_
  refine kz_aload_n (pc := 6) 0 (v := .ref a0) (i := 0) rfl rfl rfl dX12_restoreState_6 ?_
  obtain ⟨fs2, v3, hM, hv, h⟩ := h
  refine kz_getf (pc := 7) (k := 8) kcX12 hM hv (by decide) kw_1386 dX12_restoreState_7 ?_
  refine kz_if_ne (pc := 10) (tgt := 17) (by decide) dX12_restoreState_10 (fun hb => ?_) (fun hb => ?_)
  · replace h := h.1 hb
    refine kz_iconst (pc := 17) (v := 0) (by decide) dX12_restoreState_17 ?_
    refine kz_iconst (pc := 18) (v := 1) (by decide) dX12_restoreState_18 ?_
    obtain ⟨⟨fs28, he⟩, h⟩ := h
    refine kz_callV (pc := 19) (μ' := mX12_fails) (ci := 11) (q := (RX12, TX12, 32)) (b := a0) (d' := d + 0) (mc' := 0) (ms' := 0) (As := [.int 0, .int 1]) (st := []) (c := 0) (sl := 0) kmX12_fails kw_1653 (by omega) rfl (Nat.le_of_ble_eq_true rfl) he rfl rfl (Nat.le_refl _) (Nat.le_refl _) dX12_restoreState_19 (fun E M9 hx => kz_Tout rfl (Nat.le_refl _) (Nat.le_refl _) hx) (kz_Cmono (fun v M4 h => ?_) (fun _ _ h => h) h)
    obtain ⟨r5, rfl, h⟩ := h
    show kz_Z G (d + 1) 0 0 mX12_restoreState Qr Qx 22 [(0, .ref a0)] [.int r5] M4 0 0
    refine kz_if_eq (pc := 22) (tgt := 27) (by decide) dX12_restoreState_22 (fun hb => ?_) (fun hb => ?_)
    · replace h := h.1 hb
      refine kz_aload_n (pc := 27) 0 (v := .ref a0) (i := 0) rfl rfl rfl dX12_restoreState_27 ?_
      obtain ⟨fs7, v8, hM, hv, h⟩ := h
      refine kz_getf (pc := 28) (k := 2) kcX12 hM hv (by decide) kw_1380 dX12_restoreState_28 ?_
      refine kz_iconst (pc := 31) (v := 0) (by decide) dX12_restoreState_31 ?_
      refine kz_aload_n (pc := 32) 0 (v := .ref a0) (i := 0) rfl rfl rfl dX12_restoreState_32 ?_
      obtain ⟨fs9, v10, hM, hv, h⟩ := h
      refine kz_getf (pc := 33) (k := 0) kcX12 hM hv (by decide) kw_1378 dX12_restoreState_33 ?_
      refine kz_iconst (pc := 36) (v := 0) (by decide) dX12_restoreState_36 ?_
      refine kz_sipush (pc := 37) (v := 3813) (by decide) dX12_restoreState_37 ?_
      refine kz_callS (pc := 40) (μ' := mX12_copies) (d' := d + 0) (mc' := 0) (ms' := 0) (As := [.ref v8, .int 0, .ref v10, .int 0, .int 3813]) (st := []) (c := 0) (sl := 0) kmX12_copies kw_1498 (by omega) rfl (Nat.le_of_ble_eq_true rfl) (Nat.le_refl _) (Nat.le_refl _) dX12_restoreState_40 (fun E M9 hx => kz_Tout rfl (Nat.le_refl _) (Nat.le_refl _) hx) (kz_Cmono (fun v M11 h => ?_) (fun _ _ h => h) h)
      obtain ⟨rfl, h⟩ := h
      show kz_Z G (d + 1) 0 0 mX12_restoreState Qr Qx 43 [(0, .ref a0)] [] M11 0 0
      refine kz_aload_n (pc := 43) 0 (v := .ref a0) (i := 0) rfl rfl rfl dX12_restoreState_43 ?_
      obtain ⟨fs14, v15, hM, hv, h⟩ := h
      refine kz_getf (pc := 44) (k := 5) kcX12 hM hv (by decide) kw_1383 dX12_restoreState_44 ?_
      refine kz_iconst (pc := 47) (v := 0) (by decide) dX12_restoreState_47 ?_
      refine kz_aload_n (pc := 48) 0 (v := .ref a0) (i := 0) rfl rfl rfl dX12_restoreState_48 ?_
      obtain ⟨fs16, v17, hM, hv, h⟩ := h
      refine kz_getf (pc := 49) (k := 4) kcX12 hM hv (by decide) kw_1382 dX12_restoreState_49 ?_
      refine kz_iconst (pc := 52) (v := 0) (by decide) dX12_restoreState_52 ?_
      refine kz_sipush (pc := 53) (v := 732) (by decide) dX12_restoreState_53 ?_
      refine kz_callS (pc := 56) (μ' := mX12_copiesWords) (d' := d + 0) (mc' := 0) (ms' := 0) (As := [.ref v15, .int 0, .ref v17, .int 0, .int 732]) (st := []) (c := 0) (sl := 0) kmX12_copiesWords kw_1824 (by omega) rfl (Nat.le_of_ble_eq_true rfl) (Nat.le_refl _) (Nat.le_refl _) dX12_restoreState_56 (fun E M9 hx => kz_Tout rfl (Nat.le_refl _) (Nat.le_refl _) hx) (kz_Cmono (fun v M18 h => ?_) (fun _ _ h => h) h)
      obtain ⟨rfl, h⟩ := h
      show kz_Z G (d + 1) 0 0 mX12_restoreState Qr Qx 59 [(0, .ref a0)] [] M18 0 0
      refine kz_aload_n (pc := 59) 0 (v := .ref a0) (i := 0) rfl rfl rfl dX12_restoreState_59 ?_
      refine kz_iconst (pc := 60) (v := 0) (by decide) dX12_restoreState_60 ?_
      obtain ⟨fs21, hM, hlen, h⟩ := h
      refine kz_putf (pc := 61) (k := 7) kcX12 hM (by decide) hlen kw_1385 rfl rfl rfl dX12_restoreState_61 ?_
      refine kz_aload_n (pc := 64) 0 (v := .ref a0) (i := 0) rfl rfl rfl dX12_restoreState_64 ?_
      obtain ⟨fs22, v23, hM, hv, h⟩ := h
      refine kz_getf (pc := 65) (k := 0) kcX12 hM hv (by decide) kw_1378 dX12_restoreState_65 ?_
      refine kz_iconst (pc := 68) (v := 2) (by decide) dX12_restoreState_68 ?_
      obtain ⟨n24, f25, hM, hi, h⟩ := h
      refine kz_iald (pc := 69) hM hi dX12_restoreState_69 ?_
      exact kz_iret (pc := 70) rfl (Nat.le_refl _) (Nat.le_refl _) dX12_restoreState_70 h
    · replace h := h.2 hb
      refine kz_iconst (pc := 25) (v := 0) (by decide) dX12_restoreState_25 ?_
      exact kz_iret (pc := 26) rfl (Nat.le_refl _) (Nat.le_refl _) dX12_restoreState_26 h
  · replace h := h.2 hb
    refine kz_iconst (pc := 13) (v := 1) (by decide) dX12_restoreState_13 ?_
    refine kz_goto (pc := 14) (tgt := 18) (by decide) dX12_restoreState_14 ?_
    refine kz_iconst (pc := 18) (v := 1) (by decide) dX12_restoreState_18 ?_
    obtain ⟨⟨fs53, he⟩, h⟩ := h
    refine kz_callV (pc := 19) (μ' := mX12_fails) (ci := 11) (q := (RX12, TX12, 32)) (b := a0) (d' := d + 0) (mc' := 0) (ms' := 0) (As := [.int 1, .int 1]) (st := []) (c := 0) (sl := 0) kmX12_fails kw_1653 (by omega) rfl (Nat.le_of_ble_eq_true rfl) he rfl rfl (Nat.le_refl _) (Nat.le_refl _) dX12_restoreState_19 (fun E M9 hx => kz_Tout rfl (Nat.le_refl _) (Nat.le_refl _) hx) (kz_Cmono (fun v M29 h => ?_) (fun _ _ h => h) h)
    obtain ⟨r30, rfl, h⟩ := h
    show kz_Z G (d + 1) 0 0 mX12_restoreState Qr Qx 22 [(0, .ref a0)] [.int r30] M29 0 0
    refine kz_if_eq (pc := 22) (tgt := 27) (by decide) dX12_restoreState_22 (fun hb => ?_) (fun hb => ?_)
    · replace h := h.1 hb
      refine kz_aload_n (pc := 27) 0 (v := .ref a0) (i := 0) rfl rfl rfl dX12_restoreState_27 ?_
      obtain ⟨fs32, v33, hM, hv, h⟩ := h
      refine kz_getf (pc := 28) (k := 2) kcX12 hM hv (by decide) kw_1380 dX12_restoreState_28 ?_
      refine kz_iconst (pc := 31) (v := 0) (by decide) dX12_restoreState_31 ?_
      refine kz_aload_n (pc := 32) 0 (v := .ref a0) (i := 0) rfl rfl rfl dX12_restoreState_32 ?_
      obtain ⟨fs34, v35, hM, hv, h⟩ := h
      refine kz_getf (pc := 33) (k := 0) kcX12 hM hv (by decide) kw_1378 dX12_restoreState_33 ?_
      refine kz_iconst (pc := 36) (v := 0) (by decide) dX12_restoreState_36 ?_
      refine kz_sipush (pc := 37) (v := 3813) (by decide) dX12_restoreState_37 ?_
      refine kz_callS (pc := 40) (μ' := mX12_copies) (d' := d + 0) (mc' := 0) (ms' := 0) (As := [.ref v33, .int 0, .ref v35, .int 0, .int 3813]) (st := []) (c := 0) (sl := 0) kmX12_copies kw_1498 (by omega) rfl (Nat.le_of_ble_eq_true rfl) (Nat.le_refl _) (Nat.le_refl _) dX12_restoreState_40 (fun E M9 hx => kz_Tout rfl (Nat.le_refl _) (Nat.le_refl _) hx) (kz_Cmono (fun v M36 h => ?_) (fun _ _ h => h) h)
      obtain ⟨rfl, h⟩ := h
      show kz_Z G (d + 1) 0 0 mX12_restoreState Qr Qx 43 [(0, .ref a0)] [] M36 0 0
      refine kz_aload_n (pc := 43) 0 (v := .ref a0) (i := 0) rfl rfl rfl dX12_restoreState_43 ?_
      obtain ⟨fs39, v40, hM, hv, h⟩ := h
      refine kz_getf (pc := 44) (k := 5) kcX12 hM hv (by decide) kw_1383 dX12_restoreState_44 ?_
      refine kz_iconst (pc := 47) (v := 0) (by decide) dX12_restoreState_47 ?_
      refine kz_aload_n (pc := 48) 0 (v := .ref a0) (i := 0) rfl rfl rfl dX12_restoreState_48 ?_
      obtain ⟨fs41, v42, hM, hv, h⟩ := h
      refine kz_getf (pc := 49) (k := 4) kcX12 hM hv (by decide) kw_1382 dX12_restoreState_49 ?_
      refine kz_iconst (pc := 52) (v := 0) (by decide) dX12_restoreState_52 ?_
      refine kz_sipush (pc := 53) (v := 732) (by decide) dX12_restoreState_53 ?_
      refine kz_callS (pc := 56) (μ' := mX12_copiesWords) (d' := d + 0) (mc' := 0) (ms' := 0) (As := [.ref v40, .int 0, .ref v42, .int 0, .int 732]) (st := []) (c := 0) (sl := 0) kmX12_copiesWords kw_1824 (by omega) rfl (Nat.le_of_ble_eq_true rfl) (Nat.le_refl _) (Nat.le_refl _) dX12_restoreState_56 (fun E M9 hx => kz_Tout rfl (Nat.le_refl _) (Nat.le_refl _) hx) (kz_Cmono (fun v M43 h => ?_) (fun _ _ h => h) h)
      obtain ⟨rfl, h⟩ := h
      show kz_Z G (d + 1) 0 0 mX12_restoreState Qr Qx 59 [(0, .ref a0)] [] M43 0 0
      refine kz_aload_n (pc := 59) 0 (v := .ref a0) (i := 0) rfl rfl rfl dX12_restoreState_59 ?_
      refine kz_iconst (pc := 60) (v := 0) (by decide) dX12_restoreState_60 ?_
      obtain ⟨fs46, hM, hlen, h⟩ := h
      refine kz_putf (pc := 61) (k := 7) kcX12 hM (by decide) hlen kw_1385 rfl rfl rfl dX12_restoreState_61 ?_
      refine kz_aload_n (pc := 64) 0 (v := .ref a0) (i := 0) rfl rfl rfl dX12_restoreState_64 ?_
      obtain ⟨fs47, v48, hM, hv, h⟩ := h
      refine kz_getf (pc := 65) (k := 0) kcX12 hM hv (by decide) kw_1378 dX12_restoreState_65 ?_
      refine kz_iconst (pc := 68) (v := 2) (by decide) dX12_restoreState_68 ?_
      obtain ⟨n49, f50, hM, hi, h⟩ := h
      refine kz_iald (pc := 69) hM hi dX12_restoreState_69 ?_
      exact kz_iret (pc := 70) rfl (Nat.le_refl _) (Nat.le_refl _) dX12_restoreState_70 h
    · replace h := h.2 hb
      refine kz_iconst (pc := 25) (v := 0) (by decide) dX12_restoreState_25 ?_
      exact kz_iret (pc := 26) rfl (Nat.le_refl _) (Nat.le_refl _) dX12_restoreState_26 h
