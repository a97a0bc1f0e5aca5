/-! The rules of 59r.rundo: printed by program (wip/whole/rules.py) -/
theorem dX11_undo_0 : decode cX11_undo 0 = .ok (.aload_n 0, 1) := by decide +kernel
theorem dX11_undo_1 : decode cX11_undo 1 = .ok (.getfield 36, 3) := by decide +kernel
theorem dX11_undo_4 : decode cX11_undo 4 = .ok (.invokevirtual 405, 3) := by decide +kernel
theorem dX11_undo_7 : decode cX11_undo 7 = .ok (.astore_n 1, 1) := by decide +kernel
theorem dX11_undo_8 : decode cX11_undo 8 = .ok (.aload_n 1, 1) := by decide +kernel
theorem dX11_undo_9 : decode cX11_undo 9 = .ok (.ifnonnull 14, 3) := by decide +kernel
theorem dX11_undo_12 : decode cX11_undo 12 = .ok (.new 409, 3) := by decide +kernel
theorem dX11_undo_15 : decode cX11_undo 15 = .ok (.dup, 1) := by decide +kernel
theorem dX11_undo_16 : decode cX11_undo 16 = .ok (.ldc_w 411, 3) := by decide +kernel
theorem dX11_undo_19 : decode cX11_undo 19 = .ok (.invokespecial 413, 3) := by decide +kernel
theorem dX11_undo_22 : decode cX11_undo 22 = .ok (.athrow, 1) := by decide +kernel
theorem dX11_undo_23 : decode cX11_undo 23 = .ok (.aload_n 0, 1) := by decide +kernel
theorem dX11_undo_24 : decode cX11_undo 24 = .ok (.getfield 26, 3) := by decide +kernel
theorem dX11_undo_27 : decode cX11_undo 27 = .ok (.aload_n 1, 1) := by decide +kernel
theorem dX11_undo_28 : decode cX11_undo 28 = .ok (.invokevirtual 95, 3) := by decide +kernel
theorem dX11_undo_31 : decode cX11_undo 31 = .ok (.aload_n 0, 1) := by decide +kernel
theorem dX11_undo_32 : decode cX11_undo 32 = .ok (.getfield 36, 3) := by decide +kernel
theorem dX11_undo_35 : decode cX11_undo 35 = .ok (.getfield 133, 3) := by decide +kernel
theorem dX11_undo_38 : decode cX11_undo 38 = .ok (.ireturn, 1) := by decide +kernel
theorem rX11_undo_0 {G : kz_G} {d : Nat} {mc ms : Nat} {Qr : Option Value → kz_M → Prop} {Qx : String → kz_M → Prop} {a0 : Nat}  {M : kz_M} (hG : kz_stat G) (h : ∃ fs1 v2, (M).1 a0 = some (.inl (10, fs1)) ∧ fs1[4]? = some (.ref v2) ∧ ((∃ fs18, (M).1 v2 = some (.inl (0, fs18))) ∧ kz_C G (d + 6) 0 0 mX0_takeLatest [.ref v2] M (fun v M3 => ∃ r4 : Option Nat, v = some (kz_rf r4) ∧ ((r4 = none → 0 + 1 ≤ mc ∧ 0 + 6 ≤ ms ∧ ∀ g7, Qx "java/util/NoSuchElementException" ((M3).1, (M3).2 + g7)) ∧ (∀ y6, r4 = some y6 → ∃ fs8 v9, (M3).1 a0 = some (.inl (10, fs8)) ∧ fs8[2]? = some (.ref v9) ∧ ((∃ fs17, (M3).1 v9 = some (.inl (8, fs17))) ∧ kz_C G (d + 6) 0 0 mX9_takeOver [.ref v9, .ref y6] M3 (fun v M10 => v = none ∧ (∃ fs13 v14, (M10).1 a0 = some (.inl (10, fs13)) ∧ fs13[4]? = some (.ref v14) ∧ (∃ fs15 v16, (M10).1 v14 = some (.inl (0, fs15)) ∧ fs15[2]? = some (.int v16) ∧ (Qr (some (.int v16)) M10)))) Qx)))) Qx)) : kz_C G (d + 7) mc ms mX11_undo [.ref a0] M Qr Qx := by
  refine kz_enter (n := 0) kmX11_undo.1 (Nat.le_of_ble_eq_true rfl) (ls := [(0, .ref a0)]) rfl ?_
  refine kz_aload_n (pc := 0) 0 (v := .ref a0) (i := 0) rfl rfl rfl dX11_undo_0 ?_
  obtain ⟨fs1, v2, hM, hv, h⟩ := h
  refine kz_getf (pc := 1) (k := 4) kcX11 hM hv (by decide) kw_279 dX11_undo_1 ?_
  obtain ⟨⟨fs18, he⟩, h⟩ := h
  refine kz_callV (pc := 4) (μ' := mX0_takeLatest) (ci := 0) (q := (RX0, TX0, 3)) (b := v2) (d' := d + 6) (mc' := 0) (ms' := 0) (As := []) (st := []) (c := 0) (sl := 0) kmX0_takeLatest kw_1315 (by omega) rfl (Nat.le_of_ble_eq_true rfl) he rfl rfl (Nat.zero_le _) (Nat.zero_le _) dX11_undo_4 (fun E M9 hx => kz_Tout rfl (Nat.zero_le _) (Nat.zero_le _) hx) (kz_Cmono (fun v M3 h => ?_) (fun _ _ h => h) h)
  obtain ⟨r4, rfl, h⟩ := h
  show kz_Z G (d + 7) mc ms mX11_undo Qr Qx 7 [(0, .ref a0)] [kz_rf r4] M3 0 0
  refine kz_astore_n (pc := 7) (i := 1) (v := kz_rf r4) (ls' := [(0, .ref a0)]) rfl (kz_isr_rf _) (by decide) rfl dX11_undo_7 ?_
  refine kz_aload_n (pc := 8) 0 (v := kz_rf r4) (i := 1) rfl rfl (kz_isr_rf _) dX11_undo_8 ?_
  rcases r4 with _ | y6
  · replace h := h.1 rfl
    refine kz_ifnonnull (pc := 9) (tgt := 23) rfl (by decide) dX11_undo_9 (fun hn => absurd rfl hn) (fun _ => ?_)
    exact kz_throwN (pc := 12) (is := 411) (j := 1013) (text := "nothing can be undone") hG.1 hG.2.1 hG.2.2.1 rfl (List.mem_of_getElem? (i := 13) rfl) rfl (by omega) (Nat.le_of_ble_eq_true rfl) h.1 h.2.1 dX11_undo_12 dX11_undo_15 dX11_undo_16 dX11_undo_19 dX11_undo_22 h.2.2
  · replace h := h.2 y6 rfl
    refine kz_ifnonnull (pc := 9) (tgt := 23) rfl (by decide) dX11_undo_9 (fun _ => ?_) (fun hn => by cases hn)
    refine kz_aload_n (pc := 23) 1 (v := .ref a0) (i := 0) rfl rfl rfl dX11_undo_23 ?_
    obtain ⟨fs8, v9, hM, hv, h⟩ := h
    refine kz_getf (pc := 24) (k := 2) kcX11 hM hv (by decide) kw_277 dX11_undo_24 ?_
    refine kz_aload_n (pc := 27) 0 (v := .ref y6) (i := 1) rfl rfl rfl dX11_undo_27 ?_
    obtain ⟨⟨fs17, he⟩, h⟩ := h
    refine kz_callV (pc := 28) (μ' := mX9_takeOver) (ci := 8) (q := (RX9, TX9, 10)) (b := v9) (d' := d + 6) (mc' := 0) (ms' := 0) (As := [.ref y6]) (st := []) (c := 0) (sl := 0) kmX9_takeOver kw_416 (by omega) rfl (Nat.le_of_ble_eq_true rfl) he rfl rfl (Nat.zero_le _) (Nat.zero_le _) dX11_undo_28 (fun E M9 hx => kz_Tout rfl (Nat.zero_le _) (Nat.zero_le _) hx) (kz_Cmono (fun v M10 h => ?_) (fun _ _ h => h) h)
    obtain ⟨rfl, h⟩ := h
    show kz_Z G (d + 7) mc ms mX11_undo Qr Qx 31 [(1, .ref y6), (0, .ref a0)] [] M10 0 0
    refine kz_aload_n (pc := 31) 1 (v := .ref a0) (i := 0) rfl rfl rfl dX11_undo_31 ?_
    obtain ⟨fs13, v14, hM, hv, h⟩ := h
    refine kz_getf (pc := 32) (k := 4) kcX11 hM hv (by decide) kw_279 dX11_undo_32 ?_
    obtain ⟨fs15, v16, hM, hv, h⟩ := h
    refine kz_getf (pc := 35) (k := 2) kcX0 hM hv (by decide) kw_152 dX11_undo_35 ?_
    exact kz_iret (pc := 38) rfl (Nat.zero_le _) (Nat.zero_le _) dX11_undo_38 h
theorem dX11_restoreState_0 : decode cX11_restoreState 0 = .ok (.aload_n 0, 1) := by decide +kernel
theorem dX11_restoreState_1 : decode cX11_restoreState 1 = .ok (.getfield 54, 3) := by decide +kernel
theorem dX11_restoreState_4 : decode cX11_restoreState 4 = .ok (.ifCond .ne 14, 3) := by decide +kernel
theorem dX11_restoreState_7 : decode cX11_restoreState 7 = .ok (.new 409, 3) := by decide +kernel
theorem dX11_restoreState_10 : decode cX11_restoreState 10 = .ok (.dup, 1) := by decide +kernel
theorem dX11_restoreState_11 : decode cX11_restoreState 11 = .ok (.ldc_w 441, 3) := by decide +kernel
theorem dX11_restoreState_14 : decode cX11_restoreState 14 = .ok (.invokespecial 413, 3) := by decide +kernel
theorem dX11_restoreState_17 : decode cX11_restoreState 17 = .ok (.athrow, 1) := by decide +kernel
theorem dX11_restoreState_18 : decode cX11_restoreState 18 = .ok (.aload_n 0, 1) := by decide +kernel
theorem dX11_restoreState_19 : decode cX11_restoreState 19 = .ok (.getfield 26, 3) := by decide +kernel
theorem dX11_restoreState_22 : decode cX11_restoreState 22 = .ok (.aload_n 0, 1) := by decide +kernel
theorem dX11_restoreState_23 : decode cX11_restoreState 23 = .ok (.getfield 30, 3) := by decide +kernel
theorem dX11_restoreState_26 : decode cX11_restoreState 26 = .ok (.invokevirtual 95, 3) := by decide +kernel
theorem dX11_restoreState_29 : decode cX11_restoreState 29 = .ok (.aload_n 0, 1) := by decide +kernel
theorem dX11_restoreState_30 : decode cX11_restoreState 30 = .ok (.getfield 36, 3) := by decide +kernel
theorem dX11_restoreState_33 : decode cX11_restoreState 33 = .ok (.invokevirtual 99, 3) := by decide +kernel
theorem dX11_restoreState_36 : decode cX11_restoreState 36 = .ok (.aload_n 0, 1) := by decide +kernel
theorem dX11_restoreState_37 : decode cX11_restoreState 37 = .ok (.getfield 26, 3) := by decide +kernel
theorem dX11_restoreState_40 : decode cX11_restoreState 40 = .ok (.getfield 114, 3) := by decide +kernel
theorem dX11_restoreState_43 : decode cX11_restoreState 43 = .ok (.ireturn, 1) := by decide +kernel
theorem rX11_restoreState_0 {G : kz_G} {d : Nat} {mc ms : Nat} {Qr : Option Value → kz_M → Prop} {Qx : String → kz_M → Prop} {a0 : Nat}  {M : kz_M} (hG : kz_stat G) (h : ∃ fs1 v2, (M).1 a0 = some (.inl (10, fs1)) ∧ fs1[7]? = some (.int v2) ∧ ((¬ v2 = 0 → ∃ fs3 v4, (M).1 a0 = some (.inl (10, fs3)) ∧ fs3[2]? = some (.ref v4) ∧ (∃ fs5 v6, (M).1 a0 = some (.inl (10, fs5)) ∧ fs5[3]? = some (.ref v6) ∧ ((∃ fs20, (M).1 v4 = some (.inl (8, fs20))) ∧ kz_C G (d + 6) 0 0 mX9_takeOver [.ref v4, .ref v6] M (fun v M7 => v = none ∧ (∃ fs10 v11, (M7).1 a0 = some (.inl (10, fs10)) ∧ fs10[4]? = some (.ref v11) ∧ ((∃ fs19, (M7).1 v11 = some (.inl (0, fs19))) ∧ kz_C G (d + 6) 0 0 mX0_forget [.ref v11] M7 (fun v M12 => v = none ∧ (∃ fs15 v16, (M12).1 a0 = some (.inl (10, fs15)) ∧ fs15[2]? = some (.ref v16) ∧ (∃ fs17 v18, (M12).1 v16 = some (.inl (8, fs17)) ∧ fs17[0]? = some (.int v18) ∧ (Qr (some (.int v18)) M12)))) Qx))) Qx))) ∧ (v2 = 0 → 0 + 1 ≤ mc ∧ 0 + 6 ≤ ms ∧ ∀ g21, Qx "java/util/NoSuchElementException" ((M).1, (M).2 + g21)))) : kz_C G (d + 7) mc ms mX11_restoreState [.ref a0] M Qr Qx := by
  refine kz_enter (n := 0) kmX11_restoreState.1 (Nat.le_of_ble_eq_true rfl) (ls := [(0, .ref a0)]) rfl ?_
  refine kz_aload_n (pc := 0) 0 (v := .ref a0) (i := 0) rfl rfl rfl dX11_restoreState_0 ?_
  obtain ⟨fs1, v2, hM, hv, h⟩ := h
  refine kz_getf (pc := 1) (k := 7) kcX11 hM hv (by decide) kw_282 dX11_restoreState_1 ?_
  refine kz_if_ne (pc := 4) (tgt := 18) (by decide) dX11_restoreState_4 (fun hb => ?_) (fun hb => ?_)
  · replace h := h.1 hb
    refine kz_aload_n (pc := 18) 0 (v := .ref a0) (i := 0) rfl rfl rfl dX11_restoreState_18 ?_
    obtain ⟨fs3, v4, hM, hv, h⟩ := h
    refine kz_getf (pc := 19) (k := 2) kcX11 hM hv (by decide) kw_277 dX11_restoreState_19 ?_
    refine kz_aload_n (pc := 22) 0 (v := .ref a0) (i := 0) rfl rfl rfl dX11_restoreState_22 ?_
    obtain ⟨fs5, v6, hM, hv, h⟩ := h
    refine kz_getf (pc := 23) (k := 3) kcX11 hM hv (by decide) kw_278 dX11_restoreState_23 ?_
    obtain ⟨⟨fs20, he⟩, h⟩ := h
    refine kz_callV (pc := 26) (μ' := mX9_takeOver) (ci := 8) (q := (RX9, TX9, 10)) (b := v4) (d' := d + 6) (mc' := 0) (ms' := 0) (As := [.ref v6]) (st := []) (c := 0) (sl := 0) kmX9_takeOver kw_416 (by omega) rfl (Nat.le_of_ble_eq_true rfl) he rfl rfl (Nat.zero_le _) (Nat.zero_le _) dX11_restoreState_26 (fun E M9 hx => kz_Tout rfl (Nat.zero_le _) (Nat.zero_le _) hx) (kz_Cmono (fun v M7 h => ?_) (fun _ _ h => h) h)
    obtain ⟨rfl, h⟩ := h
    show kz_Z G (d + 7) mc ms mX11_restoreState Qr Qx 29 [(0, .ref a0)] [] M7 0 0
    refine kz_aload_n (pc := 29) 0 (v := .ref a0) (i := 0) rfl rfl rfl dX11_restoreState_29 ?_
    obtain ⟨fs10, v11, hM, hv, h⟩ := h
    refine kz_getf (pc := 30) (k := 4) kcX11 hM hv (by decide) kw_279 dX11_restoreState_30 ?_
    obtain ⟨⟨fs19, he⟩, h⟩ := h
    refine kz_callV (pc := 33) (μ' := mX0_forget) (ci := 0) (q := (RX0, TX0, 3)) (b := v11) (d' := d + 6) (mc' := 0) (ms' := 0) (As := []) (st := []) (c := 0) (sl := 0) kmX0_forget kw_428 (by omega) rfl (Nat.le_of_ble_eq_true rfl) he rfl rfl (Nat.zero_le _) (Nat.zero_le _) dX11_restoreState_33 (fun E M9 hx => kz_Tout rfl (Nat.zero_le _) (Nat.zero_le _) hx) (kz_Cmono (fun v M12 h => ?_) (fun _ _ h => h) h)
    obtain ⟨rfl, h⟩ := h
    show kz_Z G (d + 7) mc ms mX11_restoreState Qr Qx 36 [(0, .ref a0)] [] M12 0 0
    refine kz_aload_n (pc := 36) 0 (v := .ref a0) (i := 0) rfl rfl rfl dX11_restoreState_36 ?_
    obtain ⟨fs15, v16, hM, hv, h⟩ := h
    refine kz_getf (pc := 37) (k := 2) kcX11 hM hv (by decide) kw_277 dX11_restoreState_37 ?_
    obtain ⟨fs17, v18, hM, hv, h⟩ := h
    refine kz_getf (pc := 40) (k := 0) kcX9 hM hv (by decide) kw_101 dX11_restoreState_40 ?_
    exact kz_iret (pc := 43) rfl (Nat.zero_le _) (Nat.zero_le _) dX11_restoreState_43 h
  · replace h := h.2 hb
    exact kz_throwN (pc := 7) (is := 441) (j := 1014) (text := "no state is saved") hG.1 hG.2.1 hG.2.2.1 rfl (List.mem_of_getElem? (i := 14) rfl) rfl (by omega) (Nat.le_of_ble_eq_true rfl) h.1 h.2.1 dX11_restoreState_7 dX11_restoreState_10 dX11_restoreState_11 dX11_restoreState_14 dX11_restoreState_17 h.2.2
