/-! The rules of part 61.rlist: printed by program (wip/p51/rules2.py) -/
theorem dJxa1e45_init_da8c8_0 : decode cJxa1e45_init_da8c8 0 = .ok (.aload_n 0, 1) := by decide +kernel
theorem dJxa1e45_init_da8c8_1 : decode cJxa1e45_init_da8c8 1 = .ok (.invokespecial 1, 3) := by decide +kernel
theorem dJxa1e45_init_da8c8_4 : decode cJxa1e45_init_da8c8 4 = .ok (.return_, 1) := by decide +kernel
theorem rJxa1e45_init_da8c8_0 {G : kz_G} {d : Nat} {Qr : Option Value → kz_M → Prop} {Qx : String → kz_M → Prop} {a0 : Nat}  {M : kz_M} (h : Qr none M) : kz_C G (d + 1) 0 0 mJxa1e45_init_da8c8 [.ref a0] M Qr Qx := by
  refine kz_enter (n := 0) kmJxa1e45_init_da8c8.1 (Nat.le_of_ble_eq_true rfl) (ls := [(0, .ref a0)]) rfl ?_
  refine kz_aload_n (pc := 0) 0 (v := .ref a0) (i := 0) rfl rfl rfl dJxa1e45_init_da8c8_0 ?_
  refine kz_objInit (pc := 1) kw_464 kw_43 kw_44 (by omega) (Nat.le_of_ble_eq_true rfl) dJxa1e45_init_da8c8_1 ?_
  exact kz_vret (pc := 4) rfl (Nat.le_refl _) (Nat.le_refl _) dJxa1e45_init_da8c8_4 h
theorem dJxc12de_init_da8c8_0 : decode cJxc12de_init_da8c8 0 = .ok (.aload_n 0, 1) := by decide +kernel
theorem dJxc12de_init_da8c8_1 : decode cJxc12de_init_da8c8 1 = .ok (.invokespecial 1, 3) := by decide +kernel
theorem dJxc12de_init_da8c8_4 : decode cJxc12de_init_da8c8 4 = .ok (.aload_n 0, 1) := by decide +kernel
theorem dJxc12de_init_da8c8_5 : decode cJxc12de_init_da8c8 5 = .ok (.iconst 0, 1) := by decide +kernel
theorem dJxc12de_init_da8c8_6 : decode cJxc12de_init_da8c8 6 = .ok (.putfield 7, 3) := by decide +kernel
theorem dJxc12de_init_da8c8_9 : decode cJxc12de_init_da8c8 9 = .ok (.return_, 1) := by decide +kernel
theorem rJxc12de_init_da8c8_0 {G : kz_G} {d : Nat} {Qr : Option Value → kz_M → Prop} {Qx : String → kz_M → Prop} {a0 : Nat}  {M : kz_M} (h : kz_C G (d + 1) 0 0 mJxa1e45_init_da8c8 [.ref a0] M (fun v M1 => v = none ∧ (∃ fs4, (M1).1 a0 = some (.inl (16, fs4)) ∧ 0 < fs4.length ∧ (Qr none (kz_up M1 a0 (.inl (16, fs4.set 0 (.int 0))))))) Qx) : kz_C G (d + 2) 0 0 mJxc12de_init_da8c8 [.ref a0] M Qr Qx := by
  refine kz_enter (n := 0) kmJxc12de_init_da8c8.1 (Nat.le_of_ble_eq_true rfl) (ls := [(0, .ref a0)]) rfl ?_
  refine kz_aload_n (pc := 0) 0 (v := .ref a0) (i := 0) rfl rfl rfl dJxc12de_init_da8c8_0 ?_
  refine kz_callI (pc := 1) (μ' := mJxa1e45_init_da8c8) (b := a0) (d' := d + 1) (mc' := 0) (ms' := 0) (As := []) (st := []) (c := 0) (sl := 0) kmJxa1e45_init_da8c8 kw_461 (by omega) rfl (Nat.le_of_ble_eq_true rfl) (Nat.le_refl _) (Nat.le_refl _) dJxc12de_init_da8c8_1 (fun E M9 hx => kz_Tout rfl (Nat.le_refl _) (Nat.le_refl _) hx) (kz_Cmono (fun v M1 h => ?_) (fun _ _ h => h) h)
  obtain ⟨rfl, h⟩ := h
  show kz_Z G (d + 2) 0 0 mJxc12de_init_da8c8 Qr Qx 4 [(0, .ref a0)] [] M1 0 0
  refine kz_aload_n (pc := 4) 0 (v := .ref a0) (i := 0) rfl rfl rfl dJxc12de_init_da8c8_4 ?_
  refine kz_iconst (pc := 5) (v := 0) (by decide) dJxc12de_init_da8c8_5 ?_
  obtain ⟨fs4, hM, hlen, h⟩ := h
  refine kz_putf (pc := 6) (k := 0) kcJx4a65c hM (by decide) hlen kw_471 rfl rfl rfl dJxc12de_init_da8c8_6 ?_
  exact kz_vret (pc := 9) rfl (Nat.le_refl _) (Nat.le_refl _) dJxc12de_init_da8c8_9 h
theorem dJx4a65c_init_da8c8_0 : decode cJx4a65c_init_da8c8 0 = .ok (.aload_n 0, 1) := by decide +kernel
theorem dJx4a65c_init_da8c8_1 : decode cJx4a65c_init_da8c8 1 = .ok (.invokespecial 1, 3) := by decide +kernel
theorem dJx4a65c_init_da8c8_4 : decode cJx4a65c_init_da8c8 4 = .ok (.aload_n 0, 1) := by decide +kernel
theorem dJx4a65c_init_da8c8_5 : decode cJx4a65c_init_da8c8 5 = .ok (.getstatic 39, 3) := by decide +kernel
theorem dJx4a65c_init_da8c8_8 : decode cJx4a65c_init_da8c8 8 = .ok (.putfield 9, 3) := by decide +kernel
theorem dJx4a65c_init_da8c8_11 : decode cJx4a65c_init_da8c8 11 = .ok (.return_, 1) := by decide +kernel
theorem rJx4a65c_init_da8c8_0 {G : kz_G} {d : Nat} {Qr : Option Value → kz_M → Prop} {Qx : String → kz_M → Prop} {a0 : Nat}  {M : kz_M} (hG2 : kz_stat2 G) (h : kz_C G (d + 2) 0 0 mJxc12de_init_da8c8 [.ref a0] M (fun v M1 => v = none ∧ (∃ fs4, (M1).1 a0 = some (.inl (16, fs4)) ∧ 1 < fs4.length ∧ (Qr none (kz_up M1 a0 (.inl (16, fs4.set 1 (.retAddr 3002))))))) Qx) : kz_C G (d + 3) 0 0 mJx4a65c_init_da8c8 [.ref a0] M Qr Qx := by
  refine kz_enter (n := 0) kmJx4a65c_init_da8c8.1 (Nat.le_of_ble_eq_true rfl) (ls := [(0, .ref a0)]) rfl ?_
  refine kz_aload_n (pc := 0) 0 (v := .ref a0) (i := 0) rfl rfl rfl dJx4a65c_init_da8c8_0 ?_
  refine kz_callI (pc := 1) (μ' := mJxc12de_init_da8c8) (b := a0) (d' := d + 2) (mc' := 0) (ms' := 0) (As := []) (st := []) (c := 0) (sl := 0) kmJxc12de_init_da8c8 kw_458 (by omega) rfl (Nat.le_of_ble_eq_true rfl) (Nat.le_refl _) (Nat.le_refl _) dJx4a65c_init_da8c8_1 (fun E M9 hx => kz_Tout rfl (Nat.le_refl _) (Nat.le_refl _) hx) (kz_Cmono (fun v M1 h => ?_) (fun _ _ h => h) h)
  obtain ⟨rfl, h⟩ := h
  show kz_Z G (d + 3) 0 0 mJx4a65c_init_da8c8 Qr Qx 4 [(0, .ref a0)] [] M1 0 0
  refine kz_aload_n (pc := 4) 0 (v := .ref a0) (i := 0) rfl rfl rfl dJx4a65c_init_da8c8_4 ?_
  refine kz_gets (pc := 5) (v := .retAddr 3002) hG2.1 kw_465 dJx4a65c_init_da8c8_5 ?_
  obtain ⟨fs4, hM, hlen, h⟩ := h
  refine kz_putf (pc := 8) (k := 1) kcJx4a65c hM (by decide) hlen kw_467 rfl rfl rfl dJx4a65c_init_da8c8_8 ?_
  exact kz_vret (pc := 11) rfl (Nat.le_refl _) (Nat.le_refl _) dJx4a65c_init_da8c8_11 h
theorem dJx4a65c_size_8abf5_0 : decode cJx4a65c_size_8abf5 0 = .ok (.aload_n 0, 1) := by decide +kernel
theorem dJx4a65c_size_8abf5_1 : decode cJx4a65c_size_8abf5 1 = .ok (.getfield 48, 3) := by decide +kernel
theorem dJx4a65c_size_8abf5_4 : decode cJx4a65c_size_8abf5 4 = .ok (.ireturn, 1) := by decide +kernel
theorem rJx4a65c_size_8abf5_0 {G : kz_G} {d : Nat} {Qr : Option Value → kz_M → Prop} {Qx : String → kz_M → Prop} {a0 : Nat}  {M : kz_M} (h : ∃ fs1 v2, (M).1 a0 = some (.inl (16, fs1)) ∧ fs1[2]? = some (.int v2) ∧ (Qr (some (.int v2)) M)) : kz_C G d 0 0 mJx4a65c_size_8abf5 [.ref a0] M Qr Qx := by
  refine kz_enter (n := 0) kmJx4a65c_size_8abf5 (Nat.le_of_ble_eq_true rfl) (ls := [(0, .ref a0)]) rfl ?_
  refine kz_aload_n (pc := 0) 0 (v := .ref a0) (i := 0) rfl rfl rfl dJx4a65c_size_8abf5_0 ?_
  obtain ⟨fs1, v2, hM, hv, h⟩ := h
  refine kz_getf (pc := 1) (k := 2) kcJx4a65c hM hv (by decide) kw_470 dJx4a65c_size_8abf5_1 ?_
  exact kz_iret (pc := 4) rfl (Nat.le_refl _) (Nat.le_refl _) dJx4a65c_size_8abf5_4 h
theorem dJx4a65c_isEmpty_aae02_0 : decode cJx4a65c_isEmpty_aae02 0 = .ok (.aload_n 0, 1) := by decide +kernel
theorem dJx4a65c_isEmpty_aae02_1 : decode cJx4a65c_isEmpty_aae02 1 = .ok (.getfield 48, 3) := by decide +kernel
theorem dJx4a65c_isEmpty_aae02_4 : decode cJx4a65c_isEmpty_aae02 4 = .ok (.ifCond .ne 7, 3) := by decide +kernel
theorem dJx4a65c_isEmpty_aae02_7 : decode cJx4a65c_isEmpty_aae02 7 = .ok (.iconst 1, 1) := by decide +kernel
theorem dJx4a65c_isEmpty_aae02_8 : decode cJx4a65c_isEmpty_aae02 8 = .ok (.goto 4, 3) := by decide +kernel
theorem dJx4a65c_isEmpty_aae02_11 : decode cJx4a65c_isEmpty_aae02 11 = .ok (.iconst 0, 1) := by decide +kernel
theorem dJx4a65c_isEmpty_aae02_12 : decode cJx4a65c_isEmpty_aae02 12 = .ok (.ireturn, 1) := by decide +kernel
theorem rJx4a65c_isEmpty_aae02_0 {G : kz_G} {d : Nat} {Qr : Option Value → kz_M → Prop} {Qx : String → kz_M → Prop} {a0 : Nat}  {M : kz_M} (h : ∃ fs1 v2, (M).1 a0 = some (.inl (16, fs1)) ∧ fs1[2]? = some (.int v2) ∧ ((¬ v2 = 0 → Qr (some (.int 0)) M) ∧ (v2 = 0 → Qr (some (.int 1)) M))) : kz_C G d 0 0 mJx4a65c_isEmpty_aae02 [.ref a0] M Qr Qx := by
  refine kz_enter (n := 0) kmJx4a65c_isEmpty_aae02 (Nat.le_of_ble_eq_true rfl) (ls := [(0, .ref a0)]) rfl ?_
  refine kz_aload_n (pc := 0) 0 (v := .ref a0) (i := 0) rfl rfl rfl dJx4a65c_isEmpty_aae02_0 ?_
  obtain ⟨fs1, v2, hM, hv, h⟩ := h
  refine kz_getf (pc := 1) (k := 2) kcJx4a65c hM hv (by decide) kw_470 dJx4a65c_isEmpty_aae02_1 ?_
  refine kz_if_ne (pc := 4) (tgt := 11) (by decide) dJx4a65c_isEmpty_aae02_4 (fun hb => ?_) (fun hb => ?_)
  · replace h := h.1 hb
    refine kz_iconst (pc := 11) (v := 0) (by decide) dJx4a65c_isEmpty_aae02_11 ?_
    exact kz_zret (pc := 12) (ty := .boolean) rfl (by decide) (Nat.le_refl _) (Nat.le_refl _) dJx4a65c_isEmpty_aae02_12 h
  · replace h := h.2 hb
    refine kz_iconst (pc := 7) (v := 1) (by decide) dJx4a65c_isEmpty_aae02_7 ?_
    refine kz_goto (pc := 8) (tgt := 12) (by decide) dJx4a65c_isEmpty_aae02_8 ?_
    exact kz_zret (pc := 12) (ty := .boolean) rfl (by decide) (Nat.le_refl _) (Nat.le_refl _) dJx4a65c_isEmpty_aae02_12 h
theorem dJx4a65c_elementData_915e3_0 : decode cJx4a65c_elementData_915e3 0 = .ok (.aload_n 0, 1) := by decide +kernel
theorem dJx4a65c_elementData_915e3_1 : decode cJx4a65c_elementData_915e3 1 = .ok (.getfield 9, 3) := by decide +kernel
theorem dJx4a65c_elementData_915e3_4 : decode cJx4a65c_elementData_915e3 4 = .ok (.iload_n 1, 1) := by decide +kernel
theorem dJx4a65c_elementData_915e3_5 : decode cJx4a65c_elementData_915e3 5 = .ok (.aaload, 1) := by decide +kernel
theorem dJx4a65c_elementData_915e3_6 : decode cJx4a65c_elementData_915e3 6 = .ok (.areturn, 1) := by decide +kernel
theorem rJx4a65c_elementData_915e3_0 {G : kz_G} {d : Nat} {Qr : Option Value → kz_M → Prop} {Qx : String → kz_M → Prop} {a0 : Nat} {p1 : Int32}  {M : kz_M} (h : ∃ fs1 v2, (M).1 a0 = some (.inl (16, fs1)) ∧ fs1[1]? = some (.ref v2) ∧ (∃ n3 f4 o5, (M).1 v2 = some (.inr (.object "java/lang/Object", n3, .inr (.inr (.inr (.inr f4))))) ∧ vp_in p1 n3 ∧ f4 (Int32.toNatClampNeg p1) = some o5 ∧ (Qr (some (.ref o5)) M))) : kz_C G d 0 0 mJx4a65c_elementData_915e3 [.ref a0, .int p1] M Qr Qx := by
  refine kz_enter (n := 1) kmJx4a65c_elementData_915e3.1 (Nat.le_of_ble_eq_true rfl) (ls := [(0, .ref a0), (1, .int p1)]) rfl ?_
  refine kz_aload_n (pc := 0) 0 (v := .ref a0) (i := 0) rfl rfl rfl dJx4a65c_elementData_915e3_0 ?_
  obtain ⟨fs1, v2, hM, hv, h⟩ := h
  refine kz_getf (pc := 1) (k := 1) kcJx4a65c hM hv (by decide) kw_467 dJx4a65c_elementData_915e3_1 ?_
  refine kz_iload_n (pc := 4) 1 (i := 1) rfl rfl dJx4a65c_elementData_915e3_4 ?_
  obtain ⟨n3, f4, o5, hM, hi, ho, h⟩ := h
  refine kz_aald (pc := 5) hM hi dJx4a65c_elementData_915e3_5 ?_
  rw [ho]
  show kz_Z G d 0 0 mJx4a65c_elementData_915e3 Qr Qx 6 [(0, .ref a0), (1, .int p1)] [.ref o5] M 0 0
  exact kz_aret (pc := 6) (v := .ref o5) rfl rfl (Or.inl ⟨_, rfl⟩) (Nat.le_refl _) (Nat.le_refl _) dJx4a65c_elementData_915e3_6 h
theorem dJ15_checkIndex_7cf53_0 : decode cJ15_checkIndex_7cf53 0 = .ok (.iload_n 0, 1) := by decide +kernel
theorem dJ15_checkIndex_7cf53_1 : decode cJ15_checkIndex_7cf53 1 = .ok (.iload_n 1, 1) := by decide +kernel
theorem dJ15_checkIndex_7cf53_2 : decode cJ15_checkIndex_7cf53 2 = .ok (.aconst_null, 1) := by decide +kernel
theorem dJ15_checkIndex_7cf53_3 : decode cJ15_checkIndex_7cf53 3 = .ok (.invokestatic 105, 3) := by decide +kernel
theorem dJ15_checkIndex_7cf53_6 : decode cJ15_checkIndex_7cf53 6 = .ok (.ireturn, 1) := by decide +kernel
theorem rJ15_checkIndex_7cf53_0 {G : kz_G} {d : Nat} {Qr : Option Value → kz_M → Prop} {Qx : String → kz_M → Prop} {p0 : Int32} {p1 : Int32}  {M : kz_M} (h : kz_C G (d + 0) 0 0 mJ3_checkIndex_8e157 [.int p0, .int p1, .null] M (fun v M1 => ∃ r2 : Int32, v = some (.int r2) ∧ (Qr (some (.int r2)) M1)) Qx) : kz_C G (d + 1) 0 0 mJ15_checkIndex_7cf53 [.int p0, .int p1] M Qr Qx := by
  refine kz_enter (n := 2) kmJ15_checkIndex_7cf53.1 (Nat.le_of_ble_eq_true rfl) (ls := [(0, .int p0), (1, .int p1)]) rfl ?_
  refine kz_iload_n (pc := 0) 0 (i := 0) rfl rfl dJ15_checkIndex_7cf53_0 ?_
  refine kz_iload_n (pc := 1) 1 (i := 1) rfl rfl dJ15_checkIndex_7cf53_1 ?_
  refine kz_null (pc := 2) dJ15_checkIndex_7cf53_2 ?_
  refine kz_callS (pc := 3) (μ' := mJ3_checkIndex_8e157) (d' := d + 0) (mc' := 0) (ms' := 0) (As := [.int p0, .int p1, .null]) (st := []) (c := 0) (sl := 0) kmJ3_checkIndex_8e157 kw_949 (by omega) rfl (Nat.le_of_ble_eq_true rfl) (Nat.le_refl _) (Nat.le_refl _) dJ15_checkIndex_7cf53_3 (fun E M9 hx => kz_Tout rfl (Nat.le_refl _) (Nat.le_refl _) hx) (kz_Cmono (fun v M1 h => ?_) (fun _ _ h => h) h)
  obtain ⟨r2, rfl, h⟩ := h
  show kz_Z G (d + 1) 0 0 mJ15_checkIndex_7cf53 Qr Qx 6 [(0, .int p0), (1, .int p1)] [.int r2] M1 0 0
  exact kz_iret (pc := 6) rfl (Nat.le_refl _) (Nat.le_refl _) dJ15_checkIndex_7cf53_6 h
theorem dJx4a65c_get_915e3_0 : decode cJx4a65c_get_915e3 0 = .ok (.iload_n 1, 1) := by decide +kernel
theorem dJx4a65c_get_915e3_1 : decode cJx4a65c_get_915e3 1 = .ok (.aload_n 0, 1) := by decide +kernel
theorem dJx4a65c_get_915e3_2 : decode cJx4a65c_get_915e3 2 = .ok (.getfield 48, 3) := by decide +kernel
theorem dJx4a65c_get_915e3_5 : decode cJx4a65c_get_915e3 5 = .ok (.invokestatic 118, 3) := by decide +kernel
theorem dJx4a65c_get_915e3_8 : decode cJx4a65c_get_915e3 8 = .ok (.pop, 1) := by decide +kernel
theorem dJx4a65c_get_915e3_9 : decode cJx4a65c_get_915e3 9 = .ok (.aload_n 0, 1) := by decide +kernel
theorem dJx4a65c_get_915e3_10 : decode cJx4a65c_get_915e3 10 = .ok (.iload_n 1, 1) := by decide +kernel
theorem dJx4a65c_get_915e3_11 : decode cJx4a65c_get_915e3 11 = .ok (.invokevirtual 123, 3) := by decide +kernel
theorem dJx4a65c_get_915e3_14 : decode cJx4a65c_get_915e3 14 = .ok (.areturn, 1) := by decide +kernel
theorem rJx4a65c_get_915e3_0 {G : kz_G} {d : Nat} {Qr : Option Value → kz_M → Prop} {Qx : String → kz_M → Prop} {a0 : Nat} {p1 : Int32}  {M : kz_M} (h : ∃ fs1 v2, (M).1 a0 = some (.inl (16, fs1)) ∧ fs1[2]? = some (.int v2) ∧ (kz_C G (d + 1) 0 0 mJ15_checkIndex_7cf53 [.int p1, .int v2] M (fun v M3 => ∃ r4 : Int32, v = some (.int r4) ∧ ((∃ fs9, (M3).1 a0 = some (.inl (16, fs9))) ∧ kz_C G (d + 1) 0 0 mJx4a65c_elementData_915e3 [.ref a0, .int p1] M3 (fun v M6 => ∃ r7 : Nat, v = some (.ref r7) ∧ (Qr (some (.ref r7)) M6)) Qx)) Qx)) : kz_C G (d + 2) 0 0 mJx4a65c_get_915e3 [.ref a0, .int p1] M Qr Qx := by
  refine kz_enter (n := 1) kmJx4a65c_get_915e3 (Nat.le_of_ble_eq_true rfl) (ls := [(0, .ref a0), (1, .int p1)]) rfl ?_
  refine kz_iload_n (pc := 0) 1 (i := 1) rfl rfl dJx4a65c_get_915e3_0 ?_
  refine kz_aload_n (pc := 1) 0 (v := .ref a0) (i := 0) rfl rfl rfl dJx4a65c_get_915e3_1 ?_
  obtain ⟨fs1, v2, hM, hv, h⟩ := h
  refine kz_getf (pc := 2) (k := 2) kcJx4a65c hM hv (by decide) kw_470 dJx4a65c_get_915e3_2 ?_
  refine kz_callS (pc := 5) (μ' := mJ15_checkIndex_7cf53) (d' := d + 1) (mc' := 0) (ms' := 0) (As := [.int p1, .int v2]) (st := []) (c := 0) (sl := 0) kmJ15_checkIndex_7cf53 kw_946 (by omega) rfl (Nat.le_of_ble_eq_true rfl) (Nat.le_refl _) (Nat.le_refl _) dJx4a65c_get_915e3_5 (fun E M9 hx => kz_Tout rfl (Nat.le_refl _) (Nat.le_refl _) hx) (kz_Cmono (fun v M3 h => ?_) (fun _ _ h => h) h)
  obtain ⟨r4, rfl, h⟩ := h
  show kz_Z G (d + 2) 0 0 mJx4a65c_get_915e3 Qr Qx 8 [(0, .ref a0), (1, .int p1)] [.int r4] M3 0 0
  refine kz_pop (pc := 8) rfl dJx4a65c_get_915e3_8 ?_
  refine kz_aload_n (pc := 9) 0 (v := .ref a0) (i := 0) rfl rfl rfl dJx4a65c_get_915e3_9 ?_
  refine kz_iload_n (pc := 10) 1 (i := 1) rfl rfl dJx4a65c_get_915e3_10 ?_
  obtain ⟨⟨fs9, he⟩, h⟩ := h
  refine kz_callV (pc := 11) (μ' := mJx4a65c_elementData_915e3) (ci := 16) (q := (RJx4a65c, TJx4a65c, 3)) (b := a0) (d' := d + 1) (mc' := 0) (ms' := 0) (As := [.int p1]) (st := []) (c := 0) (sl := 0) kmJx4a65c_elementData_915e3 kw_950 (by omega) rfl (Nat.le_of_ble_eq_true rfl) he rfl rfl (Nat.le_refl _) (Nat.le_refl _) dJx4a65c_get_915e3_11 (fun E M9 hx => kz_Tout rfl (Nat.le_refl _) (Nat.le_refl _) hx) (kz_Cmono (fun v M6 h => ?_) (fun _ _ h => h) h)
  obtain ⟨r7, rfl, h⟩ := h
  show kz_Z G (d + 2) 0 0 mJx4a65c_get_915e3 Qr Qx 14 [(0, .ref a0), (1, .int p1)] [.ref r7] M6 0 0
  exact kz_aret (pc := 14) (v := .ref r7) rfl rfl (Or.inl ⟨_, rfl⟩) (Nat.le_refl _) (Nat.le_refl _) dJx4a65c_get_915e3_14 h
theorem dJ7_copyOf_6403c_0 : decode cJ7_copyOf_6403c 0 = .ok (.aload_n 2, 1) := by decide +kernel
theorem dJ7_copyOf_6403c_1 : decode cJ7_copyOf_6403c 1 = .ok (.ldc 110, 2) := by decide +kernel
theorem dJ7_copyOf_6403c_3 : decode cJ7_copyOf_6403c 3 = .ok (.if_acmp .ne 10, 3) := by decide +kernel
theorem dJ7_copyOf_6403c_6 : decode cJ7_copyOf_6403c 6 = .ok (.iload_n 1, 1) := by decide +kernel
theorem dJ7_copyOf_6403c_7 : decode cJ7_copyOf_6403c 7 = .ok (.anewarray 2, 3) := by decide +kernel
theorem dJ7_copyOf_6403c_10 : decode cJ7_copyOf_6403c 10 = .ok (.goto 14, 3) := by decide +kernel
theorem dJ7_copyOf_6403c_24 : decode cJ7_copyOf_6403c 24 = .ok (.astore_n 3, 1) := by decide +kernel
theorem dJ7_copyOf_6403c_25 : decode cJ7_copyOf_6403c 25 = .ok (.aload_n 0, 1) := by decide +kernel
theorem dJ7_copyOf_6403c_26 : decode cJ7_copyOf_6403c 26 = .ok (.iconst 0, 1) := by decide +kernel
theorem dJ7_copyOf_6403c_27 : decode cJ7_copyOf_6403c 27 = .ok (.aload_n 3, 1) := by decide +kernel
theorem dJ7_copyOf_6403c_28 : decode cJ7_copyOf_6403c 28 = .ok (.iconst 0, 1) := by decide +kernel
theorem dJ7_copyOf_6403c_29 : decode cJ7_copyOf_6403c 29 = .ok (.aload_n 0, 1) := by decide +kernel
theorem dJ7_copyOf_6403c_30 : decode cJ7_copyOf_6403c 30 = .ok (.arraylength, 1) := by decide +kernel
theorem dJ7_copyOf_6403c_31 : decode cJ7_copyOf_6403c 31 = .ok (.iload_n 1, 1) := by decide +kernel
theorem dJ7_copyOf_6403c_32 : decode cJ7_copyOf_6403c 32 = .ok (.invokestatic 304, 3) := by decide +kernel
theorem dJ7_copyOf_6403c_35 : decode cJ7_copyOf_6403c 35 = .ok (.invokestatic 150, 3) := by decide +kernel
theorem dJ7_copyOf_6403c_38 : decode cJ7_copyOf_6403c 38 = .ok (.aload_n 3, 1) := by decide +kernel
theorem dJ7_copyOf_6403c_39 : decode cJ7_copyOf_6403c 39 = .ok (.areturn, 1) := by decide +kernel
theorem rJ7_copyOf_6403c_0 {G : kz_G} {d : Nat} {mc ms : Nat} {Qr : Option Value → kz_M → Prop} {Qx : String → kz_M → Prop} {p0 : Nat} {p1 : Int32}  {M : kz_M} (h : ∃ N1, ¬ p1 < 0 ∧ (p1 : Int32).toNatClampNeg = N1 ∧ N1 ≤ 60000000 ∧ 0 + 1 ≤ mc ∧ 0 + N1 ≤ ms ∧ (∃ ty3 A4, ((kz_nw M (.inr (.object "java/lang/Object", N1, .inr (.inr (.inr (.inr (fun _ => none)))))))).1 p0 = some (.inr (ty3, A4)) ∧ (∃ n7 f5 n8 g6, ((kz_nw M (.inr (.object "java/lang/Object", N1, .inr (.inr (.inr (.inr (fun _ => none)))))))).1 p0 = some (.inr (.object "java/lang/Object", n7, .inr (.inr (.inr (.inr f5))))) ∧ ((kz_nw M (.inr (.object "java/lang/Object", N1, .inr (.inr (.inr (.inr (fun _ => none)))))))).1 ((M).2) = some (.inr (.object "java/lang/Object", n8, .inr (.inr (.inr (.inr g6))))) ∧ (∀ i, i < n7 → ∀ y, f5 i = some y → ∃ ci q fs, vwCl[ci]? = some q ∧ Cond.castable q.1 "java/lang/Object" ∈ lw_tbl ∧ ((kz_nw M (.inr (.object "java/lang/Object", N1, .inr (.inr (.inr (.inr (fun _ => none)))))))).1 y = some (.inl (ci, fs))) ∧ ¬ ((0 : Int32)) < (0 : Int32) ∧ ¬ ((0 : Int32)) < (0 : Int32) ∧ ¬ ((if p1 < (Int32.ofNat A4.1) then p1 else (Int32.ofNat A4.1))) < (0 : Int32) ∧ (0 : Int32).toNatClampNeg + (if p1 < (Int32.ofNat A4.1) then p1 else (Int32.ofNat A4.1) : Int32).toNatClampNeg ≤ n7 ∧ (0 : Int32).toNatClampNeg + (if p1 < (Int32.ofNat A4.1) then p1 else (Int32.ofNat A4.1) : Int32).toNatClampNeg ≤ n8 ∧ ∀ M9, M9 = kz_up (kz_nw M (.inr (.object "java/lang/Object", N1, .inr (.inr (.inr (.inr (fun _ => none))))))) ((M).2) (.inr (.object "java/lang/Object", n8, .inr (.inr (.inr (.inr (va_cpy f5 g6 (0 : Int32).toNatClampNeg (0 : Int32).toNatClampNeg (if p1 < (Int32.ofNat A4.1) then p1 else (Int32.ofNat A4.1) : Int32).toNatClampNeg)))))) → Qr (some (.ref ((M).2))) M9))) : kz_C G (d + 1) mc ms mJ7_copyOf_6403c [.ref p0, .int p1, .retAddr 3001] M Qr Qx := by
  refine kz_enter (n := 3) kmJ7_copyOf_6403c.1 (Nat.le_of_ble_eq_true rfl) (ls := [(0, .ref p0), (1, .int p1), (2, .retAddr 3001)]) rfl ?_
  refine kz_aload_n (pc := 0) 2 (v := .retAddr 3001) (i := 2) rfl rfl rfl dJ7_copyOf_6403c_0 ?_
  refine kz_ldcM (pc := 1) kw_1402 dJ7_copyOf_6403c_1 ?_
  refine kz_acmp_neT (pc := 3) (v := .retAddr 3001) (tgt := 13) rfl (by decide) dJ7_copyOf_6403c_3 ?_
  refine kz_iload_n (pc := 6) 1 (i := 1) rfl rfl dJ7_copyOf_6403c_6 ?_
  obtain ⟨N1, hn, hN, hb8, hc2, hs2, h⟩ := h
  refine kz_anew (pc := 7) (C := "java/lang/Object") N1 kw_1404 kw_1403 hn hN hb8 hc2 hs2 dJ7_copyOf_6403c_7 ?_
  refine kz_goto (pc := 10) (tgt := 24) (by decide) dJ7_copyOf_6403c_10 ?_
  refine kz_astore_n (pc := 24) (i := 3) (v := .ref ((M).2)) (ls' := [(0, .ref p0), (1, .int p1), (2, .retAddr 3001)]) rfl rfl (by decide) rfl dJ7_copyOf_6403c_24 ?_
  refine kz_aload_n (pc := 25) 1 (v := .ref p0) (i := 0) rfl rfl rfl dJ7_copyOf_6403c_25 ?_
  refine kz_iconst (pc := 26) (v := 0) (by decide) dJ7_copyOf_6403c_26 ?_
  refine kz_aload_n (pc := 27) 0 (v := .ref ((M).2)) (i := 3) rfl rfl rfl dJ7_copyOf_6403c_27 ?_
  refine kz_iconst (pc := 28) (v := 0) (by decide) dJ7_copyOf_6403c_28 ?_
  refine kz_aload_n (pc := 29) 1 (v := .ref p0) (i := 0) rfl rfl rfl dJ7_copyOf_6403c_29 ?_
  obtain ⟨ty3, A4, hM, h⟩ := h
  refine kz_alen (pc := 30) hM rfl dJ7_copyOf_6403c_30 ?_
  refine kz_iload_n (pc := 31) 2 (i := 1) rfl rfl dJ7_copyOf_6403c_31 ?_
  refine kz_mmin (pc := 32) kw_556 kw_557 kw_9 kw_558 (by omega) (Nat.le_of_ble_eq_true rfl) hc2 hs2 dJ7_copyOf_6403c_32 ?_
  obtain ⟨n7, f5, n8, g6, ha, hb, hfit, h1, h2, h3, h4, h5, h⟩ := h
  refine kz_copyO (pc := 35) ⟨kw_559, kw_409, kw_408, kw_11⟩ ha hb hfit h1 h2 h3 h4 h5 (by omega) (Nat.le_of_ble_eq_true rfl) dJ7_copyOf_6403c_35 ?_
  refine kz_nameM (fun M9 e9 => ?_)
  replace h := h M9 e9
  refine kz_aload_n (pc := 38) 0 (v := .ref ((M).2)) (i := 3) rfl rfl rfl dJ7_copyOf_6403c_38 ?_
  exact kz_aret (pc := 39) (v := .ref ((M).2)) rfl rfl (Or.inr ⟨_, rfl⟩) hc2 hs2 dJ7_copyOf_6403c_39 h
theorem dJ7_copyOf_1904c_0 : decode cJ7_copyOf_1904c 0 = .ok (.aload_n 0, 1) := by decide +kernel
theorem dJ7_copyOf_1904c_1 : decode cJ7_copyOf_1904c 1 = .ok (.iload_n 1, 1) := by decide +kernel
theorem dJ7_copyOf_1904c_2 : decode cJ7_copyOf_1904c 2 = .ok (.aload_n 0, 1) := by decide +kernel
theorem dJ7_copyOf_1904c_3 : decode cJ7_copyOf_1904c 3 = .ok (.invokevirtual 86, 3) := by decide +kernel
theorem dJ7_copyOf_1904c_6 : decode cJ7_copyOf_1904c 6 = .ok (.invokestatic 300, 3) := by decide +kernel
theorem dJ7_copyOf_1904c_9 : decode cJ7_copyOf_1904c 9 = .ok (.areturn, 1) := by decide +kernel
theorem rJ7_copyOf_1904c_0 {G : kz_G} {d : Nat} {mc ms : Nat} {Qr : Option Value → kz_M → Prop} {Qx : String → kz_M → Prop} {p0 : Nat} {p1 : Int32}  {M : kz_M} (h : ∃ n1 f2, (M).1 p0 = some (.inr (.object "java/lang/Object", n1, .inr (.inr (.inr (.inr f2))))) ∧ (∃ mc5 ms5, 0 + mc5 ≤ mc ∧ 0 + ms5 ≤ ms ∧ kz_C G (d + 1) mc5 ms5 mJ7_copyOf_6403c [.ref p0, .int p1, .retAddr 3001] M (fun v M3 => ∃ r4 : Nat, v = some (.ref r4) ∧ (Qr (some (.ref r4)) M3)) Qx)) : kz_C G (d + 2) mc ms mJ7_copyOf_1904c [.ref p0, .int p1] M Qr Qx := by
  refine kz_enter (n := 2) kmJ7_copyOf_1904c.1 (Nat.le_of_ble_eq_true rfl) (ls := [(0, .ref p0), (1, .int p1)]) rfl ?_
  refine kz_aload_n (pc := 0) 0 (v := .ref p0) (i := 0) rfl rfl rfl dJ7_copyOf_1904c_0 ?_
  refine kz_iload_n (pc := 1) 1 (i := 1) rfl rfl dJ7_copyOf_1904c_1 ?_
  refine kz_aload_n (pc := 2) 0 (v := .ref p0) (i := 0) rfl rfl rfl dJ7_copyOf_1904c_2 ?_
  obtain ⟨n1, f2, hM, h⟩ := h
  refine kz_getC (pc := 3) kw_1373 kw_1578 kw_1577 kw_1374 kw_1398 hM (by omega) (Nat.le_of_ble_eq_true rfl) dJ7_copyOf_1904c_3 ?_
  obtain ⟨mc5, ms5, hc5, hs5, h⟩ := h
  refine kz_callS (pc := 6) (μ' := mJ7_copyOf_6403c) (d' := d + 1) (mc' := mc5) (ms' := ms5) (As := [.ref p0, .int p1, .retAddr 3001]) (st := []) (c := 0) (sl := 0) kmJ7_copyOf_6403c kw_1399 (by omega) rfl (Nat.le_of_ble_eq_true rfl) hc5 hs5 dJ7_copyOf_1904c_6 (fun E M9 hx => kz_Tout rfl hc5 hs5 hx) (kz_Cmono (fun v M3 h => ?_) (fun _ _ h => h) h)
  obtain ⟨r4, rfl, h⟩ := h
  show kz_Z G (d + 2) mc ms mJ7_copyOf_1904c Qr Qx 9 [(0, .ref p0), (1, .int p1)] [.ref r4] M3 (0 + mc5) (0 + ms5)
  exact kz_aret (pc := 9) (v := .ref r4) rfl rfl (Or.inr ⟨_, rfl⟩) hc5 hs5 dJ7_copyOf_1904c_9 h
theorem dJx4a65c_grow_92f84_0 : decode cJx4a65c_grow_92f84 0 = .ok (.aload_n 0, 1) := by decide +kernel
theorem dJx4a65c_grow_92f84_1 : decode cJx4a65c_grow_92f84 1 = .ok (.getfield 9, 3) := by decide +kernel
theorem dJx4a65c_grow_92f84_4 : decode cJx4a65c_grow_92f84 4 = .ok (.arraylength, 1) := by decide +kernel
theorem dJx4a65c_grow_92f84_5 : decode cJx4a65c_grow_92f84 5 = .ok (.istore_n 2, 1) := by decide +kernel
theorem dJx4a65c_grow_92f84_6 : decode cJx4a65c_grow_92f84 6 = .ok (.iload_n 2, 1) := by decide +kernel
theorem dJx4a65c_grow_92f84_7 : decode cJx4a65c_grow_92f84 7 = .ok (.ifCond .gt 13, 3) := by decide +kernel
theorem dJx4a65c_grow_92f84_10 : decode cJx4a65c_grow_92f84 10 = .ok (.aload_n 0, 1) := by decide +kernel
theorem dJx4a65c_grow_92f84_11 : decode cJx4a65c_grow_92f84 11 = .ok (.getfield 9, 3) := by decide +kernel
theorem dJx4a65c_grow_92f84_14 : decode cJx4a65c_grow_92f84 14 = .ok (.getstatic 39, 3) := by decide +kernel
theorem dJx4a65c_grow_92f84_17 : decode cJx4a65c_grow_92f84 17 = .ok (.if_acmp .eq 28, 3) := by decide +kernel
theorem dJx4a65c_grow_92f84_20 : decode cJx4a65c_grow_92f84 20 = .ok (.iload_n 2, 1) := by decide +kernel
theorem dJx4a65c_grow_92f84_21 : decode cJx4a65c_grow_92f84 21 = .ok (.iload_n 1, 1) := by decide +kernel
theorem dJx4a65c_grow_92f84_22 : decode cJx4a65c_grow_92f84 22 = .ok (.iload_n 2, 1) := by decide +kernel
theorem dJx4a65c_grow_92f84_23 : decode cJx4a65c_grow_92f84 23 = .ok (.isub, 1) := by decide +kernel
theorem dJx4a65c_grow_92f84_24 : decode cJx4a65c_grow_92f84 24 = .ok (.iload_n 2, 1) := by decide +kernel
theorem dJx4a65c_grow_92f84_25 : decode cJx4a65c_grow_92f84 25 = .ok (.iconst 1, 1) := by decide +kernel
theorem dJx4a65c_grow_92f84_26 : decode cJx4a65c_grow_92f84 26 = .ok (.ishr, 1) := by decide +kernel
theorem dJx4a65c_grow_92f84_27 : decode cJx4a65c_grow_92f84 27 = .ok (.invokestatic 73, 3) := by decide +kernel
theorem dJx4a65c_grow_92f84_30 : decode cJx4a65c_grow_92f84 30 = .ok (.istore_n 3, 1) := by decide +kernel
theorem dJx4a65c_grow_92f84_31 : decode cJx4a65c_grow_92f84 31 = .ok (.aload_n 0, 1) := by decide +kernel
theorem dJx4a65c_grow_92f84_32 : decode cJx4a65c_grow_92f84 32 = .ok (.aload_n 0, 1) := by decide +kernel
theorem dJx4a65c_grow_92f84_33 : decode cJx4a65c_grow_92f84 33 = .ok (.getfield 9, 3) := by decide +kernel
theorem dJx4a65c_grow_92f84_36 : decode cJx4a65c_grow_92f84 36 = .ok (.iload_n 3, 1) := by decide +kernel
theorem dJx4a65c_grow_92f84_37 : decode cJx4a65c_grow_92f84 37 = .ok (.invokestatic 66, 3) := by decide +kernel
theorem dJx4a65c_grow_92f84_40 : decode cJx4a65c_grow_92f84 40 = .ok (.dup_x1, 1) := by decide +kernel
theorem dJx4a65c_grow_92f84_41 : decode cJx4a65c_grow_92f84 41 = .ok (.putfield 9, 3) := by decide +kernel
theorem dJx4a65c_grow_92f84_44 : decode cJx4a65c_grow_92f84 44 = .ok (.areturn, 1) := by decide +kernel
theorem rJx4a65c_grow_92f84_0 {G : kz_G} {d : Nat} {mc ms : Nat} {Qr : Option Value → kz_M → Prop} {Qx : String → kz_M → Prop} {a0 : Nat} {p1 : Int32}  {M : kz_M} (hG2 : kz_stat2 G) (h : ∃ fs1 v2, (M).1 a0 = some (.inl (16, fs1)) ∧ fs1[1]? = some (.ref v2) ∧ (∃ ty3 A4, (M).1 v2 = some (.inr (ty3, A4)) ∧ ((0 < (Int32.ofNat A4.1) → kz_C G (d + 2) 0 0 mJ8_newLength_cabcc [.int (Int32.ofNat A4.1), .int (p1 - (Int32.ofNat A4.1)), .int ((Int32.ofNat A4.1) >>> (1 &&& 31))] M (fun v M5 => ∃ r6 : Int32, v = some (.int r6) ∧ (∃ fs8 v9, (M5).1 a0 = some (.inl (16, fs8)) ∧ fs8[1]? = some (.ref v9) ∧ (∃ mc12 ms12, 0 + mc12 ≤ mc ∧ 0 + ms12 ≤ ms ∧ kz_C G (d + 2) mc12 ms12 mJ7_copyOf_1904c [.ref v9, .int r6] M5 (fun v M10 => ∃ r11 : Nat, v = some (.ref r11) ∧ (∃ fs13, (M10).1 a0 = some (.inl (16, fs13)) ∧ 1 < fs13.length ∧ (Qr (some (.ref r11)) (kz_up M10 a0 (.inl (16, fs13.set 1 (.ref r11))))))) Qx))) Qx) ∧ (¬ 0 < (Int32.ofNat A4.1) → False)))) : kz_C G (d + 3) mc ms mJx4a65c_grow_92f84 [.ref a0, .int p1] M Qr Qx := by
  refine kz_enter (n := 1) kmJx4a65c_grow_92f84.1 (Nat.le_of_ble_eq_true rfl) (ls := [(0, .ref a0), (1, .int p1)]) rfl ?_
  refine kz_aload_n (pc := 0) 0 (v := .ref a0) (i := 0) rfl rfl rfl dJx4a65c_grow_92f84_0 ?_
  obtain ⟨fs1, v2, hM, hv, h⟩ := h
  refine kz_getf (pc := 1) (k := 1) kcJx4a65c hM hv (by decide) kw_467 dJx4a65c_grow_92f84_1 ?_
  obtain ⟨ty3, A4, hM, h⟩ := h
  refine kz_alen (pc := 4) hM rfl dJx4a65c_grow_92f84_4 ?_
  refine kz_istore_n (pc := 5) (i := 2) (ls' := [(0, .ref a0), (1, .int p1)]) rfl (by decide) rfl dJx4a65c_grow_92f84_5 ?_
  refine kz_iload_n (pc := 6) 0 (i := 2) rfl rfl dJx4a65c_grow_92f84_6 ?_
  refine kz_if_gt (pc := 7) (tgt := 20) (by decide) dJx4a65c_grow_92f84_7 (fun hb => ?_) (fun hb => ?_)
  · replace h := h.1 hb
    refine kz_iload_n (pc := 20) 0 (i := 2) rfl rfl dJx4a65c_grow_92f84_20 ?_
    refine kz_iload_n (pc := 21) 2 (i := 1) rfl rfl dJx4a65c_grow_92f84_21 ?_
    refine kz_iload_n (pc := 22) 0 (i := 2) rfl rfl dJx4a65c_grow_92f84_22 ?_
    refine kz_isub (pc := 23) dJx4a65c_grow_92f84_23 ?_
    refine kz_iload_n (pc := 24) 0 (i := 2) rfl rfl dJx4a65c_grow_92f84_24 ?_
    refine kz_iconst (pc := 25) (v := 1) (by decide) dJx4a65c_grow_92f84_25 ?_
    refine kz_ishr (pc := 26) dJx4a65c_grow_92f84_26 ?_
    refine kz_callS (pc := 27) (μ' := mJ8_newLength_cabcc) (d' := d + 2) (mc' := 0) (ms' := 0) (As := [.int (Int32.ofNat A4.1), .int (p1 - (Int32.ofNat A4.1)), .int ((Int32.ofNat A4.1) >>> (1 &&& 31))]) (st := []) (c := 0) (sl := 0) kmJ8_newLength_cabcc kw_1369 (by omega) rfl (Nat.le_of_ble_eq_true rfl) (Nat.zero_le _) (Nat.zero_le _) dJx4a65c_grow_92f84_27 (fun E M9 hx => kz_Tout rfl (Nat.zero_le _) (Nat.zero_le _) hx) (kz_Cmono (fun v M5 h => ?_) (fun _ _ h => h) h)
    obtain ⟨r6, rfl, h⟩ := h
    show kz_Z G (d + 3) mc ms mJx4a65c_grow_92f84 Qr Qx 30 [(2, .int (Int32.ofNat A4.1)), (0, .ref a0), (1, .int p1)] [.int r6] M5 0 0
    refine kz_istore_n (pc := 30) (i := 3) (ls' := [(2, .int (Int32.ofNat A4.1)), (0, .ref a0), (1, .int p1)]) rfl (by decide) rfl dJx4a65c_grow_92f84_30 ?_
    refine kz_aload_n (pc := 31) 2 (v := .ref a0) (i := 0) rfl rfl rfl dJx4a65c_grow_92f84_31 ?_
    refine kz_aload_n (pc := 32) 2 (v := .ref a0) (i := 0) rfl rfl rfl dJx4a65c_grow_92f84_32 ?_
    obtain ⟨fs8, v9, hM, hv, h⟩ := h
    refine kz_getf (pc := 33) (k := 1) kcJx4a65c hM hv (by decide) kw_467 dJx4a65c_grow_92f84_33 ?_
    refine kz_iload_n (pc := 36) 0 (i := 3) rfl rfl dJx4a65c_grow_92f84_36 ?_
    obtain ⟨mc12, ms12, hc12, hs12, h⟩ := h
    refine kz_callS (pc := 37) (μ' := mJ7_copyOf_1904c) (d' := d + 2) (mc' := mc12) (ms' := ms12) (As := [.ref v9, .int r6]) (st := [.ref a0]) (c := 0) (sl := 0) kmJ7_copyOf_1904c kw_1370 (by omega) rfl (Nat.le_of_ble_eq_true rfl) hc12 hs12 dJx4a65c_grow_92f84_37 (fun E M9 hx => kz_Tout rfl hc12 hs12 hx) (kz_Cmono (fun v M10 h => ?_) (fun _ _ h => h) h)
    obtain ⟨r11, rfl, h⟩ := h
    show kz_Z G (d + 3) mc ms mJx4a65c_grow_92f84 Qr Qx 40 [(3, .int r6), (2, .int (Int32.ofNat A4.1)), (0, .ref a0), (1, .int p1)] [.ref r11, .ref a0] M10 (0 + mc12) (0 + ms12)
    refine kz_dup_x1 (pc := 40) rfl rfl dJx4a65c_grow_92f84_40 ?_
    obtain ⟨fs13, hM, hlen, h⟩ := h
    refine kz_putf (pc := 41) (k := 1) kcJx4a65c hM (by decide) hlen kw_467 rfl rfl rfl dJx4a65c_grow_92f84_41 ?_
    exact kz_aret (pc := 44) (v := .ref r11) rfl rfl (Or.inr ⟨_, rfl⟩) hc12 hs12 dJx4a65c_grow_92f84_44 h
  · replace h := h.2 hb
    exact h.elim
theorem dJx4a65c_grow_92f84_45 : decode cJx4a65c_grow_92f84 45 = .ok (.aload_n 0, 1) := by decide +kernel
theorem dJx4a65c_grow_92f84_46 : decode cJx4a65c_grow_92f84 46 = .ok (.bipush 10, 2) := by decide +kernel
theorem dJx4a65c_grow_92f84_48 : decode cJx4a65c_grow_92f84 48 = .ok (.iload_n 1, 1) := by decide +kernel
theorem dJx4a65c_grow_92f84_49 : decode cJx4a65c_grow_92f84 49 = .ok (.invokestatic 79, 3) := by decide +kernel
theorem dJx4a65c_grow_92f84_52 : decode cJx4a65c_grow_92f84 52 = .ok (.anewarray 7, 3) := by decide +kernel
theorem dJx4a65c_grow_92f84_55 : decode cJx4a65c_grow_92f84 55 = .ok (.dup_x1, 1) := by decide +kernel
theorem dJx4a65c_grow_92f84_56 : decode cJx4a65c_grow_92f84 56 = .ok (.putfield 9, 3) := by decide +kernel
theorem dJx4a65c_grow_92f84_59 : decode cJx4a65c_grow_92f84 59 = .ok (.areturn, 1) := by decide +kernel
theorem rJx4a65c_grow_92f84E_0 {G : kz_G} {d : Nat} {mc ms : Nat} {Qr : Option Value → kz_M → Prop} {Qx : String → kz_M → Prop} {a0 : Nat} {p1 : Int32}  {M : kz_M} (hG2 : kz_stat2 G) (h : ∃ fs1, (M).1 a0 = some (.inl (16, fs1)) ∧ fs1[1]? = some (.retAddr 3002) ∧ ((0 < (0 : Int32) → kz_C G (d + 2) 0 0 mJ8_newLength_cabcc [.int 0, .int (p1 - 0), .int ((0 : Int32) >>> (1 &&& 31))] M (fun v M3 => ∃ r4 : Int32, v = some (.int r4) ∧ (∃ fs6 v7, (M3).1 a0 = some (.inl (16, fs6)) ∧ fs6[1]? = some (.ref v7) ∧ (∃ mc10 ms10, 0 + mc10 ≤ mc ∧ 0 + ms10 ≤ ms ∧ kz_C G (d + 2) mc10 ms10 mJ7_copyOf_1904c [.ref v7, .int r4] M3 (fun v M8 => ∃ r9 : Nat, v = some (.ref r9) ∧ (∃ fs11, (M8).1 a0 = some (.inl (16, fs11)) ∧ 1 < fs11.length ∧ (Qr (some (.ref r9)) (kz_up M8 a0 (.inl (16, fs11.set 1 (.ref r9))))))) Qx))) Qx) ∧ (¬ 0 < (0 : Int32) → ∃ fs14, (M).1 a0 = some (.inl (16, fs14)) ∧ fs14[1]? = some (.retAddr 3002) ∧ (∃ N16, ¬ (if 10 < p1 then p1 else 10) < 0 ∧ (if 10 < p1 then p1 else 10 : Int32).toNatClampNeg = N16 ∧ N16 ≤ 60000000 ∧ 0 + 1 ≤ mc ∧ 0 + N16 ≤ ms ∧ (∃ fs18, ((kz_nw M (.inr (.object "java/lang/Object", N16, .inr (.inr (.inr (.inr (fun _ => none)))))))).1 a0 = some (.inl (16, fs18)) ∧ 1 < fs18.length ∧ (Qr (some (.ref ((M).2))) (kz_up (kz_nw M (.inr (.object "java/lang/Object", N16, .inr (.inr (.inr (.inr (fun _ => none))))))) a0 (.inl (16, fs18.set 1 (.ref ((M).2))))))))))) : kz_C G (d + 3) mc ms mJx4a65c_grow_92f84 [.ref a0, .int p1] M Qr Qx := by
  refine kz_enter (n := 1) kmJx4a65c_grow_92f84.1 (Nat.le_of_ble_eq_true rfl) (ls := [(0, .ref a0), (1, .int p1)]) rfl ?_
  refine kz_aload_n (pc := 0) 0 (v := .ref a0) (i := 0) rfl rfl rfl dJx4a65c_grow_92f84_0 ?_
  obtain ⟨fs1, hM, hv, h⟩ := h
  refine kz_getf (pc := 1) (k := 1) kcJx4a65c hM hv (by decide) kw_467 dJx4a65c_grow_92f84_1 ?_
  refine kz_salen (pc := 4) (v := 0) hG2.2.1 (by decide) dJx4a65c_grow_92f84_4 ?_
  refine kz_istore_n (pc := 5) (i := 2) (ls' := [(0, .ref a0), (1, .int p1)]) rfl (by decide) rfl dJx4a65c_grow_92f84_5 ?_
  refine kz_iload_n (pc := 6) 0 (i := 2) rfl rfl dJx4a65c_grow_92f84_6 ?_
  refine kz_if_gt (pc := 7) (tgt := 20) (by decide) dJx4a65c_grow_92f84_7 (fun hb => ?_) (fun hb => ?_)
  · replace h := h.1 hb
    refine kz_iload_n (pc := 20) 0 (i := 2) rfl rfl dJx4a65c_grow_92f84_20 ?_
    refine kz_iload_n (pc := 21) 2 (i := 1) rfl rfl dJx4a65c_grow_92f84_21 ?_
    refine kz_iload_n (pc := 22) 0 (i := 2) rfl rfl dJx4a65c_grow_92f84_22 ?_
    refine kz_isub (pc := 23) dJx4a65c_grow_92f84_23 ?_
    refine kz_iload_n (pc := 24) 0 (i := 2) rfl rfl dJx4a65c_grow_92f84_24 ?_
    refine kz_iconst (pc := 25) (v := 1) (by decide) dJx4a65c_grow_92f84_25 ?_
    refine kz_ishr (pc := 26) dJx4a65c_grow_92f84_26 ?_
    refine kz_callS (pc := 27) (μ' := mJ8_newLength_cabcc) (d' := d + 2) (mc' := 0) (ms' := 0) (As := [.int 0, .int (p1 - 0), .int ((0 : Int32) >>> (1 &&& 31))]) (st := []) (c := 0) (sl := 0) kmJ8_newLength_cabcc kw_1369 (by omega) rfl (Nat.le_of_ble_eq_true rfl) (Nat.zero_le _) (Nat.zero_le _) dJx4a65c_grow_92f84_27 (fun E M9 hx => kz_Tout rfl (Nat.zero_le _) (Nat.zero_le _) hx) (kz_Cmono (fun v M3 h => ?_) (fun _ _ h => h) h)
    obtain ⟨r4, rfl, h⟩ := h
    show kz_Z G (d + 3) mc ms mJx4a65c_grow_92f84 Qr Qx 30 [(2, .int 0), (0, .ref a0), (1, .int p1)] [.int r4] M3 0 0
    refine kz_istore_n (pc := 30) (i := 3) (ls' := [(2, .int 0), (0, .ref a0), (1, .int p1)]) rfl (by decide) rfl dJx4a65c_grow_92f84_30 ?_
    refine kz_aload_n (pc := 31) 2 (v := .ref a0) (i := 0) rfl rfl rfl dJx4a65c_grow_92f84_31 ?_
    refine kz_aload_n (pc := 32) 2 (v := .ref a0) (i := 0) rfl rfl rfl dJx4a65c_grow_92f84_32 ?_
    obtain ⟨fs6, v7, hM, hv, h⟩ := h
    refine kz_getf (pc := 33) (k := 1) kcJx4a65c hM hv (by decide) kw_467 dJx4a65c_grow_92f84_33 ?_
    refine kz_iload_n (pc := 36) 0 (i := 3) rfl rfl dJx4a65c_grow_92f84_36 ?_
    obtain ⟨mc10, ms10, hc10, hs10, h⟩ := h
    refine kz_callS (pc := 37) (μ' := mJ7_copyOf_1904c) (d' := d + 2) (mc' := mc10) (ms' := ms10) (As := [.ref v7, .int r4]) (st := [.ref a0]) (c := 0) (sl := 0) kmJ7_copyOf_1904c kw_1370 (by omega) rfl (Nat.le_of_ble_eq_true rfl) hc10 hs10 dJx4a65c_grow_92f84_37 (fun E M9 hx => kz_Tout rfl hc10 hs10 hx) (kz_Cmono (fun v M8 h => ?_) (fun _ _ h => h) h)
    obtain ⟨r9, rfl, h⟩ := h
    show kz_Z G (d + 3) mc ms mJx4a65c_grow_92f84 Qr Qx 40 [(3, .int r4), (2, .int 0), (0, .ref a0), (1, .int p1)] [.ref r9, .ref a0] M8 (0 + mc10) (0 + ms10)
    refine kz_dup_x1 (pc := 40) rfl rfl dJx4a65c_grow_92f84_40 ?_
    obtain ⟨fs11, hM, hlen, h⟩ := h
    refine kz_putf (pc := 41) (k := 1) kcJx4a65c hM (by decide) hlen kw_467 rfl rfl rfl dJx4a65c_grow_92f84_41 ?_
    exact kz_aret (pc := 44) (v := .ref r9) rfl rfl (Or.inr ⟨_, rfl⟩) hc10 hs10 dJx4a65c_grow_92f84_44 h
  · replace h := h.2 hb
    refine kz_aload_n (pc := 10) 1 (v := .ref a0) (i := 0) rfl rfl rfl dJx4a65c_grow_92f84_10 ?_
    obtain ⟨fs14, hM, hv, h⟩ := h
    refine kz_getf (pc := 11) (k := 1) kcJx4a65c hM hv (by decide) kw_467 dJx4a65c_grow_92f84_11 ?_
    refine kz_gets (pc := 14) (v := .retAddr 3002) hG2.1 kw_465 dJx4a65c_grow_92f84_14 ?_
    refine kz_acmp_eqT (pc := 17) (v := .retAddr 3002) (tgt := 45) rfl (by decide) dJx4a65c_grow_92f84_17 ?_
    refine kz_aload_n (pc := 45) 1 (v := .ref a0) (i := 0) rfl rfl rfl dJx4a65c_grow_92f84_45 ?_
    refine kz_bipush (pc := 46) (v := 10) (by decide) dJx4a65c_grow_92f84_46 ?_
    refine kz_iload_n (pc := 48) 2 (i := 1) rfl rfl dJx4a65c_grow_92f84_48 ?_
    refine kz_mmax (pc := 49) kw_1405 kw_539 kw_9 kw_540 (by omega) (Nat.le_of_ble_eq_true rfl) (Nat.zero_le _) (Nat.zero_le _) dJx4a65c_grow_92f84_49 ?_
    obtain ⟨N16, hn, hN, hb8, hc17, hs17, h⟩ := h
    refine kz_anew (pc := 52) (C := "java/lang/Object") N16 kw_1406 kw_1403 hn hN hb8 hc17 hs17 dJx4a65c_grow_92f84_52 ?_
    refine kz_dup_x1 (pc := 55) rfl rfl dJx4a65c_grow_92f84_55 ?_
    obtain ⟨fs18, hM, hlen, h⟩ := h
    refine kz_putf (pc := 56) (k := 1) kcJx4a65c hM (by decide) hlen kw_467 rfl rfl rfl dJx4a65c_grow_92f84_56 ?_
    exact kz_aret (pc := 59) (v := .ref ((M).2)) rfl rfl (Or.inr ⟨_, rfl⟩) hc17 hs17 dJx4a65c_grow_92f84_59 h
theorem dJx4a65c_grow_d5877_0 : decode cJx4a65c_grow_d5877 0 = .ok (.aload_n 0, 1) := by decide +kernel
theorem dJx4a65c_grow_d5877_1 : decode cJx4a65c_grow_d5877 1 = .ok (.aload_n 0, 1) := by decide +kernel
theorem dJx4a65c_grow_d5877_2 : decode cJx4a65c_grow_d5877 2 = .ok (.getfield 48, 3) := by decide +kernel
theorem dJx4a65c_grow_d5877_5 : decode cJx4a65c_grow_d5877 5 = .ok (.iconst 1, 1) := by decide +kernel
theorem dJx4a65c_grow_d5877_6 : decode cJx4a65c_grow_d5877 6 = .ok (.iadd, 1) := by decide +kernel
theorem dJx4a65c_grow_d5877_7 : decode cJx4a65c_grow_d5877 7 = .ok (.invokevirtual 69, 3) := by decide +kernel
theorem dJx4a65c_grow_d5877_10 : decode cJx4a65c_grow_d5877 10 = .ok (.areturn, 1) := by decide +kernel
theorem rJx4a65c_grow_d5877_0 {G : kz_G} {d : Nat} {mc ms : Nat} {Qr : Option Value → kz_M → Prop} {Qx : String → kz_M → Prop} {a0 : Nat}  {M : kz_M} (h : ∃ fs1 v2, (M).1 a0 = some (.inl (16, fs1)) ∧ fs1[2]? = some (.int v2) ∧ ((∃ fs6, (M).1 a0 = some (.inl (16, fs6))) ∧ ∃ mc5 ms5, 0 + mc5 ≤ mc ∧ 0 + ms5 ≤ ms ∧ kz_C G (d + 3) mc5 ms5 mJx4a65c_grow_92f84 [.ref a0, .int (v2 + 1)] M (fun v M3 => ∃ r4 : Nat, v = some (.ref r4) ∧ (Qr (some (.ref r4)) M3)) Qx)) : kz_C G (d + 4) mc ms mJx4a65c_grow_d5877 [.ref a0] M Qr Qx := by
  refine kz_enter (n := 0) kmJx4a65c_grow_d5877.1 (Nat.le_of_ble_eq_true rfl) (ls := [(0, .ref a0)]) rfl ?_
  refine kz_aload_n (pc := 0) 0 (v := .ref a0) (i := 0) rfl rfl rfl dJx4a65c_grow_d5877_0 ?_
  refine kz_aload_n (pc := 1) 0 (v := .ref a0) (i := 0) rfl rfl rfl dJx4a65c_grow_d5877_1 ?_
  obtain ⟨fs1, v2, hM, hv, h⟩ := h
  refine kz_getf (pc := 2) (k := 2) kcJx4a65c hM hv (by decide) kw_470 dJx4a65c_grow_d5877_2 ?_
  refine kz_iconst (pc := 5) (v := 1) (by decide) dJx4a65c_grow_d5877_5 ?_
  refine kz_iadd (pc := 6) dJx4a65c_grow_d5877_6 ?_
  obtain ⟨⟨fs6, he⟩, h⟩ := h
  obtain ⟨mc5, ms5, hc5, hs5, h⟩ := h
  refine kz_callV (pc := 7) (μ' := mJx4a65c_grow_92f84) (ci := 16) (q := (RJx4a65c, TJx4a65c, 3)) (b := a0) (d' := d + 3) (mc' := mc5) (ms' := ms5) (As := [.int (v2 + 1)]) (st := []) (c := 0) (sl := 0) kmJx4a65c_grow_92f84 kw_1365 (by omega) rfl (Nat.le_of_ble_eq_true rfl) he rfl rfl hc5 hs5 dJx4a65c_grow_d5877_7 (fun E M9 hx => kz_Tout rfl hc5 hs5 hx) (kz_Cmono (fun v M3 h => ?_) (fun _ _ h => h) h)
  obtain ⟨r4, rfl, h⟩ := h
  show kz_Z G (d + 4) mc ms mJx4a65c_grow_d5877 Qr Qx 10 [(0, .ref a0)] [.ref r4] M3 (0 + mc5) (0 + ms5)
  exact kz_aret (pc := 10) (v := .ref r4) rfl rfl (Or.inr ⟨_, rfl⟩) hc5 hs5 dJx4a65c_grow_d5877_10 h
theorem dJx4a65c_add_72be8_0 : decode cJx4a65c_add_72be8 0 = .ok (.iload_n 3, 1) := by decide +kernel
theorem dJx4a65c_add_72be8_1 : decode cJx4a65c_add_72be8 1 = .ok (.aload_n 2, 1) := by decide +kernel
theorem dJx4a65c_add_72be8_2 : decode cJx4a65c_add_72be8 2 = .ok (.arraylength, 1) := by decide +kernel
theorem dJx4a65c_add_72be8_3 : decode cJx4a65c_add_72be8 3 = .ok (.if_icmp .ne 8, 3) := by decide +kernel
theorem dJx4a65c_add_72be8_6 : decode cJx4a65c_add_72be8 6 = .ok (.aload_n 0, 1) := by decide +kernel
theorem dJx4a65c_add_72be8_7 : decode cJx4a65c_add_72be8 7 = .ok (.invokevirtual 129, 3) := by decide +kernel
theorem dJx4a65c_add_72be8_10 : decode cJx4a65c_add_72be8 10 = .ok (.astore_n 2, 1) := by decide +kernel
theorem dJx4a65c_add_72be8_11 : decode cJx4a65c_add_72be8 11 = .ok (.aload_n 2, 1) := by decide +kernel
theorem dJx4a65c_add_72be8_12 : decode cJx4a65c_add_72be8 12 = .ok (.iload_n 3, 1) := by decide +kernel
theorem dJx4a65c_add_72be8_13 : decode cJx4a65c_add_72be8 13 = .ok (.aload_n 1, 1) := by decide +kernel
theorem dJx4a65c_add_72be8_14 : decode cJx4a65c_add_72be8 14 = .ok (.aastore, 1) := by decide +kernel
theorem dJx4a65c_add_72be8_15 : decode cJx4a65c_add_72be8 15 = .ok (.aload_n 0, 1) := by decide +kernel
theorem dJx4a65c_add_72be8_16 : decode cJx4a65c_add_72be8 16 = .ok (.iload_n 3, 1) := by decide +kernel
theorem dJx4a65c_add_72be8_17 : decode cJx4a65c_add_72be8 17 = .ok (.iconst 1, 1) := by decide +kernel
theorem dJx4a65c_add_72be8_18 : decode cJx4a65c_add_72be8 18 = .ok (.iadd, 1) := by decide +kernel
theorem dJx4a65c_add_72be8_19 : decode cJx4a65c_add_72be8 19 = .ok (.putfield 48, 3) := by decide +kernel
theorem dJx4a65c_add_72be8_22 : decode cJx4a65c_add_72be8 22 = .ok (.return_, 1) := by decide +kernel
theorem rJx4a65c_add_72be8_0 {G : kz_G} {d : Nat} {mc ms : Nat} {Qr : Option Value → kz_M → Prop} {Qx : String → kz_M → Prop} {a0 : Nat} {p1 : Nat} {p2 : Nat} {p3 : Int32}  {M : kz_M} (h : ∃ ty1 A2, (M).1 p2 = some (.inr (ty1, A2)) ∧ ((¬ p3 = (Int32.ofNat A2.1) → ∃ n3 f4 vs5 ci6 q7, (M).1 p2 = some (.inr (.object "java/lang/Object", n3, .inr (.inr (.inr (.inr f4))))) ∧ (M).1 p1 = some (.inl (ci6, vs5)) ∧ vwCl[ci6]? = some q7 ∧ Cond.castable q7.1 "java/lang/Object" ∈ lw_tbl ∧ vp_in p3 n3 ∧ ∀ M8, M8 = kz_up M p2 (.inr (.object "java/lang/Object", n3, .inr (.inr (.inr (.inr (va_up f4 (Int32.toNatClampNeg p3) (some p1))))))) → ∃ fs9, (M8).1 a0 = some (.inl (16, fs9)) ∧ 2 < fs9.length ∧ (Qr none (kz_up M8 a0 (.inl (16, fs9.set 2 (.int (p3 + 1))))))) ∧ (p3 = (Int32.ofNat A2.1) → (∃ fs20, (M).1 a0 = some (.inl (16, fs20))) ∧ ∃ mc12 ms12, 0 + mc12 ≤ mc ∧ 0 + ms12 ≤ ms ∧ kz_C G (d + 4) mc12 ms12 mJx4a65c_grow_d5877 [.ref a0] M (fun v M10 => ∃ r11 : Nat, v = some (.ref r11) ∧ (∃ n13 f14 vs15 ci16 q17, (M10).1 r11 = some (.inr (.object "java/lang/Object", n13, .inr (.inr (.inr (.inr f14))))) ∧ (M10).1 p1 = some (.inl (ci16, vs15)) ∧ vwCl[ci16]? = some q17 ∧ Cond.castable q17.1 "java/lang/Object" ∈ lw_tbl ∧ vp_in p3 n13 ∧ ∀ M18, M18 = kz_up M10 r11 (.inr (.object "java/lang/Object", n13, .inr (.inr (.inr (.inr (va_up f14 (Int32.toNatClampNeg p3) (some p1))))))) → ∃ fs19, (M18).1 a0 = some (.inl (16, fs19)) ∧ 2 < fs19.length ∧ (Qr none (kz_up M18 a0 (.inl (16, fs19.set 2 (.int (p3 + 1)))))))) Qx))) : kz_C G (d + 5) mc ms mJx4a65c_add_72be8 [.ref a0, .ref p1, .ref p2, .int p3] M Qr Qx := by
  refine kz_enter (n := 3) kmJx4a65c_add_72be8.1 (Nat.le_of_ble_eq_true rfl) (ls := [(0, .ref a0), (1, .ref p1), (2, .ref p2), (3, .int p3)]) rfl ?_
  refine kz_iload_n (pc := 0) 3 (i := 3) rfl rfl dJx4a65c_add_72be8_0 ?_
  refine kz_aload_n (pc := 1) 2 (v := .ref p2) (i := 2) rfl rfl rfl dJx4a65c_add_72be8_1 ?_
  obtain ⟨ty1, A2, hM, h⟩ := h
  refine kz_alen (pc := 2) hM rfl dJx4a65c_add_72be8_2 ?_
  refine kz_icmp_ne (pc := 3) (tgt := 11) (by decide) dJx4a65c_add_72be8_3 (fun hb => ?_) (fun hb => ?_)
  · replace h := h.1 hb
    refine kz_aload_n (pc := 11) 2 (v := .ref p2) (i := 2) rfl rfl rfl dJx4a65c_add_72be8_11 ?_
    refine kz_iload_n (pc := 12) 3 (i := 3) rfl rfl dJx4a65c_add_72be8_12 ?_
    refine kz_aload_n (pc := 13) 1 (v := .ref p1) (i := 1) rfl rfl rfl dJx4a65c_add_72be8_13 ?_
    obtain ⟨n3, f4, vs5, ci6, q7, hM, hx, hr, hca, hi, h⟩ := h
    refine kz_aastO (pc := 14) hr hca hM hx hi dJx4a65c_add_72be8_14 ?_
    refine kz_nameM (fun M8 e9 => ?_)
    replace h := h M8 e9
    refine kz_aload_n (pc := 15) 0 (v := .ref a0) (i := 0) rfl rfl rfl dJx4a65c_add_72be8_15 ?_
    refine kz_iload_n (pc := 16) 3 (i := 3) rfl rfl dJx4a65c_add_72be8_16 ?_
    refine kz_iconst (pc := 17) (v := 1) (by decide) dJx4a65c_add_72be8_17 ?_
    refine kz_iadd (pc := 18) dJx4a65c_add_72be8_18 ?_
    obtain ⟨fs9, hM, hlen, h⟩ := h
    refine kz_putf (pc := 19) (k := 2) kcJx4a65c hM (by decide) hlen kw_470 rfl rfl rfl dJx4a65c_add_72be8_19 ?_
    exact kz_vret (pc := 22) rfl (Nat.zero_le _) (Nat.zero_le _) dJx4a65c_add_72be8_22 h
  · replace h := h.2 hb
    refine kz_aload_n (pc := 6) 0 (v := .ref a0) (i := 0) rfl rfl rfl dJx4a65c_add_72be8_6 ?_
    obtain ⟨⟨fs20, he⟩, h⟩ := h
    obtain ⟨mc12, ms12, hc12, hs12, h⟩ := h
    refine kz_callV (pc := 7) (μ' := mJx4a65c_grow_d5877) (ci := 16) (q := (RJx4a65c, TJx4a65c, 3)) (b := a0) (d' := d + 4) (mc' := mc12) (ms' := ms12) (As := []) (st := []) (c := 0) (sl := 0) kmJx4a65c_grow_d5877 kw_1361 (by omega) rfl (Nat.le_of_ble_eq_true rfl) he rfl rfl hc12 hs12 dJx4a65c_add_72be8_7 (fun E M9 hx => kz_Tout rfl hc12 hs12 hx) (kz_Cmono (fun v M10 h => ?_) (fun _ _ h => h) h)
    obtain ⟨r11, rfl, h⟩ := h
    show kz_Z G (d + 5) mc ms mJx4a65c_add_72be8 Qr Qx 10 [(0, .ref a0), (1, .ref p1), (2, .ref p2), (3, .int p3)] [.ref r11] M10 (0 + mc12) (0 + ms12)
    refine kz_astore_n (pc := 10) (i := 2) (v := .ref r11) (ls' := [(0, .ref a0), (1, .ref p1), (3, .int p3)]) rfl rfl (by decide) rfl dJx4a65c_add_72be8_10 ?_
    refine kz_aload_n (pc := 11) 0 (v := .ref r11) (i := 2) rfl rfl rfl dJx4a65c_add_72be8_11 ?_
    refine kz_iload_n (pc := 12) 3 (i := 3) rfl rfl dJx4a65c_add_72be8_12 ?_
    refine kz_aload_n (pc := 13) 2 (v := .ref p1) (i := 1) rfl rfl rfl dJx4a65c_add_72be8_13 ?_
    obtain ⟨n13, f14, vs15, ci16, q17, hM, hx, hr, hca, hi, h⟩ := h
    refine kz_aastO (pc := 14) hr hca hM hx hi dJx4a65c_add_72be8_14 ?_
    refine kz_nameM (fun M18 e9 => ?_)
    replace h := h M18 e9
    refine kz_aload_n (pc := 15) 1 (v := .ref a0) (i := 0) rfl rfl rfl dJx4a65c_add_72be8_15 ?_
    refine kz_iload_n (pc := 16) 3 (i := 3) rfl rfl dJx4a65c_add_72be8_16 ?_
    refine kz_iconst (pc := 17) (v := 1) (by decide) dJx4a65c_add_72be8_17 ?_
    refine kz_iadd (pc := 18) dJx4a65c_add_72be8_18 ?_
    obtain ⟨fs19, hM, hlen, h⟩ := h
    refine kz_putf (pc := 19) (k := 2) kcJx4a65c hM (by decide) hlen kw_470 rfl rfl rfl dJx4a65c_add_72be8_19 ?_
    exact kz_vret (pc := 22) rfl hc12 hs12 dJx4a65c_add_72be8_22 h
theorem rJx4a65c_add_72be8E_0 {G : kz_G} {d : Nat} {mc ms : Nat} {Qr : Option Value → kz_M → Prop} {Qx : String → kz_M → Prop} {a0 : Nat} {p1 : Nat} {p3 : Int32}  {M : kz_M} (hG2 : kz_stat2 G) (h : (¬ p3 = (0 : Int32) → False) ∧ (p3 = (0 : Int32) → (∃ fs11, (M).1 a0 = some (.inl (16, fs11))) ∧ ∃ mc3 ms3, 0 + mc3 ≤ mc ∧ 0 + ms3 ≤ ms ∧ kz_C G (d + 4) mc3 ms3 mJx4a65c_grow_d5877 [.ref a0] M (fun v M1 => ∃ r2 : Nat, v = some (.ref r2) ∧ (∃ n4 f5 vs6 ci7 q8, (M1).1 r2 = some (.inr (.object "java/lang/Object", n4, .inr (.inr (.inr (.inr f5))))) ∧ (M1).1 p1 = some (.inl (ci7, vs6)) ∧ vwCl[ci7]? = some q8 ∧ Cond.castable q8.1 "java/lang/Object" ∈ lw_tbl ∧ vp_in p3 n4 ∧ ∀ M9, M9 = kz_up M1 r2 (.inr (.object "java/lang/Object", n4, .inr (.inr (.inr (.inr (va_up f5 (Int32.toNatClampNeg p3) (some p1))))))) → ∃ fs10, (M9).1 a0 = some (.inl (16, fs10)) ∧ 2 < fs10.length ∧ (Qr none (kz_up M9 a0 (.inl (16, fs10.set 2 (.int (p3 + 1)))))))) Qx)) : kz_C G (d + 5) mc ms mJx4a65c_add_72be8 [.ref a0, .ref p1, .retAddr 3002, .int p3] M Qr Qx := by
  refine kz_enter (n := 3) kmJx4a65c_add_72be8.1 (Nat.le_of_ble_eq_true rfl) (ls := [(0, .ref a0), (1, .ref p1), (2, .retAddr 3002), (3, .int p3)]) rfl ?_
  refine kz_iload_n (pc := 0) 3 (i := 3) rfl rfl dJx4a65c_add_72be8_0 ?_
  refine kz_aload_n (pc := 1) 2 (v := .retAddr 3002) (i := 2) rfl rfl rfl dJx4a65c_add_72be8_1 ?_
  refine kz_salen (pc := 2) (v := 0) hG2.2.1 (by decide) dJx4a65c_add_72be8_2 ?_
  refine kz_icmp_ne (pc := 3) (tgt := 11) (by decide) dJx4a65c_add_72be8_3 (fun hb => ?_) (fun hb => ?_)
  · replace h := h.1 hb
    exact h.elim
  · replace h := h.2 hb
    refine kz_aload_n (pc := 6) 0 (v := .ref a0) (i := 0) rfl rfl rfl dJx4a65c_add_72be8_6 ?_
    obtain ⟨⟨fs11, he⟩, h⟩ := h
    obtain ⟨mc3, ms3, hc3, hs3, h⟩ := h
    refine kz_callV (pc := 7) (μ' := mJx4a65c_grow_d5877) (ci := 16) (q := (RJx4a65c, TJx4a65c, 3)) (b := a0) (d' := d + 4) (mc' := mc3) (ms' := ms3) (As := []) (st := []) (c := 0) (sl := 0) kmJx4a65c_grow_d5877 kw_1361 (by omega) rfl (Nat.le_of_ble_eq_true rfl) he rfl rfl hc3 hs3 dJx4a65c_add_72be8_7 (fun E M9 hx => kz_Tout rfl hc3 hs3 hx) (kz_Cmono (fun v M1 h => ?_) (fun _ _ h => h) h)
    obtain ⟨r2, rfl, h⟩ := h
    show kz_Z G (d + 5) mc ms mJx4a65c_add_72be8 Qr Qx 10 [(0, .ref a0), (1, .ref p1), (2, .retAddr 3002), (3, .int p3)] [.ref r2] M1 (0 + mc3) (0 + ms3)
    refine kz_astore_n (pc := 10) (i := 2) (v := .ref r2) (ls' := [(0, .ref a0), (1, .ref p1), (3, .int p3)]) rfl rfl (by decide) rfl dJx4a65c_add_72be8_10 ?_
    refine kz_aload_n (pc := 11) 0 (v := .ref r2) (i := 2) rfl rfl rfl dJx4a65c_add_72be8_11 ?_
    refine kz_iload_n (pc := 12) 3 (i := 3) rfl rfl dJx4a65c_add_72be8_12 ?_
    refine kz_aload_n (pc := 13) 2 (v := .ref p1) (i := 1) rfl rfl rfl dJx4a65c_add_72be8_13 ?_
    obtain ⟨n4, f5, vs6, ci7, q8, hM, hx, hr, hca, hi, h⟩ := h
    refine kz_aastO (pc := 14) hr hca hM hx hi dJx4a65c_add_72be8_14 ?_
    refine kz_nameM (fun M9 e9 => ?_)
    replace h := h M9 e9
    refine kz_aload_n (pc := 15) 1 (v := .ref a0) (i := 0) rfl rfl rfl dJx4a65c_add_72be8_15 ?_
    refine kz_iload_n (pc := 16) 3 (i := 3) rfl rfl dJx4a65c_add_72be8_16 ?_
    refine kz_iconst (pc := 17) (v := 1) (by decide) dJx4a65c_add_72be8_17 ?_
    refine kz_iadd (pc := 18) dJx4a65c_add_72be8_18 ?_
    obtain ⟨fs10, hM, hlen, h⟩ := h
    refine kz_putf (pc := 19) (k := 2) kcJx4a65c hM (by decide) hlen kw_470 rfl rfl rfl dJx4a65c_add_72be8_19 ?_
    exact kz_vret (pc := 22) rfl hc3 hs3 dJx4a65c_add_72be8_22 h
theorem dJx4a65c_add_9ea2d_0 : decode cJx4a65c_add_9ea2d 0 = .ok (.aload_n 0, 1) := by decide +kernel
theorem dJx4a65c_add_9ea2d_1 : decode cJx4a65c_add_9ea2d 1 = .ok (.dup, 1) := by decide +kernel
theorem dJx4a65c_add_9ea2d_2 : decode cJx4a65c_add_9ea2d 2 = .ok (.getfield 63, 3) := by decide +kernel
theorem dJx4a65c_add_9ea2d_5 : decode cJx4a65c_add_9ea2d 5 = .ok (.iconst 1, 1) := by decide +kernel
theorem dJx4a65c_add_9ea2d_6 : decode cJx4a65c_add_9ea2d 6 = .ok (.iadd, 1) := by decide +kernel
theorem dJx4a65c_add_9ea2d_7 : decode cJx4a65c_add_9ea2d 7 = .ok (.putfield 63, 3) := by decide +kernel
theorem dJx4a65c_add_9ea2d_10 : decode cJx4a65c_add_9ea2d 10 = .ok (.aload_n 0, 1) := by decide +kernel
theorem dJx4a65c_add_9ea2d_11 : decode cJx4a65c_add_9ea2d 11 = .ok (.aload_n 1, 1) := by decide +kernel
theorem dJx4a65c_add_9ea2d_12 : decode cJx4a65c_add_9ea2d 12 = .ok (.aload_n 0, 1) := by decide +kernel
theorem dJx4a65c_add_9ea2d_13 : decode cJx4a65c_add_9ea2d 13 = .ok (.getfield 9, 3) := by decide +kernel
theorem dJx4a65c_add_9ea2d_16 : decode cJx4a65c_add_9ea2d 16 = .ok (.aload_n 0, 1) := by decide +kernel
theorem dJx4a65c_add_9ea2d_17 : decode cJx4a65c_add_9ea2d 17 = .ok (.getfield 48, 3) := by decide +kernel
theorem dJx4a65c_add_9ea2d_20 : decode cJx4a65c_add_9ea2d 20 = .ok (.invokevirtual 131, 3) := by decide +kernel
theorem dJx4a65c_add_9ea2d_23 : decode cJx4a65c_add_9ea2d 23 = .ok (.iconst 1, 1) := by decide +kernel
theorem dJx4a65c_add_9ea2d_24 : decode cJx4a65c_add_9ea2d 24 = .ok (.ireturn, 1) := by decide +kernel
theorem rJx4a65c_add_9ea2d_0 {G : kz_G} {d : Nat} {mc ms : Nat} {Qr : Option Value → kz_M → Prop} {Qx : String → kz_M → Prop} {a0 : Nat} {p1 : Nat}  {M : kz_M} (h : ∃ fs1 v2, (M).1 a0 = some (.inl (16, fs1)) ∧ fs1[0]? = some (.int v2) ∧ (∃ fs3, (M).1 a0 = some (.inl (16, fs3)) ∧ 0 < fs3.length ∧ (∃ fs4 v5, ((kz_up M a0 (.inl (16, fs3.set 0 (.int (v2 + 1)))))).1 a0 = some (.inl (16, fs4)) ∧ fs4[1]? = some (.ref v5) ∧ (∃ fs6 v7, ((kz_up M a0 (.inl (16, fs3.set 0 (.int (v2 + 1)))))).1 a0 = some (.inl (16, fs6)) ∧ fs6[2]? = some (.int v7) ∧ ((∃ fs11, ((kz_up M a0 (.inl (16, fs3.set 0 (.int (v2 + 1)))))).1 a0 = some (.inl (16, fs11))) ∧ ∃ mc10 ms10, 0 + mc10 ≤ mc ∧ 0 + ms10 ≤ ms ∧ kz_C G (d + 5) mc10 ms10 mJx4a65c_add_72be8 [.ref a0, .ref p1, .ref v5, .int v7] (kz_up M a0 (.inl (16, fs3.set 0 (.int (v2 + 1))))) (fun v M8 => v = none ∧ (Qr (some (.int 1)) M8)) Qx))))) : kz_C G (d + 6) mc ms mJx4a65c_add_9ea2d [.ref a0, .ref p1] M Qr Qx := by
  refine kz_enter (n := 1) kmJx4a65c_add_9ea2d (Nat.le_of_ble_eq_true rfl) (ls := [(0, .ref a0), (1, .ref p1)]) rfl ?_
  refine kz_aload_n (pc := 0) 0 (v := .ref a0) (i := 0) rfl rfl rfl dJx4a65c_add_9ea2d_0 ?_
  refine kz_dup (pc := 1) rfl dJx4a65c_add_9ea2d_1 ?_
  obtain ⟨fs1, v2, hM, hv, h⟩ := h
  refine kz_getfS (pc := 2) (k := 0) kcJx4a65c hM hv (by decide) kw_473 kw_474 dJx4a65c_add_9ea2d_2 ?_
  refine kz_iconst (pc := 5) (v := 1) (by decide) dJx4a65c_add_9ea2d_5 ?_
  refine kz_iadd (pc := 6) dJx4a65c_add_9ea2d_6 ?_
  obtain ⟨fs3, hM, hlen, h⟩ := h
  refine kz_putfS (pc := 7) (k := 0) kcJx4a65c hM (by decide) hlen kw_473 kw_474 rfl rfl rfl dJx4a65c_add_9ea2d_7 ?_
  refine kz_aload_n (pc := 10) 0 (v := .ref a0) (i := 0) rfl rfl rfl dJx4a65c_add_9ea2d_10 ?_
  refine kz_aload_n (pc := 11) 1 (v := .ref p1) (i := 1) rfl rfl rfl dJx4a65c_add_9ea2d_11 ?_
  refine kz_aload_n (pc := 12) 0 (v := .ref a0) (i := 0) rfl rfl rfl dJx4a65c_add_9ea2d_12 ?_
  obtain ⟨fs4, v5, hM, hv, h⟩ := h
  refine kz_getf (pc := 13) (k := 1) kcJx4a65c hM hv (by decide) kw_467 dJx4a65c_add_9ea2d_13 ?_
  refine kz_aload_n (pc := 16) 0 (v := .ref a0) (i := 0) rfl rfl rfl dJx4a65c_add_9ea2d_16 ?_
  obtain ⟨fs6, v7, hM, hv, h⟩ := h
  refine kz_getf (pc := 17) (k := 2) kcJx4a65c hM hv (by decide) kw_470 dJx4a65c_add_9ea2d_17 ?_
  obtain ⟨⟨fs11, he⟩, h⟩ := h
  obtain ⟨mc10, ms10, hc10, hs10, h⟩ := h
  refine kz_callV (pc := 20) (μ' := mJx4a65c_add_72be8) (ci := 16) (q := (RJx4a65c, TJx4a65c, 3)) (b := a0) (d' := d + 5) (mc' := mc10) (ms' := ms10) (As := [.ref p1, .ref v5, .int v7]) (st := []) (c := 0) (sl := 0) kmJx4a65c_add_72be8 kw_1357 (by omega) rfl (Nat.le_of_ble_eq_true rfl) he rfl rfl hc10 hs10 dJx4a65c_add_9ea2d_20 (fun E M9 hx => kz_Tout rfl hc10 hs10 hx) (kz_Cmono (fun v M8 h => ?_) (fun _ _ h => h) h)
  obtain ⟨rfl, h⟩ := h
  show kz_Z G (d + 6) mc ms mJx4a65c_add_9ea2d Qr Qx 23 [(0, .ref a0), (1, .ref p1)] [] M8 (0 + mc10) (0 + ms10)
  refine kz_iconst (pc := 23) (v := 1) (by decide) dJx4a65c_add_9ea2d_23 ?_
  exact kz_zret (pc := 24) (ty := .boolean) rfl (by decide) hc10 hs10 dJx4a65c_add_9ea2d_24 h
theorem rJx4a65c_add_9ea2dE_0 {G : kz_G} {d : Nat} {mc ms : Nat} {Qr : Option Value → kz_M → Prop} {Qx : String → kz_M → Prop} {a0 : Nat} {p1 : Nat}  {M : kz_M} (h : ∃ fs1 v2, (M).1 a0 = some (.inl (16, fs1)) ∧ fs1[0]? = some (.int v2) ∧ (∃ fs3, (M).1 a0 = some (.inl (16, fs3)) ∧ 0 < fs3.length ∧ (∃ fs4, ((kz_up M a0 (.inl (16, fs3.set 0 (.int (v2 + 1)))))).1 a0 = some (.inl (16, fs4)) ∧ fs4[1]? = some (.retAddr 3002) ∧ (∃ fs6 v7, ((kz_up M a0 (.inl (16, fs3.set 0 (.int (v2 + 1)))))).1 a0 = some (.inl (16, fs6)) ∧ fs6[2]? = some (.int v7) ∧ ((∃ fs11, ((kz_up M a0 (.inl (16, fs3.set 0 (.int (v2 + 1)))))).1 a0 = some (.inl (16, fs11))) ∧ ∃ mc10 ms10, 0 + mc10 ≤ mc ∧ 0 + ms10 ≤ ms ∧ kz_C G (d + 5) mc10 ms10 mJx4a65c_add_72be8 [.ref a0, .ref p1, .retAddr 3002, .int v7] (kz_up M a0 (.inl (16, fs3.set 0 (.int (v2 + 1))))) (fun v M8 => v = none ∧ (Qr (some (.int 1)) M8)) Qx))))) : kz_C G (d + 6) mc ms mJx4a65c_add_9ea2d [.ref a0, .ref p1] M Qr Qx := by
  refine kz_enter (n := 1) kmJx4a65c_add_9ea2d (Nat.le_of_ble_eq_true rfl) (ls := [(0, .ref a0), (1, .ref p1)]) rfl ?_
  refine kz_aload_n (pc := 0) 0 (v := .ref a0) (i := 0) rfl rfl rfl dJx4a65c_add_9ea2d_0 ?_
  refine kz_dup (pc := 1) rfl dJx4a65c_add_9ea2d_1 ?_
  obtain ⟨fs1, v2, hM, hv, h⟩ := h
  refine kz_getfS (pc := 2) (k := 0) kcJx4a65c hM hv (by decide) kw_473 kw_474 dJx4a65c_add_9ea2d_2 ?_
  refine kz_iconst (pc := 5) (v := 1) (by decide) dJx4a65c_add_9ea2d_5 ?_
  refine kz_iadd (pc := 6) dJx4a65c_add_9ea2d_6 ?_
  obtain ⟨fs3, hM, hlen, h⟩ := h
  refine kz_putfS (pc := 7) (k := 0) kcJx4a65c hM (by decide) hlen kw_473 kw_474 rfl rfl rfl dJx4a65c_add_9ea2d_7 ?_
  refine kz_aload_n (pc := 10) 0 (v := .ref a0) (i := 0) rfl rfl rfl dJx4a65c_add_9ea2d_10 ?_
  refine kz_aload_n (pc := 11) 1 (v := .ref p1) (i := 1) rfl rfl rfl dJx4a65c_add_9ea2d_11 ?_
  refine kz_aload_n (pc := 12) 0 (v := .ref a0) (i := 0) rfl rfl rfl dJx4a65c_add_9ea2d_12 ?_
  obtain ⟨fs4, hM, hv, h⟩ := h
  refine kz_getf (pc := 13) (k := 1) kcJx4a65c hM hv (by decide) kw_467 dJx4a65c_add_9ea2d_13 ?_
  refine kz_aload_n (pc := 16) 0 (v := .ref a0) (i := 0) rfl rfl rfl dJx4a65c_add_9ea2d_16 ?_
  obtain ⟨fs6, v7, hM, hv, h⟩ := h
  refine kz_getf (pc := 17) (k := 2) kcJx4a65c hM hv (by decide) kw_470 dJx4a65c_add_9ea2d_17 ?_
  obtain ⟨⟨fs11, he⟩, h⟩ := h
  obtain ⟨mc10, ms10, hc10, hs10, h⟩ := h
  refine kz_callV (pc := 20) (μ' := mJx4a65c_add_72be8) (ci := 16) (q := (RJx4a65c, TJx4a65c, 3)) (b := a0) (d' := d + 5) (mc' := mc10) (ms' := ms10) (As := [.ref p1, .retAddr 3002, .int v7]) (st := []) (c := 0) (sl := 0) kmJx4a65c_add_72be8 kw_1357 (by omega) rfl (Nat.le_of_ble_eq_true rfl) he rfl rfl hc10 hs10 dJx4a65c_add_9ea2d_20 (fun E M9 hx => kz_Tout rfl hc10 hs10 hx) (kz_Cmono (fun v M8 h => ?_) (fun _ _ h => h) h)
  obtain ⟨rfl, h⟩ := h
  show kz_Z G (d + 6) mc ms mJx4a65c_add_9ea2d Qr Qx 23 [(0, .ref a0), (1, .ref p1)] [] M8 (0 + mc10) (0 + ms10)
  refine kz_iconst (pc := 23) (v := 1) (by decide) dJx4a65c_add_9ea2d_23 ?_
  exact kz_zret (pc := 24) (ty := .boolean) rfl (by decide) hc10 hs10 dJx4a65c_add_9ea2d_24 h
theorem dJx35411_init_45d68_0 : decode cJx35411_init_45d68 0 = .ok (.aload_n 0, 1) := by decide +kernel
theorem dJx35411_init_45d68_1 : decode cJx35411_init_45d68 1 = .ok (.aload_n 1, 1) := by decide +kernel
theorem dJx35411_init_45d68_2 : decode cJx35411_init_45d68 2 = .ok (.putfield 1, 3) := by decide +kernel
theorem dJx35411_init_45d68_5 : decode cJx35411_init_45d68 5 = .ok (.aload_n 0, 1) := by decide +kernel
theorem dJx35411_init_45d68_6 : decode cJx35411_init_45d68 6 = .ok (.invokespecial 7, 3) := by decide +kernel
theorem dJx35411_init_45d68_9 : decode cJx35411_init_45d68 9 = .ok (.aload_n 0, 1) := by decide +kernel
theorem dJx35411_init_45d68_10 : decode cJx35411_init_45d68 10 = .ok (.iconst (-1), 1) := by decide +kernel
theorem dJx35411_init_45d68_11 : decode cJx35411_init_45d68 11 = .ok (.putfield 13, 3) := by decide +kernel
theorem dJx35411_init_45d68_14 : decode cJx35411_init_45d68 14 = .ok (.aload_n 0, 1) := by decide +kernel
theorem dJx35411_init_45d68_15 : decode cJx35411_init_45d68 15 = .ok (.aload_n 0, 1) := by decide +kernel
theorem dJx35411_init_45d68_16 : decode cJx35411_init_45d68 16 = .ok (.getfield 1, 3) := by decide +kernel
theorem dJx35411_init_45d68_19 : decode cJx35411_init_45d68 19 = .ok (.getfield 17, 3) := by decide +kernel
theorem dJx35411_init_45d68_22 : decode cJx35411_init_45d68 22 = .ok (.putfield 22, 3) := by decide +kernel
theorem dJx35411_init_45d68_25 : decode cJx35411_init_45d68 25 = .ok (.return_, 1) := by decide +kernel
theorem rJx35411_init_45d68_0 {G : kz_G} {d : Nat} {Qr : Option Value → kz_M → Prop} {Qx : String → kz_M → Prop} {a0 : Nat} {p1 : Nat}  {M : kz_M} (h : ∃ fs1, (M).1 a0 = some (.inl (17, fs1)) ∧ 3 < fs1.length ∧ (∃ fs2, ((kz_up M a0 (.inl (17, fs1.set 3 (.ref p1))))).1 a0 = some (.inl (17, fs2)) ∧ 1 < fs2.length ∧ (∃ fs3 v4, ((kz_up (kz_up M a0 (.inl (17, fs1.set 3 (.ref p1)))) a0 (.inl (17, fs2.set 1 (.int ((-1))))))).1 a0 = some (.inl (17, fs3)) ∧ fs3[3]? = some (.ref v4) ∧ (∃ fs5 v6, ((kz_up (kz_up M a0 (.inl (17, fs1.set 3 (.ref p1)))) a0 (.inl (17, fs2.set 1 (.int ((-1))))))).1 v4 = some (.inl (16, fs5)) ∧ fs5[0]? = some (.int v6) ∧ (∃ fs7, ((kz_up (kz_up M a0 (.inl (17, fs1.set 3 (.ref p1)))) a0 (.inl (17, fs2.set 1 (.int ((-1))))))).1 a0 = some (.inl (17, fs7)) ∧ 2 < fs7.length ∧ (Qr none (kz_up (kz_up (kz_up M a0 (.inl (17, fs1.set 3 (.ref p1)))) a0 (.inl (17, fs2.set 1 (.int ((-1)))))) a0 (.inl (17, fs7.set 2 (.int v6)))))))))) : kz_C G (d + 1) 0 0 mJx35411_init_45d68 [.ref a0, .ref p1] M Qr Qx := by
  refine kz_enter (n := 1) kmJx35411_init_45d68.1 (Nat.le_of_ble_eq_true rfl) (ls := [(0, .ref a0), (1, .ref p1)]) rfl ?_
  refine kz_aload_n (pc := 0) 0 (v := .ref a0) (i := 0) rfl rfl rfl dJx35411_init_45d68_0 ?_
  refine kz_aload_n (pc := 1) 1 (v := .ref p1) (i := 1) rfl rfl rfl dJx35411_init_45d68_1 ?_
  obtain ⟨fs1, hM, hlen, h⟩ := h
  refine kz_putF (pc := 2) (k := 3) kcJx35411 hM (by decide) hlen rfl rfl kw_1315 rfl rfl rfl dJx35411_init_45d68_2 ?_
  refine kz_aload_n (pc := 5) 0 (v := .ref a0) (i := 0) rfl rfl rfl dJx35411_init_45d68_5 ?_
  refine kz_objInit (pc := 6) kw_1311 kw_43 kw_44 (by omega) (Nat.le_of_ble_eq_true rfl) dJx35411_init_45d68_6 ?_
  refine kz_aload_n (pc := 9) 0 (v := .ref a0) (i := 0) rfl rfl rfl dJx35411_init_45d68_9 ?_
  refine kz_iconst (pc := 10) (v := (-1)) (by decide) dJx35411_init_45d68_10 ?_
  obtain ⟨fs2, hM, hlen, h⟩ := h
  refine kz_putf (pc := 11) (k := 1) kcJx35411 hM (by decide) hlen kw_1313 rfl rfl rfl dJx35411_init_45d68_11 ?_
  refine kz_aload_n (pc := 14) 0 (v := .ref a0) (i := 0) rfl rfl rfl dJx35411_init_45d68_14 ?_
  refine kz_aload_n (pc := 15) 0 (v := .ref a0) (i := 0) rfl rfl rfl dJx35411_init_45d68_15 ?_
  obtain ⟨fs3, v4, hM, hv, h⟩ := h
  refine kz_getf (pc := 16) (k := 3) kcJx35411 hM hv (by decide) kw_1315 dJx35411_init_45d68_16 ?_
  obtain ⟨fs5, v6, hM, hv, h⟩ := h
  refine kz_getfS (pc := 19) (k := 0) kcJx4a65c hM hv (by decide) kw_473 kw_472 dJx35411_init_45d68_19 ?_
  obtain ⟨fs7, hM, hlen, h⟩ := h
  refine kz_putf (pc := 22) (k := 2) kcJx35411 hM (by decide) hlen kw_1314 rfl rfl rfl dJx35411_init_45d68_22 ?_
  exact kz_vret (pc := 25) rfl (Nat.le_refl _) (Nat.le_refl _) dJx35411_init_45d68_25 h
theorem dJx4a65c_iterator_32c93_0 : decode cJx4a65c_iterator_32c93 0 = .ok (.new 267, 3) := by decide +kernel
theorem dJx4a65c_iterator_32c93_3 : decode cJx4a65c_iterator_32c93 3 = .ok (.dup, 1) := by decide +kernel
theorem dJx4a65c_iterator_32c93_4 : decode cJx4a65c_iterator_32c93 4 = .ok (.aload_n 0, 1) := by decide +kernel
theorem dJx4a65c_iterator_32c93_5 : decode cJx4a65c_iterator_32c93 5 = .ok (.invokespecial 269, 3) := by decide +kernel
theorem dJx4a65c_iterator_32c93_8 : decode cJx4a65c_iterator_32c93 8 = .ok (.areturn, 1) := by decide +kernel
theorem rJx4a65c_iterator_32c93_0 {G : kz_G} {d : Nat} {mc ms : Nat} {Qr : Option Value → kz_M → Prop} {Qx : String → kz_M → Prop} {a0 : Nat}  {M : kz_M} (h : 0 + 1 ≤ mc ∧ 0 + 4 ≤ ms ∧ (kz_C G (d + 1) 0 0 mJx35411_init_45d68 [.ref ((M).2), .ref a0] (kz_nw M (.inl (17, [.int 0, .int 0, .int 0, .null]))) (fun v M2 => v = none ∧ (Qr (some (.ref ((M).2))) M2)) Qx)) : kz_C G (d + 2) mc ms mJx4a65c_iterator_32c93 [.ref a0] M Qr Qx := by
  refine kz_enter (n := 0) kmJx4a65c_iterator_32c93 (Nat.le_of_ble_eq_true rfl) (ls := [(0, .ref a0)]) rfl ?_
  obtain ⟨hc1, hs1, h⟩ := h
  refine kz_newc (pc := 0) kcJx35411 rfl kw_1306 kw_1307 kw_35 hc1 hs1 dJx4a65c_iterator_32c93_0 ?_
  refine kz_dup (pc := 3) rfl dJx4a65c_iterator_32c93_3 ?_
  refine kz_aload_n (pc := 4) 0 (v := .ref a0) (i := 0) rfl rfl rfl dJx4a65c_iterator_32c93_4 ?_
  refine kz_callI (pc := 5) (μ' := mJx35411_init_45d68) (b := (M).2) (d' := d + 1) (mc' := 0) (ms' := 0) (As := [.ref a0]) (st := [.ref ((M).2)]) (c := 0 + 1) (sl := 0 + 4) kmJx35411_init_45d68 kw_1308 (by omega) rfl (Nat.le_of_ble_eq_true rfl) hc1 hs1 dJx4a65c_iterator_32c93_5 (fun E M9 hx => kz_Tout rfl hc1 hs1 hx) (kz_Cmono (fun v M2 h => ?_) (fun _ _ h => h) h)
  obtain ⟨rfl, h⟩ := h
  show kz_Z G (d + 2) mc ms mJx4a65c_iterator_32c93 Qr Qx 8 [(0, .ref a0)] [.ref ((M).2)] M2 (0 + 1) (0 + 4)
  exact kz_aret (pc := 8) (v := .ref ((M).2)) rfl rfl (Or.inl ⟨_, rfl⟩) hc1 hs1 dJx4a65c_iterator_32c93_8 h
theorem dJx35411_hasNext_aae02_0 : decode cJx35411_hasNext_aae02 0 = .ok (.aload_n 0, 1) := by decide +kernel
theorem dJx35411_hasNext_aae02_1 : decode cJx35411_hasNext_aae02 1 = .ok (.getfield 25, 3) := by decide +kernel
theorem dJx35411_hasNext_aae02_4 : decode cJx35411_hasNext_aae02 4 = .ok (.aload_n 0, 1) := by decide +kernel
theorem dJx35411_hasNext_aae02_5 : decode cJx35411_hasNext_aae02 5 = .ok (.getfield 1, 3) := by decide +kernel
theorem dJx35411_hasNext_aae02_8 : decode cJx35411_hasNext_aae02 8 = .ok (.getfield 28, 3) := by decide +kernel
theorem dJx35411_hasNext_aae02_11 : decode cJx35411_hasNext_aae02 11 = .ok (.if_icmp .eq 7, 3) := by decide +kernel
theorem dJx35411_hasNext_aae02_14 : decode cJx35411_hasNext_aae02 14 = .ok (.iconst 1, 1) := by decide +kernel
theorem dJx35411_hasNext_aae02_15 : decode cJx35411_hasNext_aae02 15 = .ok (.goto 4, 3) := by decide +kernel
theorem dJx35411_hasNext_aae02_18 : decode cJx35411_hasNext_aae02 18 = .ok (.iconst 0, 1) := by decide +kernel
theorem dJx35411_hasNext_aae02_19 : decode cJx35411_hasNext_aae02 19 = .ok (.ireturn, 1) := by decide +kernel
theorem rJx35411_hasNext_aae02_0 {G : kz_G} {d : Nat} {Qr : Option Value → kz_M → Prop} {Qx : String → kz_M → Prop} {a0 : Nat}  {M : kz_M} (h : ∃ fs1 v2, (M).1 a0 = some (.inl (17, fs1)) ∧ fs1[0]? = some (.int v2) ∧ (∃ fs3 v4, (M).1 a0 = some (.inl (17, fs3)) ∧ fs3[3]? = some (.ref v4) ∧ (∃ fs5 v6, (M).1 v4 = some (.inl (16, fs5)) ∧ fs5[2]? = some (.int v6) ∧ ((v2 = v6 → Qr (some (.int 0)) M) ∧ (¬ v2 = v6 → Qr (some (.int 1)) M))))) : kz_C G d 0 0 mJx35411_hasNext_aae02 [.ref a0] M Qr Qx := by
  refine kz_enter (n := 0) kmJx35411_hasNext_aae02 (Nat.le_of_ble_eq_true rfl) (ls := [(0, .ref a0)]) rfl ?_
  refine kz_aload_n (pc := 0) 0 (v := .ref a0) (i := 0) rfl rfl rfl dJx35411_hasNext_aae02_0 ?_
  obtain ⟨fs1, v2, hM, hv, h⟩ := h
  refine kz_getf (pc := 1) (k := 0) kcJx35411 hM hv (by decide) kw_1312 dJx35411_hasNext_aae02_1 ?_
  refine kz_aload_n (pc := 4) 0 (v := .ref a0) (i := 0) rfl rfl rfl dJx35411_hasNext_aae02_4 ?_
  obtain ⟨fs3, v4, hM, hv, h⟩ := h
  refine kz_getf (pc := 5) (k := 3) kcJx35411 hM hv (by decide) kw_1315 dJx35411_hasNext_aae02_5 ?_
  obtain ⟨fs5, v6, hM, hv, h⟩ := h
  refine kz_getfN (pc := 8) (k := 2) kcJx4a65c hM hv (by decide) kw_469 dJx35411_hasNext_aae02_8 ?_
  refine kz_icmp_eq (pc := 11) (tgt := 18) (by decide) dJx35411_hasNext_aae02_11 (fun hb => ?_) (fun hb => ?_)
  · replace h := h.1 hb
    refine kz_iconst (pc := 18) (v := 0) (by decide) dJx35411_hasNext_aae02_18 ?_
    exact kz_zret (pc := 19) (ty := .boolean) rfl (by decide) (Nat.le_refl _) (Nat.le_refl _) dJx35411_hasNext_aae02_19 h
  · replace h := h.2 hb
    refine kz_iconst (pc := 14) (v := 1) (by decide) dJx35411_hasNext_aae02_14 ?_
    refine kz_goto (pc := 15) (tgt := 19) (by decide) dJx35411_hasNext_aae02_15 ?_
    exact kz_zret (pc := 19) (ty := .boolean) rfl (by decide) (Nat.le_refl _) (Nat.le_refl _) dJx35411_hasNext_aae02_19 h
theorem dJx35411_checkForComodification_da8c8_0 : decode cJx35411_checkForComodification_da8c8 0 = .ok (.aload_n 0, 1) := by decide +kernel
theorem dJx35411_checkForComodification_da8c8_1 : decode cJx35411_checkForComodification_da8c8 1 = .ok (.getfield 1, 3) := by decide +kernel
theorem dJx35411_checkForComodification_da8c8_4 : decode cJx35411_checkForComodification_da8c8 4 = .ok (.getfield 17, 3) := by decide +kernel
theorem dJx35411_checkForComodification_da8c8_7 : decode cJx35411_checkForComodification_da8c8 7 = .ok (.aload_n 0, 1) := by decide +kernel
theorem dJx35411_checkForComodification_da8c8_8 : decode cJx35411_checkForComodification_da8c8 8 = .ok (.getfield 22, 3) := by decide +kernel
theorem dJx35411_checkForComodification_da8c8_11 : decode cJx35411_checkForComodification_da8c8 11 = .ok (.if_icmp .eq 11, 3) := by decide +kernel
theorem dJx35411_checkForComodification_da8c8_14 : decode cJx35411_checkForComodification_da8c8 14 = .ok (.new 41, 3) := by decide +kernel
theorem dJx35411_checkForComodification_da8c8_17 : decode cJx35411_checkForComodification_da8c8 17 = .ok (.dup, 1) := by decide +kernel
theorem dJx35411_checkForComodification_da8c8_18 : decode cJx35411_checkForComodification_da8c8 18 = .ok (.invokespecial 43, 3) := by decide +kernel
theorem dJx35411_checkForComodification_da8c8_21 : decode cJx35411_checkForComodification_da8c8 21 = .ok (.athrow, 1) := by decide +kernel
theorem dJx35411_checkForComodification_da8c8_22 : decode cJx35411_checkForComodification_da8c8 22 = .ok (.return_, 1) := by decide +kernel
theorem rJx35411_checkForComodification_da8c8_0 {G : kz_G} {d : Nat} {Qr : Option Value → kz_M → Prop} {Qx : String → kz_M → Prop} {a0 : Nat}  {M : kz_M} (h : ∃ fs1 v2, (M).1 a0 = some (.inl (17, fs1)) ∧ fs1[3]? = some (.ref v2) ∧ (∃ fs3 v4, (M).1 v2 = some (.inl (16, fs3)) ∧ fs3[0]? = some (.int v4) ∧ (∃ fs5 v6, (M).1 a0 = some (.inl (17, fs5)) ∧ fs5[2]? = some (.int v6) ∧ ((v4 = v6 → Qr none M) ∧ (¬ v4 = v6 → False))))) : kz_C G d 0 0 mJx35411_checkForComodification_da8c8 [.ref a0] M Qr Qx := by
  refine kz_enter (n := 0) kmJx35411_checkForComodification_da8c8.1 (Nat.le_of_ble_eq_true rfl) (ls := [(0, .ref a0)]) rfl ?_
  refine kz_aload_n (pc := 0) 0 (v := .ref a0) (i := 0) rfl rfl rfl dJx35411_checkForComodification_da8c8_0 ?_
  obtain ⟨fs1, v2, hM, hv, h⟩ := h
  refine kz_getf (pc := 1) (k := 3) kcJx35411 hM hv (by decide) kw_1315 dJx35411_checkForComodification_da8c8_1 ?_
  obtain ⟨fs3, v4, hM, hv, h⟩ := h
  refine kz_getfS (pc := 4) (k := 0) kcJx4a65c hM hv (by decide) kw_473 kw_472 dJx35411_checkForComodification_da8c8_4 ?_
  refine kz_aload_n (pc := 7) 0 (v := .ref a0) (i := 0) rfl rfl rfl dJx35411_checkForComodification_da8c8_7 ?_
  obtain ⟨fs5, v6, hM, hv, h⟩ := h
  refine kz_getf (pc := 8) (k := 2) kcJx35411 hM hv (by decide) kw_1314 dJx35411_checkForComodification_da8c8_8 ?_
  refine kz_icmp_eq (pc := 11) (tgt := 22) (by decide) dJx35411_checkForComodification_da8c8_11 (fun hb => ?_) (fun hb => ?_)
  · replace h := h.1 hb
    exact kz_vret (pc := 22) rfl (Nat.le_refl _) (Nat.le_refl _) dJx35411_checkForComodification_da8c8_22 h
  · replace h := h.2 hb
    exact h.elim
theorem dJx35411_next_0502b_0 : decode cJx35411_next_0502b 0 = .ok (.aload_n 0, 1) := by decide +kernel
theorem dJx35411_next_0502b_1 : decode cJx35411_next_0502b 1 = .ok (.invokevirtual 31, 3) := by decide +kernel
theorem dJx35411_next_0502b_4 : decode cJx35411_next_0502b 4 = .ok (.aload_n 0, 1) := by decide +kernel
theorem dJx35411_next_0502b_5 : decode cJx35411_next_0502b 5 = .ok (.getfield 25, 3) := by decide +kernel
theorem dJx35411_next_0502b_8 : decode cJx35411_next_0502b 8 = .ok (.istore_n 1, 1) := by decide +kernel
theorem dJx35411_next_0502b_9 : decode cJx35411_next_0502b 9 = .ok (.iload_n 1, 1) := by decide +kernel
theorem dJx35411_next_0502b_10 : decode cJx35411_next_0502b 10 = .ok (.aload_n 0, 1) := by decide +kernel
theorem dJx35411_next_0502b_11 : decode cJx35411_next_0502b 11 = .ok (.getfield 1, 3) := by decide +kernel
theorem dJx35411_next_0502b_14 : decode cJx35411_next_0502b 14 = .ok (.getfield 28, 3) := by decide +kernel
theorem dJx35411_next_0502b_17 : decode cJx35411_next_0502b 17 = .ok (.if_icmp .lt 11, 3) := by decide +kernel
theorem dJx35411_next_0502b_20 : decode cJx35411_next_0502b 20 = .ok (.new 34, 3) := by decide +kernel
theorem dJx35411_next_0502b_23 : decode cJx35411_next_0502b 23 = .ok (.dup, 1) := by decide +kernel
theorem dJx35411_next_0502b_24 : decode cJx35411_next_0502b 24 = .ok (.invokespecial 36, 3) := by decide +kernel
theorem dJx35411_next_0502b_27 : decode cJx35411_next_0502b 27 = .ok (.athrow, 1) := by decide +kernel
theorem dJx35411_next_0502b_28 : decode cJx35411_next_0502b 28 = .ok (.aload_n 0, 1) := by decide +kernel
theorem dJx35411_next_0502b_29 : decode cJx35411_next_0502b 29 = .ok (.getfield 1, 3) := by decide +kernel
theorem dJx35411_next_0502b_32 : decode cJx35411_next_0502b 32 = .ok (.getfield 37, 3) := by decide +kernel
theorem dJx35411_next_0502b_35 : decode cJx35411_next_0502b 35 = .ok (.astore_n 2, 1) := by decide +kernel
theorem dJx35411_next_0502b_36 : decode cJx35411_next_0502b 36 = .ok (.iload_n 1, 1) := by decide +kernel
theorem dJx35411_next_0502b_37 : decode cJx35411_next_0502b 37 = .ok (.aload_n 2, 1) := by decide +kernel
theorem dJx35411_next_0502b_38 : decode cJx35411_next_0502b 38 = .ok (.arraylength, 1) := by decide +kernel
theorem dJx35411_next_0502b_39 : decode cJx35411_next_0502b 39 = .ok (.if_icmp .lt 11, 3) := by decide +kernel
theorem dJx35411_next_0502b_42 : decode cJx35411_next_0502b 42 = .ok (.new 41, 3) := by decide +kernel
theorem dJx35411_next_0502b_45 : decode cJx35411_next_0502b 45 = .ok (.dup, 1) := by decide +kernel
theorem dJx35411_next_0502b_46 : decode cJx35411_next_0502b 46 = .ok (.invokespecial 43, 3) := by decide +kernel
theorem dJx35411_next_0502b_49 : decode cJx35411_next_0502b 49 = .ok (.athrow, 1) := by decide +kernel
theorem dJx35411_next_0502b_50 : decode cJx35411_next_0502b 50 = .ok (.aload_n 0, 1) := by decide +kernel
theorem dJx35411_next_0502b_51 : decode cJx35411_next_0502b 51 = .ok (.iload_n 1, 1) := by decide +kernel
theorem dJx35411_next_0502b_52 : decode cJx35411_next_0502b 52 = .ok (.iconst 1, 1) := by decide +kernel
theorem dJx35411_next_0502b_53 : decode cJx35411_next_0502b 53 = .ok (.iadd, 1) := by decide +kernel
theorem dJx35411_next_0502b_54 : decode cJx35411_next_0502b 54 = .ok (.putfield 25, 3) := by decide +kernel
theorem dJx35411_next_0502b_57 : decode cJx35411_next_0502b 57 = .ok (.aload_n 2, 1) := by decide +kernel
theorem dJx35411_next_0502b_58 : decode cJx35411_next_0502b 58 = .ok (.aload_n 0, 1) := by decide +kernel
theorem dJx35411_next_0502b_59 : decode cJx35411_next_0502b 59 = .ok (.iload_n 1, 1) := by decide +kernel
theorem dJx35411_next_0502b_60 : decode cJx35411_next_0502b 60 = .ok (.dup_x1, 1) := by decide +kernel
theorem dJx35411_next_0502b_61 : decode cJx35411_next_0502b 61 = .ok (.putfield 13, 3) := by decide +kernel
theorem dJx35411_next_0502b_64 : decode cJx35411_next_0502b 64 = .ok (.aaload, 1) := by decide +kernel
theorem dJx35411_next_0502b_65 : decode cJx35411_next_0502b 65 = .ok (.areturn, 1) := by decide +kernel
theorem rJx35411_next_0502b_0 {G : kz_G} {d : Nat} {Qr : Option Value → kz_M → Prop} {Qx : String → kz_M → Prop} {a0 : Nat}  {M : kz_M} (h : (∃ fs21, (M).1 a0 = some (.inl (17, fs21))) ∧ kz_C G (d + 0) 0 0 mJx35411_checkForComodification_da8c8 [.ref a0] M (fun v M1 => v = none ∧ (∃ fs4 v5, (M1).1 a0 = some (.inl (17, fs4)) ∧ fs4[0]? = some (.int v5) ∧ (∃ fs6 v7, (M1).1 a0 = some (.inl (17, fs6)) ∧ fs6[3]? = some (.ref v7) ∧ (∃ fs8 v9, (M1).1 v7 = some (.inl (16, fs8)) ∧ fs8[2]? = some (.int v9) ∧ ((v5 < v9 → ∃ fs10 v11, (M1).1 a0 = some (.inl (17, fs10)) ∧ fs10[3]? = some (.ref v11) ∧ (∃ fs12 v13, (M1).1 v11 = some (.inl (16, fs12)) ∧ fs12[1]? = some (.ref v13) ∧ (∃ ty14 A15, (M1).1 v13 = some (.inr (ty14, A15)) ∧ ((v5 < (Int32.ofNat A15.1) → ∃ fs16, (M1).1 a0 = some (.inl (17, fs16)) ∧ 0 < fs16.length ∧ (∃ fs17, ((kz_up M1 a0 (.inl (17, fs16.set 0 (.int (v5 + 1)))))).1 a0 = some (.inl (17, fs17)) ∧ 1 < fs17.length ∧ (∃ n18 f19 o20, ((kz_up (kz_up M1 a0 (.inl (17, fs16.set 0 (.int (v5 + 1))))) a0 (.inl (17, fs17.set 1 (.int v5))))).1 v13 = some (.inr (.object "java/lang/Object", n18, .inr (.inr (.inr (.inr f19))))) ∧ vp_in v5 n18 ∧ f19 (Int32.toNatClampNeg v5) = some o20 ∧ (Qr (some (.ref o20)) (kz_up (kz_up M1 a0 (.inl (17, fs16.set 0 (.int (v5 + 1))))) a0 (.inl (17, fs17.set 1 (.int v5)))))))) ∧ (¬ v5 < (Int32.ofNat A15.1) → False))))) ∧ (¬ v5 < v9 → False)))))) Qx) : kz_C G (d + 1) 0 0 mJx35411_next_0502b [.ref a0] M Qr Qx := by
  refine kz_enter (n := 0) kmJx35411_next_0502b (Nat.le_of_ble_eq_true rfl) (ls := [(0, .ref a0)]) rfl ?_
  refine kz_aload_n (pc := 0) 0 (v := .ref a0) (i := 0) rfl rfl rfl dJx35411_next_0502b_0 ?_
  obtain ⟨⟨fs21, he⟩, h⟩ := h
  refine kz_callV (pc := 1) (μ' := mJx35411_checkForComodification_da8c8) (ci := 17) (q := (RJx35411, TJx35411, 4)) (b := a0) (d' := d + 0) (mc' := 0) (ms' := 0) (As := []) (st := []) (c := 0) (sl := 0) kmJx35411_checkForComodification_da8c8 kw_1344 (by omega) rfl (Nat.le_of_ble_eq_true rfl) he rfl rfl (Nat.le_refl _) (Nat.le_refl _) dJx35411_next_0502b_1 (fun E M9 hx => kz_Tout rfl (Nat.le_refl _) (Nat.le_refl _) hx) (kz_Cmono (fun v M1 h => ?_) (fun _ _ h => h) h)
  obtain ⟨rfl, h⟩ := h
  show kz_Z G (d + 1) 0 0 mJx35411_next_0502b Qr Qx 4 [(0, .ref a0)] [] M1 0 0
  refine kz_aload_n (pc := 4) 0 (v := .ref a0) (i := 0) rfl rfl rfl dJx35411_next_0502b_4 ?_
  obtain ⟨fs4, v5, hM, hv, h⟩ := h
  refine kz_getf (pc := 5) (k := 0) kcJx35411 hM hv (by decide) kw_1312 dJx35411_next_0502b_5 ?_
  refine kz_istore_n (pc := 8) (i := 1) (ls' := [(0, .ref a0)]) rfl (by decide) rfl dJx35411_next_0502b_8 ?_
  refine kz_iload_n (pc := 9) 0 (i := 1) rfl rfl dJx35411_next_0502b_9 ?_
  refine kz_aload_n (pc := 10) 1 (v := .ref a0) (i := 0) rfl rfl rfl dJx35411_next_0502b_10 ?_
  obtain ⟨fs6, v7, hM, hv, h⟩ := h
  refine kz_getf (pc := 11) (k := 3) kcJx35411 hM hv (by decide) kw_1315 dJx35411_next_0502b_11 ?_
  obtain ⟨fs8, v9, hM, hv, h⟩ := h
  refine kz_getfN (pc := 14) (k := 2) kcJx4a65c hM hv (by decide) kw_469 dJx35411_next_0502b_14 ?_
  refine kz_icmp_lt (pc := 17) (tgt := 28) (by decide) dJx35411_next_0502b_17 (fun hb => ?_) (fun hb => ?_)
  · replace h := h.1 hb
    refine kz_aload_n (pc := 28) 1 (v := .ref a0) (i := 0) rfl rfl rfl dJx35411_next_0502b_28 ?_
    obtain ⟨fs10, v11, hM, hv, h⟩ := h
    refine kz_getf (pc := 29) (k := 3) kcJx35411 hM hv (by decide) kw_1315 dJx35411_next_0502b_29 ?_
    obtain ⟨fs12, v13, hM, hv, h⟩ := h
    refine kz_getf (pc := 32) (k := 1) kcJx4a65c hM hv (by decide) kw_468 dJx35411_next_0502b_32 ?_
    refine kz_astore_n (pc := 35) (i := 2) (v := .ref v13) (ls' := [(1, .int v5), (0, .ref a0)]) rfl rfl (by decide) rfl dJx35411_next_0502b_35 ?_
    refine kz_iload_n (pc := 36) 1 (i := 1) rfl rfl dJx35411_next_0502b_36 ?_
    refine kz_aload_n (pc := 37) 0 (v := .ref v13) (i := 2) rfl rfl rfl dJx35411_next_0502b_37 ?_
    obtain ⟨ty14, A15, hM, h⟩ := h
    refine kz_alen (pc := 38) hM rfl dJx35411_next_0502b_38 ?_
    refine kz_icmp_lt (pc := 39) (tgt := 50) (by decide) dJx35411_next_0502b_39 (fun hb => ?_) (fun hb => ?_)
    · replace h := h.1 hb
      refine kz_aload_n (pc := 50) 2 (v := .ref a0) (i := 0) rfl rfl rfl dJx35411_next_0502b_50 ?_
      refine kz_iload_n (pc := 51) 1 (i := 1) rfl rfl dJx35411_next_0502b_51 ?_
      refine kz_iconst (pc := 52) (v := 1) (by decide) dJx35411_next_0502b_52 ?_
      refine kz_iadd (pc := 53) dJx35411_next_0502b_53 ?_
      obtain ⟨fs16, hM, hlen, h⟩ := h
      refine kz_putf (pc := 54) (k := 0) kcJx35411 hM (by decide) hlen kw_1312 rfl rfl rfl dJx35411_next_0502b_54 ?_
      refine kz_aload_n (pc := 57) 0 (v := .ref v13) (i := 2) rfl rfl rfl dJx35411_next_0502b_57 ?_
      refine kz_aload_n (pc := 58) 2 (v := .ref a0) (i := 0) rfl rfl rfl dJx35411_next_0502b_58 ?_
      refine kz_iload_n (pc := 59) 1 (i := 1) rfl rfl dJx35411_next_0502b_59 ?_
      refine kz_dup_x1 (pc := 60) rfl rfl dJx35411_next_0502b_60 ?_
      obtain ⟨fs17, hM, hlen, h⟩ := h
      refine kz_putf (pc := 61) (k := 1) kcJx35411 hM (by decide) hlen kw_1313 rfl rfl rfl dJx35411_next_0502b_61 ?_
      obtain ⟨n18, f19, o20, hM, hi, ho, h⟩ := h
      refine kz_aald (pc := 64) hM hi dJx35411_next_0502b_64 ?_
      rw [ho]
      show kz_Z G (d + 1) 0 0 mJx35411_next_0502b Qr Qx 65 [(2, .ref v13), (1, .int v5), (0, .ref a0)] [.ref o20] (kz_up (kz_up M1 a0 (.inl (17, fs16.set 0 (.int (v5 + 1))))) a0 (.inl (17, fs17.set 1 (.int v5)))) 0 0
      exact kz_aret (pc := 65) (v := .ref o20) rfl rfl (Or.inl ⟨_, rfl⟩) (Nat.le_refl _) (Nat.le_refl _) dJx35411_next_0502b_65 h
    · replace h := h.2 hb
      exact h.elim
  · replace h := h.2 hb
    exact h.elim
