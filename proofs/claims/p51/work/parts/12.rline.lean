/-! The rules of 12.rline: printed by program (wip/whole/rules.py) -/
theorem dX3_init_0 : decode cX3_init 0 = .ok (.aload_n 0, 1) := by decide +kernel
theorem dX3_init_1 : decode cX3_init 1 = .ok (.invokespecial 3, 3) := by decide +kernel
theorem dX3_init_4 : decode cX3_init 4 = .ok (.aload_n 0, 1) := by decide +kernel
theorem dX3_init_5 : decode cX3_init 5 = .ok (.aload_n 1, 1) := by decide +kernel
theorem dX3_init_6 : decode cX3_init 6 = .ok (.putfield 9, 3) := by decide +kernel
theorem dX3_init_9 : decode cX3_init 9 = .ok (.aload_n 0, 1) := by decide +kernel
theorem dX3_init_10 : decode cX3_init 10 = .ok (.iload_n 2, 1) := by decide +kernel
theorem dX3_init_11 : decode cX3_init 11 = .ok (.putfield 15, 3) := by decide +kernel
theorem dX3_init_14 : decode cX3_init 14 = .ok (.aload_n 0, 1) := by decide +kernel
theorem dX3_init_15 : decode cX3_init 15 = .ok (.iload_n 3, 1) := by decide +kernel
theorem dX3_init_16 : decode cX3_init 16 = .ok (.putfield 19, 3) := by decide +kernel
theorem dX3_init_19 : decode cX3_init 19 = .ok (.aload_n 0, 1) := by decide +kernel
theorem dX3_init_20 : decode cX3_init 20 = .ok (.aload_n 1, 1) := by decide +kernel
theorem dX3_init_21 : decode cX3_init 21 = .ok (.iload_n 2, 1) := by decide +kernel
theorem dX3_init_22 : decode cX3_init 22 = .ok (.iload_n 3, 1) := by decide +kernel
theorem dX3_init_23 : decode cX3_init 23 = .ok (.invokevirtual 22, 3) := by decide +kernel
theorem dX3_init_26 : decode cX3_init 26 = .ok (.putfield 28, 3) := by decide +kernel
theorem dX3_init_29 : decode cX3_init 29 = .ok (.aload_n 0, 1) := by decide +kernel
theorem dX3_init_30 : decode cX3_init 30 = .ok (.aload_n 0, 1) := by decide +kernel
theorem dX3_init_31 : decode cX3_init 31 = .ok (.getfield 28, 3) := by decide +kernel
theorem dX3_init_34 : decode cX3_init 34 = .ok (.iload 4, 2) := by decide +kernel
theorem dX3_init_36 : decode cX3_init 36 = .ok (.iload 5, 2) := by decide +kernel
theorem dX3_init_38 : decode cX3_init 38 = .ok (.invokestatic 31, 3) := by decide +kernel
theorem dX3_init_41 : decode cX3_init 41 = .ok (.putfield 35, 3) := by decide +kernel
theorem dX3_init_44 : decode cX3_init 44 = .ok (.aload_n 0, 1) := by decide +kernel
theorem dX3_init_45 : decode cX3_init 45 = .ok (.iconst 0, 1) := by decide +kernel
theorem dX3_init_46 : decode cX3_init 46 = .ok (.putfield 38, 3) := by decide +kernel
theorem dX3_init_49 : decode cX3_init 49 = .ok (.aload_n 0, 1) := by decide +kernel
theorem dX3_init_50 : decode cX3_init 50 = .ok (.iconst 0, 1) := by decide +kernel
theorem dX3_init_51 : decode cX3_init 51 = .ok (.putfield 41, 3) := by decide +kernel
theorem dX3_init_54 : decode cX3_init 54 = .ok (.return_, 1) := by decide +kernel
theorem rX3_init_0 {G : kz_G} {d : Nat} {Qr : Option Value → kz_M → Prop} {Qx : String → kz_M → Prop} {a0 : Nat} {p1 : Nat} {p2 : Int32} {p3 : Int32} {p4 : Int32} {p5 : Int32}  {M : kz_M} (h : ∃ fs1, (M).1 a0 = some (.inl (3, fs1)) ∧ 0 < fs1.length ∧ (∃ fs2, ((kz_up M a0 (.inl (3, fs1.set 0 (.ref p1))))).1 a0 = some (.inl (3, fs2)) ∧ 1 < fs2.length ∧ (∃ fs3, ((kz_up (kz_up M a0 (.inl (3, fs1.set 0 (.ref p1)))) a0 (.inl (3, fs2.set 1 (.int p2))))).1 a0 = some (.inl (3, fs3)) ∧ 2 < fs3.length ∧ ((∃ fs17, ((kz_up (kz_up (kz_up M a0 (.inl (3, fs1.set 0 (.ref p1)))) a0 (.inl (3, fs2.set 1 (.int p2)))) a0 (.inl (3, fs3.set 2 (.int p3))))).1 p1 = some (.inl (6, fs17))) ∧ kz_C G (d + 1) 0 0 mX6_widthBetween [.ref p1, .int p2, .int p3] (kz_up (kz_up (kz_up M a0 (.inl (3, fs1.set 0 (.ref p1)))) a0 (.inl (3, fs2.set 1 (.int p2)))) a0 (.inl (3, fs3.set 2 (.int p3)))) (fun v M4 => ∃ r5 : Int32, v = some (.int r5) ∧ (∃ fs7, (M4).1 a0 = some (.inl (3, fs7)) ∧ 3 < fs7.length ∧ (∃ fs8 v9, ((kz_up M4 a0 (.inl (3, fs7.set 3 (.int r5))))).1 a0 = some (.inl (3, fs8)) ∧ fs8[3]? = some (.int v9) ∧ (kz_C G (d + 1) 0 0 mX11_payFor [.int v9, .int p4, .int p5] (kz_up M4 a0 (.inl (3, fs7.set 3 (.int r5)))) (fun v M10 => ∃ r11 : Int32, v = some (.int r11) ∧ (∃ fs13, (M10).1 a0 = some (.inl (3, fs13)) ∧ 4 < fs13.length ∧ (∃ fs14, ((kz_up M10 a0 (.inl (3, fs13.set 4 (.int r11))))).1 a0 = some (.inl (3, fs14)) ∧ 5 < fs14.length ∧ (∃ fs15, ((kz_up (kz_up M10 a0 (.inl (3, fs13.set 4 (.int r11)))) a0 (.inl (3, fs14.set 5 (.int 0))))).1 a0 = some (.inl (3, fs15)) ∧ 6 < fs15.length ∧ (Qr none (kz_up (kz_up (kz_up M10 a0 (.inl (3, fs13.set 4 (.int r11)))) a0 (.inl (3, fs14.set 5 (.int 0)))) a0 (.inl (3, fs15.set 6 (.int 0))))))))) Qx)))) Qx)))) : kz_C G (d + 2) 0 0 mX3_init [.ref a0, .ref p1, .int p2, .int p3, .int p4, .int p5] M Qr Qx := by
  refine kz_enter (n := 5) kmX3_init.1 (Nat.le_of_ble_eq_true rfl) (ls := [(0, .ref a0), (1, .ref p1), (2, .int p2), (3, .int p3), (4, .int p4), (5, .int p5)]) rfl ?_
  refine kz_aload_n (pc := 0) 0 (v := .ref a0) (i := 0) rfl rfl rfl dX3_init_0 ?_
  refine kz_objInit (pc := 1) kw_1146 kw_43 kw_44 (by omega) (Nat.le_of_ble_eq_true rfl) dX3_init_1 ?_
  refine kz_aload_n (pc := 4) 0 (v := .ref a0) (i := 0) rfl rfl rfl dX3_init_4 ?_
  refine kz_aload_n (pc := 5) 1 (v := .ref p1) (i := 1) rfl rfl rfl dX3_init_5 ?_
  obtain ⟨fs1, hM, hlen, h⟩ := h
  refine kz_putF (pc := 6) (k := 0) kcX3 hM (by decide) hlen rfl rfl kw_1154 rfl rfl rfl dX3_init_6 ?_
  refine kz_aload_n (pc := 9) 0 (v := .ref a0) (i := 0) rfl rfl rfl dX3_init_9 ?_
  refine kz_iload_n (pc := 10) 2 (i := 2) rfl rfl dX3_init_10 ?_
  obtain ⟨fs2, hM, hlen, h⟩ := h
  refine kz_putF (pc := 11) (k := 1) kcX3 hM (by decide) hlen rfl rfl kw_1156 rfl rfl rfl dX3_init_11 ?_
  refine kz_aload_n (pc := 14) 0 (v := .ref a0) (i := 0) rfl rfl rfl dX3_init_14 ?_
  refine kz_iload_n (pc := 15) 3 (i := 3) rfl rfl dX3_init_15 ?_
  obtain ⟨fs3, hM, hlen, h⟩ := h
  refine kz_putF (pc := 16) (k := 2) kcX3 hM (by decide) hlen rfl rfl kw_1159 rfl rfl rfl dX3_init_16 ?_
  refine kz_aload_n (pc := 19) 0 (v := .ref a0) (i := 0) rfl rfl rfl dX3_init_19 ?_
  refine kz_aload_n (pc := 20) 1 (v := .ref p1) (i := 1) rfl rfl rfl dX3_init_20 ?_
  refine kz_iload_n (pc := 21) 2 (i := 2) rfl rfl dX3_init_21 ?_
  refine kz_iload_n (pc := 22) 3 (i := 3) rfl rfl dX3_init_22 ?_
  obtain ⟨⟨fs17, he⟩, h⟩ := h
  refine kz_callV (pc := 23) (μ' := mX6_widthBetween) (ci := 6) (q := (RX6, TX6, 3)) (b := p1) (d' := d + 1) (mc' := 0) (ms' := 0) (As := [.int p2, .int p3]) (st := [.ref a0]) (c := 0) (sl := 0) kmX6_widthBetween kw_1147 (by omega) rfl (Nat.le_of_ble_eq_true rfl) he rfl rfl (Nat.le_refl _) (Nat.le_refl _) dX3_init_23 (fun E M9 hx => kz_Tout rfl (Nat.le_refl _) (Nat.le_refl _) hx) (kz_Cmono (fun v M4 h => ?_) (fun _ _ h => h) h)
  obtain ⟨r5, rfl, h⟩ := h
  show kz_Z G (d + 2) 0 0 mX3_init Qr Qx 26 [(0, .ref a0), (1, .ref p1), (2, .int p2), (3, .int p3), (4, .int p4), (5, .int p5)] [.int r5, .ref a0] M4 0 0
  obtain ⟨fs7, hM, hlen, h⟩ := h
  refine kz_putF (pc := 26) (k := 3) kcX3 hM (by decide) hlen rfl rfl kw_1162 rfl rfl rfl dX3_init_26 ?_
  refine kz_aload_n (pc := 29) 0 (v := .ref a0) (i := 0) rfl rfl rfl dX3_init_29 ?_
  refine kz_aload_n (pc := 30) 0 (v := .ref a0) (i := 0) rfl rfl rfl dX3_init_30 ?_
  obtain ⟨fs8, v9, hM, hv, h⟩ := h
  refine kz_getf (pc := 31) (k := 3) kcX3 hM hv (by decide) kw_1162 dX3_init_31 ?_
  refine kz_iload (pc := 34) 4 (i := 4) rfl dX3_init_34 ?_
  refine kz_iload (pc := 36) 5 (i := 5) rfl dX3_init_36 ?_
  refine kz_callSN (pc := 38) (μ' := mX11_payFor) (d' := d + 1) (mc' := 0) (ms' := 0) (As := [.int v9, .int p4, .int p5]) (st := [.ref a0]) (c := 0) (sl := 0) kmX11_payFor kw_1151 (by omega) rfl (Nat.le_of_ble_eq_true rfl) (Nat.le_refl _) (Nat.le_refl _) dX3_init_38 (fun E M9 hx => kz_Tout rfl (Nat.le_refl _) (Nat.le_refl _) hx) (kz_Cmono (fun v M10 h => ?_) (fun _ _ h => h) h)
  obtain ⟨r11, rfl, h⟩ := h
  show kz_Z G (d + 2) 0 0 mX3_init Qr Qx 41 [(0, .ref a0), (1, .ref p1), (2, .int p2), (3, .int p3), (4, .int p4), (5, .int p5)] [.int r11, .ref a0] M10 0 0
  obtain ⟨fs13, hM, hlen, h⟩ := h
  refine kz_putF (pc := 41) (k := 4) kcX3 hM (by decide) hlen rfl rfl kw_1164 rfl rfl rfl dX3_init_41 ?_
  refine kz_aload_n (pc := 44) 0 (v := .ref a0) (i := 0) rfl rfl rfl dX3_init_44 ?_
  refine kz_iconst (pc := 45) (v := 0) (by decide) dX3_init_45 ?_
  obtain ⟨fs14, hM, hlen, h⟩ := h
  refine kz_putf (pc := 46) (k := 5) kcX3 hM (by decide) hlen kw_1167 rfl rfl rfl dX3_init_46 ?_
  refine kz_aload_n (pc := 49) 0 (v := .ref a0) (i := 0) rfl rfl rfl dX3_init_49 ?_
  refine kz_iconst (pc := 50) (v := 0) (by decide) dX3_init_50 ?_
  obtain ⟨fs15, hM, hlen, h⟩ := h
  refine kz_putf (pc := 51) (k := 6) kcX3 hM (by decide) hlen kw_1169 rfl rfl rfl dX3_init_51 ?_
  exact kz_vret (pc := 54) rfl (Nat.le_refl _) (Nat.le_refl _) dX3_init_54 h
theorem dX3_init__0 : decode cX3_init_ 0 = .ok (.aload_n 0, 1) := by decide +kernel
theorem dX3_init__1 : decode cX3_init_ 1 = .ok (.invokespecial 3, 3) := by decide +kernel
theorem dX3_init__4 : decode cX3_init_ 4 = .ok (.aload_n 0, 1) := by decide +kernel
theorem dX3_init__5 : decode cX3_init_ 5 = .ok (.aload_n 1, 1) := by decide +kernel
theorem dX3_init__6 : decode cX3_init_ 6 = .ok (.getfield 9, 3) := by decide +kernel
theorem dX3_init__9 : decode cX3_init_ 9 = .ok (.putfield 9, 3) := by decide +kernel
theorem dX3_init__12 : decode cX3_init_ 12 = .ok (.aload_n 0, 1) := by decide +kernel
theorem dX3_init__13 : decode cX3_init_ 13 = .ok (.aload_n 1, 1) := by decide +kernel
theorem dX3_init__14 : decode cX3_init_ 14 = .ok (.getfield 15, 3) := by decide +kernel
theorem dX3_init__17 : decode cX3_init_ 17 = .ok (.putfield 15, 3) := by decide +kernel
theorem dX3_init__20 : decode cX3_init_ 20 = .ok (.aload_n 0, 1) := by decide +kernel
theorem dX3_init__21 : decode cX3_init_ 21 = .ok (.aload_n 1, 1) := by decide +kernel
theorem dX3_init__22 : decode cX3_init_ 22 = .ok (.getfield 19, 3) := by decide +kernel
theorem dX3_init__25 : decode cX3_init_ 25 = .ok (.putfield 19, 3) := by decide +kernel
theorem dX3_init__28 : decode cX3_init_ 28 = .ok (.aload_n 0, 1) := by decide +kernel
theorem dX3_init__29 : decode cX3_init_ 29 = .ok (.aload_n 1, 1) := by decide +kernel
theorem dX3_init__30 : decode cX3_init_ 30 = .ok (.getfield 28, 3) := by decide +kernel
theorem dX3_init__33 : decode cX3_init_ 33 = .ok (.putfield 28, 3) := by decide +kernel
theorem dX3_init__36 : decode cX3_init_ 36 = .ok (.aload_n 0, 1) := by decide +kernel
theorem dX3_init__37 : decode cX3_init_ 37 = .ok (.aload_n 1, 1) := by decide +kernel
theorem dX3_init__38 : decode cX3_init_ 38 = .ok (.getfield 35, 3) := by decide +kernel
theorem dX3_init__41 : decode cX3_init_ 41 = .ok (.putfield 35, 3) := by decide +kernel
theorem dX3_init__44 : decode cX3_init_ 44 = .ok (.aload_n 0, 1) := by decide +kernel
theorem dX3_init__45 : decode cX3_init_ 45 = .ok (.aload_n 1, 1) := by decide +kernel
theorem dX3_init__46 : decode cX3_init_ 46 = .ok (.getfield 38, 3) := by decide +kernel
theorem dX3_init__49 : decode cX3_init_ 49 = .ok (.putfield 38, 3) := by decide +kernel
theorem dX3_init__52 : decode cX3_init_ 52 = .ok (.aload_n 0, 1) := by decide +kernel
theorem dX3_init__53 : decode cX3_init_ 53 = .ok (.iload_n 2, 1) := by decide +kernel
theorem dX3_init__54 : decode cX3_init_ 54 = .ok (.putfield 41, 3) := by decide +kernel
theorem dX3_init__57 : decode cX3_init_ 57 = .ok (.return_, 1) := by decide +kernel
theorem rX3_init__0 {G : kz_G} {d : Nat} {Qr : Option Value → kz_M → Prop} {Qx : String → kz_M → Prop} {a0 : Nat} {p1 : Nat} {p2 : Int32}  {M : kz_M} (h : ∃ fs1 v2, (M).1 p1 = some (.inl (3, fs1)) ∧ fs1[0]? = some (.ref v2) ∧ (∃ fs3, (M).1 a0 = some (.inl (3, fs3)) ∧ 0 < fs3.length ∧ (∃ fs4 v5, ((kz_up M a0 (.inl (3, fs3.set 0 (.ref v2))))).1 p1 = some (.inl (3, fs4)) ∧ fs4[1]? = some (.int v5) ∧ (∃ fs6, ((kz_up M a0 (.inl (3, fs3.set 0 (.ref v2))))).1 a0 = some (.inl (3, fs6)) ∧ 1 < fs6.length ∧ (∃ fs7 v8, ((kz_up (kz_up M a0 (.inl (3, fs3.set 0 (.ref v2)))) a0 (.inl (3, fs6.set 1 (.int v5))))).1 p1 = some (.inl (3, fs7)) ∧ fs7[2]? = some (.int v8) ∧ (∃ fs9, ((kz_up (kz_up M a0 (.inl (3, fs3.set 0 (.ref v2)))) a0 (.inl (3, fs6.set 1 (.int v5))))).1 a0 = some (.inl (3, fs9)) ∧ 2 < fs9.length ∧ (∃ fs10 v11, ((kz_up (kz_up (kz_up M a0 (.inl (3, fs3.set 0 (.ref v2)))) a0 (.inl (3, fs6.set 1 (.int v5)))) a0 (.inl (3, fs9.set 2 (.int v8))))).1 p1 = some (.inl (3, fs10)) ∧ fs10[3]? = some (.int v11) ∧ (∃ fs12, ((kz_up (kz_up (kz_up M a0 (.inl (3, fs3.set 0 (.ref v2)))) a0 (.inl (3, fs6.set 1 (.int v5)))) a0 (.inl (3, fs9.set 2 (.int v8))))).1 a0 = some (.inl (3, fs12)) ∧ 3 < fs12.length ∧ (∀ M13, M13 = kz_up (kz_up (kz_up (kz_up M a0 (.inl (3, fs3.set 0 (.ref v2)))) a0 (.inl (3, fs6.set 1 (.int v5)))) a0 (.inl (3, fs9.set 2 (.int v8)))) a0 (.inl (3, fs12.set 3 (.int v11))) → ∃ fs14 v15, (M13).1 p1 = some (.inl (3, fs14)) ∧ fs14[4]? = some (.int v15) ∧ (∃ fs16, (M13).1 a0 = some (.inl (3, fs16)) ∧ 4 < fs16.length ∧ (∃ fs17 v18, ((kz_up M13 a0 (.inl (3, fs16.set 4 (.int v15))))).1 p1 = some (.inl (3, fs17)) ∧ fs17[5]? = some (.int v18) ∧ (∃ fs19, ((kz_up M13 a0 (.inl (3, fs16.set 4 (.int v15))))).1 a0 = some (.inl (3, fs19)) ∧ 5 < fs19.length ∧ (∃ fs20, ((kz_up (kz_up M13 a0 (.inl (3, fs16.set 4 (.int v15)))) a0 (.inl (3, fs19.set 5 (.int v18))))).1 a0 = some (.inl (3, fs20)) ∧ 6 < fs20.length ∧ (Qr none (kz_up (kz_up (kz_up M13 a0 (.inl (3, fs16.set 4 (.int v15)))) a0 (.inl (3, fs19.set 5 (.int v18)))) a0 (.inl (3, fs20.set 6 (.int p2)))))))))))))))))) : kz_C G (d + 1) 0 0 mX3_init_ [.ref a0, .ref p1, .int p2] M Qr Qx := by
  refine kz_enter (n := 2) kmX3_init_.1 (Nat.le_of_ble_eq_true rfl) (ls := [(0, .ref a0), (1, .ref p1), (2, .int p2)]) rfl ?_
  refine kz_aload_n (pc := 0) 0 (v := .ref a0) (i := 0) rfl rfl rfl dX3_init__0 ?_
  refine kz_objInit (pc := 1) kw_1146 kw_43 kw_44 (by omega) (Nat.le_of_ble_eq_true rfl) dX3_init__1 ?_
  refine kz_aload_n (pc := 4) 0 (v := .ref a0) (i := 0) rfl rfl rfl dX3_init__4 ?_
  refine kz_aload_n (pc := 5) 1 (v := .ref p1) (i := 1) rfl rfl rfl dX3_init__5 ?_
  obtain ⟨fs1, v2, hM, hv, h⟩ := h
  refine kz_getf (pc := 6) (k := 0) kcX3 hM hv (by decide) kw_1154 dX3_init__6 ?_
  obtain ⟨fs3, hM, hlen, h⟩ := h
  refine kz_putF (pc := 9) (k := 0) kcX3 hM (by decide) hlen rfl rfl kw_1154 rfl rfl rfl dX3_init__9 ?_
  refine kz_aload_n (pc := 12) 0 (v := .ref a0) (i := 0) rfl rfl rfl dX3_init__12 ?_
  refine kz_aload_n (pc := 13) 1 (v := .ref p1) (i := 1) rfl rfl rfl dX3_init__13 ?_
  obtain ⟨fs4, v5, hM, hv, h⟩ := h
  refine kz_getf (pc := 14) (k := 1) kcX3 hM hv (by decide) kw_1156 dX3_init__14 ?_
  obtain ⟨fs6, hM, hlen, h⟩ := h
  refine kz_putF (pc := 17) (k := 1) kcX3 hM (by decide) hlen rfl rfl kw_1156 rfl rfl rfl dX3_init__17 ?_
  refine kz_aload_n (pc := 20) 0 (v := .ref a0) (i := 0) rfl rfl rfl dX3_init__20 ?_
  refine kz_aload_n (pc := 21) 1 (v := .ref p1) (i := 1) rfl rfl rfl dX3_init__21 ?_
  obtain ⟨fs7, v8, hM, hv, h⟩ := h
  refine kz_getf (pc := 22) (k := 2) kcX3 hM hv (by decide) kw_1159 dX3_init__22 ?_
  obtain ⟨fs9, hM, hlen, h⟩ := h
  refine kz_putF (pc := 25) (k := 2) kcX3 hM (by decide) hlen rfl rfl kw_1159 rfl rfl rfl dX3_init__25 ?_
  refine kz_aload_n (pc := 28) 0 (v := .ref a0) (i := 0) rfl rfl rfl dX3_init__28 ?_
  refine kz_aload_n (pc := 29) 1 (v := .ref p1) (i := 1) rfl rfl rfl dX3_init__29 ?_
  obtain ⟨fs10, v11, hM, hv, h⟩ := h
  refine kz_getf (pc := 30) (k := 3) kcX3 hM hv (by decide) kw_1162 dX3_init__30 ?_
  obtain ⟨fs12, hM, hlen, h⟩ := h
  refine kz_putF (pc := 33) (k := 3) kcX3 hM (by decide) hlen rfl rfl kw_1162 rfl rfl rfl dX3_init__33 ?_
  refine kz_nameM (fun M13 e9 => ?_)
  replace h := h M13 e9
  refine kz_aload_n (pc := 36) 0 (v := .ref a0) (i := 0) rfl rfl rfl dX3_init__36 ?_
  refine kz_aload_n (pc := 37) 1 (v := .ref p1) (i := 1) rfl rfl rfl dX3_init__37 ?_
  obtain ⟨fs14, v15, hM, hv, h⟩ := h
  refine kz_getf (pc := 38) (k := 4) kcX3 hM hv (by decide) kw_1164 dX3_init__38 ?_
  obtain ⟨fs16, hM, hlen, h⟩ := h
  refine kz_putF (pc := 41) (k := 4) kcX3 hM (by decide) hlen rfl rfl kw_1164 rfl rfl rfl dX3_init__41 ?_
  refine kz_aload_n (pc := 44) 0 (v := .ref a0) (i := 0) rfl rfl rfl dX3_init__44 ?_
  refine kz_aload_n (pc := 45) 1 (v := .ref p1) (i := 1) rfl rfl rfl dX3_init__45 ?_
  obtain ⟨fs17, v18, hM, hv, h⟩ := h
  refine kz_getf (pc := 46) (k := 5) kcX3 hM hv (by decide) kw_1167 dX3_init__46 ?_
  obtain ⟨fs19, hM, hlen, h⟩ := h
  refine kz_putf (pc := 49) (k := 5) kcX3 hM (by decide) hlen kw_1167 rfl rfl rfl dX3_init__49 ?_
  refine kz_aload_n (pc := 52) 0 (v := .ref a0) (i := 0) rfl rfl rfl dX3_init__52 ?_
  refine kz_iload_n (pc := 53) 2 (i := 2) rfl rfl dX3_init__53 ?_
  obtain ⟨fs20, hM, hlen, h⟩ := h
  refine kz_putf (pc := 54) (k := 6) kcX3 hM (by decide) hlen kw_1169 rfl rfl rfl dX3_init__54 ?_
  exact kz_vret (pc := 57) rfl (Nat.le_refl _) (Nat.le_refl _) dX3_init__57 h
theorem dX3_withState_0 : decode cX3_withState 0 = .ok (.new 10, 3) := by decide +kernel
theorem dX3_withState_3 : decode cX3_withState 3 = .ok (.dup, 1) := by decide +kernel
theorem dX3_withState_4 : decode cX3_withState 4 = .ok (.aload_n 0, 1) := by decide +kernel
theorem dX3_withState_5 : decode cX3_withState 5 = .ok (.iload_n 1, 1) := by decide +kernel
theorem dX3_withState_6 : decode cX3_withState 6 = .ok (.invokespecial 44, 3) := by decide +kernel
theorem dX3_withState_9 : decode cX3_withState 9 = .ok (.areturn, 1) := by decide +kernel
theorem rX3_withState_0 {G : kz_G} {d : Nat} {mc ms : Nat} {Qr : Option Value → kz_M → Prop} {Qx : String → kz_M → Prop} {a0 : Nat} {p1 : Int32}  {M : kz_M} (h : 0 + 1 ≤ mc ∧ 0 + 7 ≤ ms ∧ (kz_C G (d + 1) 0 0 mX3_init_ [.ref ((M).2), .ref a0, .int p1] (kz_nw M (.inl (3, [.null, .int 0, .int 0, .int 0, .int 0, .int 0, .int 0]))) (fun v M2 => v = none ∧ (Qr (some (.ref ((M).2))) M2)) Qx)) : kz_C G (d + 2) mc ms mX3_withState [.ref a0, .int p1] M Qr Qx := by
  refine kz_enter (n := 1) kmX3_withState.1 (Nat.le_of_ble_eq_true rfl) (ls := [(0, .ref a0), (1, .int p1)]) rfl ?_
  obtain ⟨hc1, hs1, h⟩ := h
  refine kz_newc (pc := 0) kcX3 rfl kw_1485 kw_1142 kw_32 hc1 hs1 dX3_withState_0 ?_
  refine kz_dup (pc := 3) rfl dX3_withState_3 ?_
  refine kz_aload_n (pc := 4) 0 (v := .ref a0) (i := 0) rfl rfl rfl dX3_withState_4 ?_
  refine kz_iload_n (pc := 5) 1 (i := 1) rfl rfl dX3_withState_5 ?_
  refine kz_callI (pc := 6) (μ' := mX3_init_) (b := (M).2) (d' := d + 1) (mc' := 0) (ms' := 0) (As := [.ref a0, .int p1]) (st := [.ref ((M).2)]) (c := 0 + 1) (sl := 0 + 7) kmX3_init_ kw_1486 (by omega) rfl (Nat.le_of_ble_eq_true rfl) hc1 hs1 dX3_withState_6 (fun E M9 hx => kz_Tout rfl hc1 hs1 hx) (kz_Cmono (fun v M2 h => ?_) (fun _ _ h => h) h)
  obtain ⟨rfl, h⟩ := h
  show kz_Z G (d + 2) mc ms mX3_withState Qr Qx 9 [(0, .ref a0), (1, .int p1)] [.ref ((M).2)] M2 (0 + 1) (0 + 7)
  exact kz_aret (pc := 9) (v := .ref ((M).2)) rfl rfl (Or.inl ⟨_, rfl⟩) hc1 hs1 dX3_withState_9 h
theorem dX3_judge_0 : decode cX3_judge 0 = .ok (.aload_n 0, 1) := by decide +kernel
theorem dX3_judge_1 : decode cX3_judge 1 = .ok (.iload_n 1, 1) := by decide +kernel
theorem dX3_judge_2 : decode cX3_judge 2 = .ok (.putfield 38, 3) := by decide +kernel
theorem dX3_judge_5 : decode cX3_judge 5 = .ok (.aload_n 0, 1) := by decide +kernel
theorem dX3_judge_6 : decode cX3_judge 6 = .ok (.iload_n 1, 1) := by decide +kernel
theorem dX3_judge_7 : decode cX3_judge 7 = .ok (.ifCond .ne 7, 3) := by decide +kernel
theorem dX3_judge_10 : decode cX3_judge 10 = .ok (.iconst 0, 1) := by decide +kernel
theorem dX3_judge_11 : decode cX3_judge 11 = .ok (.goto 4, 3) := by decide +kernel
theorem dX3_judge_14 : decode cX3_judge 14 = .ok (.iconst 1, 1) := by decide +kernel
theorem dX3_judge_15 : decode cX3_judge 15 = .ok (.putfield 41, 3) := by decide +kernel
theorem dX3_judge_18 : decode cX3_judge 18 = .ok (.return_, 1) := by decide +kernel
theorem rX3_judge_0 {G : kz_G} {d : Nat} {Qr : Option Value → kz_M → Prop} {Qx : String → kz_M → Prop} {a0 : Nat} {p1 : Int32}  {M : kz_M} (h : ∃ fs1, (M).1 a0 = some (.inl (3, fs1)) ∧ 5 < fs1.length ∧ ((¬ p1 = 0 → ∃ fs2, ((kz_up M a0 (.inl (3, fs1.set 5 (.int p1))))).1 a0 = some (.inl (3, fs2)) ∧ 6 < fs2.length ∧ (Qr none (kz_up (kz_up M a0 (.inl (3, fs1.set 5 (.int p1)))) a0 (.inl (3, fs2.set 6 (.int 1)))))) ∧ (p1 = 0 → ∃ fs3, ((kz_up M a0 (.inl (3, fs1.set 5 (.int p1))))).1 a0 = some (.inl (3, fs3)) ∧ 6 < fs3.length ∧ (Qr none (kz_up (kz_up M a0 (.inl (3, fs1.set 5 (.int p1)))) a0 (.inl (3, fs3.set 6 (.int 0)))))))) : kz_C G d 0 0 mX3_judge [.ref a0, .int p1] M Qr Qx := by
  refine kz_enter (n := 1) kmX3_judge.1 (Nat.le_of_ble_eq_true rfl) (ls := [(0, .ref a0), (1, .int p1)]) rfl ?_
  refine kz_aload_n (pc := 0) 0 (v := .ref a0) (i := 0) rfl rfl rfl dX3_judge_0 ?_
  refine kz_iload_n (pc := 1) 1 (i := 1) rfl rfl dX3_judge_1 ?_
  obtain ⟨fs1, hM, hlen, h⟩ := h
  refine kz_putf (pc := 2) (k := 5) kcX3 hM (by decide) hlen kw_1167 rfl rfl rfl dX3_judge_2 ?_
  refine kz_aload_n (pc := 5) 0 (v := .ref a0) (i := 0) rfl rfl rfl dX3_judge_5 ?_
  refine kz_iload_n (pc := 6) 1 (i := 1) rfl rfl dX3_judge_6 ?_
  refine kz_if_ne (pc := 7) (tgt := 14) (by decide) dX3_judge_7 (fun hb => ?_) (fun hb => ?_)
  · replace h := h.1 hb
    refine kz_iconst (pc := 14) (v := 1) (by decide) dX3_judge_14 ?_
    obtain ⟨fs2, hM, hlen, h⟩ := h
    refine kz_putf (pc := 15) (k := 6) kcX3 hM (by decide) hlen kw_1169 rfl rfl rfl dX3_judge_15 ?_
    exact kz_vret (pc := 18) rfl (Nat.le_refl _) (Nat.le_refl _) dX3_judge_18 h
  · replace h := h.2 hb
    refine kz_iconst (pc := 10) (v := 0) (by decide) dX3_judge_10 ?_
    refine kz_goto (pc := 11) (tgt := 15) (by decide) dX3_judge_11 ?_
    obtain ⟨fs3, hM, hlen, h⟩ := h
    refine kz_putf (pc := 15) (k := 6) kcX3 hM (by decide) hlen kw_1169 rfl rfl rfl dX3_judge_15 ?_
    exact kz_vret (pc := 18) rfl (Nat.le_refl _) (Nat.le_refl _) dX3_judge_18 h
theorem dX3_counts_0 : decode cX3_counts 0 = .ok (.aload_n 0, 1) := by decide +kernel
theorem dX3_counts_1 : decode cX3_counts 1 = .ok (.getfield 41, 3) := by decide +kernel
theorem dX3_counts_4 : decode cX3_counts 4 = .ok (.ifCond .eq 11, 3) := by decide +kernel
theorem dX3_counts_7 : decode cX3_counts 7 = .ok (.aload_n 0, 1) := by decide +kernel
theorem dX3_counts_8 : decode cX3_counts 8 = .ok (.getfield 41, 3) := by decide +kernel
theorem dX3_counts_11 : decode cX3_counts 11 = .ok (.iconst 2, 1) := by decide +kernel
theorem dX3_counts_12 : decode cX3_counts 12 = .ok (.if_icmp .ne 7, 3) := by decide +kernel
theorem dX3_counts_15 : decode cX3_counts 15 = .ok (.iconst 1, 1) := by decide +kernel
theorem dX3_counts_16 : decode cX3_counts 16 = .ok (.goto 4, 3) := by decide +kernel
theorem dX3_counts_19 : decode cX3_counts 19 = .ok (.iconst 0, 1) := by decide +kernel
theorem dX3_counts_20 : decode cX3_counts 20 = .ok (.ireturn, 1) := by decide +kernel
theorem rX3_counts_0 {G : kz_G} {d : Nat} {Qr : Option Value → kz_M → Prop} {Qx : String → kz_M → Prop} {a0 : Nat}  {M : kz_M} (h : ∃ fs1 v2, (M).1 a0 = some (.inl (3, fs1)) ∧ fs1[6]? = some (.int v2) ∧ ((v2 = 0 → Qr (some (.int 1)) M) ∧ (¬ v2 = 0 → ∃ fs3 v4, (M).1 a0 = some (.inl (3, fs3)) ∧ fs3[6]? = some (.int v4) ∧ ((¬ v4 = (2 : Int32) → Qr (some (.int 0)) M) ∧ (v4 = (2 : Int32) → Qr (some (.int 1)) M))))) : kz_C G d 0 0 mX3_counts [.ref a0] M Qr Qx := by
  refine kz_enter (n := 0) kmX3_counts.1 (Nat.le_of_ble_eq_true rfl) (ls := [(0, .ref a0)]) rfl ?_
  refine kz_aload_n (pc := 0) 0 (v := .ref a0) (i := 0) rfl rfl rfl dX3_counts_0 ?_
  obtain ⟨fs1, v2, hM, hv, h⟩ := h
  refine kz_getf (pc := 1) (k := 6) kcX3 hM hv (by decide) kw_1169 dX3_counts_1 ?_
  refine kz_if_eq (pc := 4) (tgt := 15) (by decide) dX3_counts_4 (fun hb => ?_) (fun hb => ?_)
  · replace h := h.1 hb
    refine kz_iconst (pc := 15) (v := 1) (by decide) dX3_counts_15 ?_
    refine kz_goto (pc := 16) (tgt := 20) (by decide) dX3_counts_16 ?_
    exact kz_zret (pc := 20) (ty := .boolean) rfl (by decide) (Nat.le_refl _) (Nat.le_refl _) dX3_counts_20 h
  · replace h := h.2 hb
    refine kz_aload_n (pc := 7) 0 (v := .ref a0) (i := 0) rfl rfl rfl dX3_counts_7 ?_
    obtain ⟨fs3, v4, hM, hv, h⟩ := h
    refine kz_getf (pc := 8) (k := 6) kcX3 hM hv (by decide) kw_1169 dX3_counts_8 ?_
    refine kz_iconst (pc := 11) (v := 2) (by decide) dX3_counts_11 ?_
    refine kz_icmp_ne (pc := 12) (tgt := 19) (by decide) dX3_counts_12 (fun hb => ?_) (fun hb => ?_)
    · replace h := h.1 hb
      refine kz_iconst (pc := 19) (v := 0) (by decide) dX3_counts_19 ?_
      exact kz_zret (pc := 20) (ty := .boolean) rfl (by decide) (Nat.le_refl _) (Nat.le_refl _) dX3_counts_20 h
    · replace h := h.2 hb
      refine kz_iconst (pc := 15) (v := 1) (by decide) dX3_counts_15 ?_
      refine kz_goto (pc := 16) (tgt := 20) (by decide) dX3_counts_16 ?_
      exact kz_zret (pc := 20) (ty := .boolean) rfl (by decide) (Nat.le_refl _) (Nat.le_refl _) dX3_counts_20 h
theorem dX3_isOf_0 : decode cX3_isOf 0 = .ok (.iload_n 1, 1) := by decide +kernel
theorem dX3_isOf_1 : decode cX3_isOf 1 = .ok (.tableswitch 77 1 4 #[31, 36, 49, 63], 31) := by decide +kernel
theorem dX3_isOf_32 : decode cX3_isOf 32 = .ok (.aload_n 0, 1) := by decide +kernel
theorem dX3_isOf_33 : decode cX3_isOf 33 = .ok (.invokevirtual 47, 3) := by decide +kernel
theorem dX3_isOf_36 : decode cX3_isOf 36 = .ok (.ireturn, 1) := by decide +kernel
theorem dX3_isOf_37 : decode cX3_isOf 37 = .ok (.aload_n 0, 1) := by decide +kernel
theorem dX3_isOf_38 : decode cX3_isOf 38 = .ok (.getfield 38, 3) := by decide +kernel
theorem dX3_isOf_41 : decode cX3_isOf 41 = .ok (.ifCond .eq 7, 3) := by decide +kernel
theorem dX3_isOf_44 : decode cX3_isOf 44 = .ok (.iconst 1, 1) := by decide +kernel
theorem dX3_isOf_45 : decode cX3_isOf 45 = .ok (.goto 4, 3) := by decide +kernel
theorem dX3_isOf_48 : decode cX3_isOf 48 = .ok (.iconst 0, 1) := by decide +kernel
theorem dX3_isOf_49 : decode cX3_isOf 49 = .ok (.ireturn, 1) := by decide +kernel
theorem dX3_isOf_50 : decode cX3_isOf 50 = .ok (.aload_n 0, 1) := by decide +kernel
theorem dX3_isOf_51 : decode cX3_isOf 51 = .ok (.getfield 41, 3) := by decide +kernel
theorem dX3_isOf_54 : decode cX3_isOf 54 = .ok (.iconst 2, 1) := by decide +kernel
theorem dX3_isOf_55 : decode cX3_isOf 55 = .ok (.if_icmp .ne 7, 3) := by decide +kernel
theorem dX3_isOf_58 : decode cX3_isOf 58 = .ok (.iconst 1, 1) := by decide +kernel
theorem dX3_isOf_59 : decode cX3_isOf 59 = .ok (.goto 4, 3) := by decide +kernel
theorem dX3_isOf_62 : decode cX3_isOf 62 = .ok (.iconst 0, 1) := by decide +kernel
theorem dX3_isOf_63 : decode cX3_isOf 63 = .ok (.ireturn, 1) := by decide +kernel
theorem dX3_isOf_64 : decode cX3_isOf 64 = .ok (.aload_n 0, 1) := by decide +kernel
theorem dX3_isOf_65 : decode cX3_isOf 65 = .ok (.getfield 41, 3) := by decide +kernel
theorem dX3_isOf_68 : decode cX3_isOf 68 = .ok (.iconst 3, 1) := by decide +kernel
theorem dX3_isOf_69 : decode cX3_isOf 69 = .ok (.if_icmp .ne 7, 3) := by decide +kernel
theorem dX3_isOf_72 : decode cX3_isOf 72 = .ok (.iconst 1, 1) := by decide +kernel
theorem dX3_isOf_73 : decode cX3_isOf 73 = .ok (.goto 4, 3) := by decide +kernel
theorem dX3_isOf_76 : decode cX3_isOf 76 = .ok (.iconst 0, 1) := by decide +kernel
theorem dX3_isOf_77 : decode cX3_isOf 77 = .ok (.ireturn, 1) := by decide +kernel
theorem dX3_isOf_78 : decode cX3_isOf 78 = .ok (.iconst 1, 1) := by decide +kernel
theorem dX3_isOf_79 : decode cX3_isOf 79 = .ok (.ireturn, 1) := by decide +kernel
theorem rX3_isOf_0 {G : kz_G} {d : Nat} {Qr : Option Value → kz_M → Prop} {Qx : String → kz_M → Prop} {a0 : Nat} {p1 : Int32}  {M : kz_M} (h : (p1 = 1 → (∃ fs4, (M).1 a0 = some (.inl (3, fs4))) ∧ kz_C G (d + 0) 0 0 mX3_counts [.ref a0] M (fun v M1 => ∃ r2 : Int32, v = some (.int r2) ∧ (narrow .boolean (.int r2) = .int r2 ∧ Qr (some (.int r2)) M1)) Qx) ∧ (p1 = 2 → ∃ fs5 v6, (M).1 a0 = some (.inl (3, fs5)) ∧ fs5[5]? = some (.int v6) ∧ ((v6 = 0 → Qr (some (.int 0)) M) ∧ (¬ v6 = 0 → Qr (some (.int 1)) M))) ∧ (p1 = 3 → ∃ fs7 v8, (M).1 a0 = some (.inl (3, fs7)) ∧ fs7[6]? = some (.int v8) ∧ ((¬ v8 = (2 : Int32) → Qr (some (.int 0)) M) ∧ (v8 = (2 : Int32) → Qr (some (.int 1)) M))) ∧ (p1 = 4 → ∃ fs9 v10, (M).1 a0 = some (.inl (3, fs9)) ∧ fs9[6]? = some (.int v10) ∧ ((¬ v10 = (3 : Int32) → Qr (some (.int 0)) M) ∧ (v10 = (3 : Int32) → Qr (some (.int 1)) M))) ∧ (¬ p1 = 1 → ¬ p1 = 2 → ¬ p1 = 3 → ¬ p1 = 4 → Qr (some (.int 1)) M)) : kz_C G (d + 1) 0 0 mX3_isOf [.ref a0, .int p1] M Qr Qx := by
  refine kz_enter (n := 1) kmX3_isOf.1 (Nat.le_of_ble_eq_true rfl) (ls := [(0, .ref a0), (1, .int p1)]) rfl ?_
  refine kz_iload_n (pc := 0) 1 (i := 1) rfl rfl dX3_isOf_0 ?_
  by_cases hk0 : p1 = 1
  · replace h := h.1 hk0
    refine kz_tableIn (pc := 1) (off := 31) (tgt := 32) (by rw [hk0]; decide) (by rw [hk0]; decide) (by rw [hk0]; decide) (by decide) dX3_isOf_1 ?_
    refine kz_aload_n (pc := 32) 0 (v := .ref a0) (i := 0) rfl rfl rfl dX3_isOf_32 ?_
    obtain ⟨⟨fs4, he⟩, h⟩ := h
    refine kz_callV (pc := 33) (μ' := mX3_counts) (ci := 3) (q := (RX3, TX3, 7)) (b := a0) (d' := d + 0) (mc' := 0) (ms' := 0) (As := []) (st := []) (c := 0) (sl := 0) kmX3_counts kw_730 (by omega) rfl (Nat.le_of_ble_eq_true rfl) he rfl rfl (Nat.le_refl _) (Nat.le_refl _) dX3_isOf_33 (fun E M9 hx => kz_Tout rfl (Nat.le_refl _) (Nat.le_refl _) hx) (kz_Cmono (fun v M1 h => ?_) (fun _ _ h => h) h)
    obtain ⟨r2, rfl, h⟩ := h
    show kz_Z G (d + 1) 0 0 mX3_isOf Qr Qx 36 [(0, .ref a0), (1, .int p1)] [.int r2] M1 0 0
    exact kz_zret (pc := 36) (ty := .boolean) rfl h.1 (Nat.le_refl _) (Nat.le_refl _) dX3_isOf_36 h.2
  by_cases hk1 : p1 = 2
  · replace h := h.2.1 hk1
    refine kz_tableIn (pc := 1) (off := 36) (tgt := 37) (by rw [hk1]; decide) (by rw [hk1]; decide) (by rw [hk1]; decide) (by decide) dX3_isOf_1 ?_
    refine kz_aload_n (pc := 37) 0 (v := .ref a0) (i := 0) rfl rfl rfl dX3_isOf_37 ?_
    obtain ⟨fs5, v6, hM, hv, h⟩ := h
    refine kz_getf (pc := 38) (k := 5) kcX3 hM hv (by decide) kw_1167 dX3_isOf_38 ?_
    refine kz_if_eq (pc := 41) (tgt := 48) (by decide) dX3_isOf_41 (fun hb => ?_) (fun hb => ?_)
    · replace h := h.1 hb
      refine kz_iconst (pc := 48) (v := 0) (by decide) dX3_isOf_48 ?_
      exact kz_zret (pc := 49) (ty := .boolean) rfl (by decide) (Nat.le_refl _) (Nat.le_refl _) dX3_isOf_49 h
    · replace h := h.2 hb
      refine kz_iconst (pc := 44) (v := 1) (by decide) dX3_isOf_44 ?_
      refine kz_goto (pc := 45) (tgt := 49) (by decide) dX3_isOf_45 ?_
      exact kz_zret (pc := 49) (ty := .boolean) rfl (by decide) (Nat.le_refl _) (Nat.le_refl _) dX3_isOf_49 h
  by_cases hk2 : p1 = 3
  · replace h := h.2.2.1 hk2
    refine kz_tableIn (pc := 1) (off := 49) (tgt := 50) (by rw [hk2]; decide) (by rw [hk2]; decide) (by rw [hk2]; decide) (by decide) dX3_isOf_1 ?_
    refine kz_aload_n (pc := 50) 0 (v := .ref a0) (i := 0) rfl rfl rfl dX3_isOf_50 ?_
    obtain ⟨fs7, v8, hM, hv, h⟩ := h
    refine kz_getf (pc := 51) (k := 6) kcX3 hM hv (by decide) kw_1169 dX3_isOf_51 ?_
    refine kz_iconst (pc := 54) (v := 2) (by decide) dX3_isOf_54 ?_
    refine kz_icmp_ne (pc := 55) (tgt := 62) (by decide) dX3_isOf_55 (fun hb => ?_) (fun hb => ?_)
    · replace h := h.1 hb
      refine kz_iconst (pc := 62) (v := 0) (by decide) dX3_isOf_62 ?_
      exact kz_zret (pc := 63) (ty := .boolean) rfl (by decide) (Nat.le_refl _) (Nat.le_refl _) dX3_isOf_63 h
    · replace h := h.2 hb
      refine kz_iconst (pc := 58) (v := 1) (by decide) dX3_isOf_58 ?_
      refine kz_goto (pc := 59) (tgt := 63) (by decide) dX3_isOf_59 ?_
      exact kz_zret (pc := 63) (ty := .boolean) rfl (by decide) (Nat.le_refl _) (Nat.le_refl _) dX3_isOf_63 h
  by_cases hk3 : p1 = 4
  · replace h := h.2.2.2.1 hk3
    refine kz_tableIn (pc := 1) (off := 63) (tgt := 64) (by rw [hk3]; decide) (by rw [hk3]; decide) (by rw [hk3]; decide) (by decide) dX3_isOf_1 ?_
    refine kz_aload_n (pc := 64) 0 (v := .ref a0) (i := 0) rfl rfl rfl dX3_isOf_64 ?_
    obtain ⟨fs9, v10, hM, hv, h⟩ := h
    refine kz_getf (pc := 65) (k := 6) kcX3 hM hv (by decide) kw_1169 dX3_isOf_65 ?_
    refine kz_iconst (pc := 68) (v := 3) (by decide) dX3_isOf_68 ?_
    refine kz_icmp_ne (pc := 69) (tgt := 76) (by decide) dX3_isOf_69 (fun hb => ?_) (fun hb => ?_)
    · replace h := h.1 hb
      refine kz_iconst (pc := 76) (v := 0) (by decide) dX3_isOf_76 ?_
      exact kz_zret (pc := 77) (ty := .boolean) rfl (by decide) (Nat.le_refl _) (Nat.le_refl _) dX3_isOf_77 h
    · replace h := h.2 hb
      refine kz_iconst (pc := 72) (v := 1) (by decide) dX3_isOf_72 ?_
      refine kz_goto (pc := 73) (tgt := 77) (by decide) dX3_isOf_73 ?_
      exact kz_zret (pc := 77) (ty := .boolean) rfl (by decide) (Nat.le_refl _) (Nat.le_refl _) dX3_isOf_77 h
  replace h := h.2.2.2.2 hk0 hk1 hk2 hk3
  refine kz_tableOut (pc := 1) (tgt := 78) (kz_swout (lo := 1) (n := 4) (by decide) (by decide) (kz_all4 (kz_swne (by decide) hk0) (kz_swne (by decide) hk1) (kz_swne (by decide) hk2) (kz_swne (by decide) hk3))) (by decide) dX3_isOf_1 ?_
  refine kz_iconst (pc := 78) (v := 1) (by decide) dX3_isOf_78 ?_
  exact kz_zret (pc := 79) (ty := .boolean) rfl (by decide) (Nat.le_refl _) (Nat.le_refl _) dX3_isOf_79 h
theorem dX3_different_0 : decode cX3_different 0 = .ok (.aload_n 0, 1) := by decide +kernel
theorem dX3_different_1 : decode cX3_different 1 = .ok (.getfield 9, 3) := by decide +kernel
theorem dX3_different_4 : decode cX3_different 4 = .ok (.aload_n 0, 1) := by decide +kernel
theorem dX3_different_5 : decode cX3_different 5 = .ok (.getfield 15, 3) := by decide +kernel
theorem dX3_different_8 : decode cX3_different 8 = .ok (.aload_n 0, 1) := by decide +kernel
theorem dX3_different_9 : decode cX3_different 9 = .ok (.getfield 19, 3) := by decide +kernel
theorem dX3_different_12 : decode cX3_different 12 = .ok (.invokevirtual 51, 3) := by decide +kernel
theorem dX3_different_15 : decode cX3_different 15 = .ok (.ireturn, 1) := by decide +kernel
theorem rX3_different_0 {G : kz_G} {d : Nat} {Qr : Option Value → kz_M → Prop} {Qx : String → kz_M → Prop} {a0 : Nat}  {M : kz_M} (h : ∃ fs1 v2, (M).1 a0 = some (.inl (3, fs1)) ∧ fs1[0]? = some (.ref v2) ∧ (∃ fs3 v4, (M).1 a0 = some (.inl (3, fs3)) ∧ fs3[1]? = some (.int v4) ∧ (∃ fs5 v6, (M).1 a0 = some (.inl (3, fs5)) ∧ fs5[2]? = some (.int v6) ∧ ((∃ fs10, (M).1 v2 = some (.inl (6, fs10))) ∧ kz_C G (d + 3) 0 0 mX6_differentBetween [.ref v2, .int v4, .int v6] M (fun v M7 => ∃ r8 : Int32, v = some (.int r8) ∧ (Qr (some (.int r8)) M7)) Qx)))) : kz_C G (d + 4) 0 0 mX3_different [.ref a0] M Qr Qx := by
  refine kz_enter (n := 0) kmX3_different.1 (Nat.le_of_ble_eq_true rfl) (ls := [(0, .ref a0)]) rfl ?_
  refine kz_aload_n (pc := 0) 0 (v := .ref a0) (i := 0) rfl rfl rfl dX3_different_0 ?_
  obtain ⟨fs1, v2, hM, hv, h⟩ := h
  refine kz_getf (pc := 1) (k := 0) kcX3 hM hv (by decide) kw_1154 dX3_different_1 ?_
  refine kz_aload_n (pc := 4) 0 (v := .ref a0) (i := 0) rfl rfl rfl dX3_different_4 ?_
  obtain ⟨fs3, v4, hM, hv, h⟩ := h
  refine kz_getf (pc := 5) (k := 1) kcX3 hM hv (by decide) kw_1156 dX3_different_5 ?_
  refine kz_aload_n (pc := 8) 0 (v := .ref a0) (i := 0) rfl rfl rfl dX3_different_8 ?_
  obtain ⟨fs5, v6, hM, hv, h⟩ := h
  refine kz_getf (pc := 9) (k := 2) kcX3 hM hv (by decide) kw_1159 dX3_different_9 ?_
  obtain ⟨⟨fs10, he⟩, h⟩ := h
  refine kz_callV (pc := 12) (μ' := mX6_differentBetween) (ci := 6) (q := (RX6, TX6, 3)) (b := v2) (d' := d + 3) (mc' := 0) (ms' := 0) (As := [.int v4, .int v6]) (st := []) (c := 0) (sl := 0) kmX6_differentBetween kw_993 (by omega) rfl (Nat.le_of_ble_eq_true rfl) he rfl rfl (Nat.le_refl _) (Nat.le_refl _) dX3_different_12 (fun E M9 hx => kz_Tout rfl (Nat.le_refl _) (Nat.le_refl _) hx) (kz_Cmono (fun v M7 h => ?_) (fun _ _ h => h) h)
  obtain ⟨r8, rfl, h⟩ := h
  show kz_Z G (d + 4) 0 0 mX3_different Qr Qx 15 [(0, .ref a0)] [.int r8] M7 0 0
  exact kz_iret (pc := 15) rfl (Nat.le_refl _) (Nat.le_refl _) dX3_different_15 h
theorem dX3_has_0 : decode cX3_has 0 = .ok (.aload_n 0, 1) := by decide +kernel
theorem dX3_has_1 : decode cX3_has 1 = .ok (.getfield 9, 3) := by decide +kernel
theorem dX3_has_4 : decode cX3_has 4 = .ok (.lload_n 1, 1) := by decide +kernel
theorem dX3_has_5 : decode cX3_has 5 = .ok (.aload_n 0, 1) := by decide +kernel
theorem dX3_has_6 : decode cX3_has 6 = .ok (.getfield 15, 3) := by decide +kernel
theorem dX3_has_9 : decode cX3_has 9 = .ok (.aload_n 0, 1) := by decide +kernel
theorem dX3_has_10 : decode cX3_has 10 = .ok (.getfield 19, 3) := by decide +kernel
theorem dX3_has_13 : decode cX3_has 13 = .ok (.invokevirtual 54, 3) := by decide +kernel
theorem dX3_has_16 : decode cX3_has 16 = .ok (.ifCond .le 7, 3) := by decide +kernel
theorem dX3_has_19 : decode cX3_has 19 = .ok (.iconst 1, 1) := by decide +kernel
theorem dX3_has_20 : decode cX3_has 20 = .ok (.goto 4, 3) := by decide +kernel
theorem dX3_has_23 : decode cX3_has 23 = .ok (.iconst 0, 1) := by decide +kernel
theorem dX3_has_24 : decode cX3_has 24 = .ok (.ireturn, 1) := by decide +kernel
theorem rX3_has_0 {G : kz_G} {d : Nat} {Qr : Option Value → kz_M → Prop} {Qx : String → kz_M → Prop} {a0 : Nat} {p1 : Int64}  {M : kz_M} (h : ∃ fs1 v2, (M).1 a0 = some (.inl (3, fs1)) ∧ fs1[0]? = some (.ref v2) ∧ (∃ fs3 v4, (M).1 a0 = some (.inl (3, fs3)) ∧ fs3[1]? = some (.int v4) ∧ (∃ fs5 v6, (M).1 a0 = some (.inl (3, fs5)) ∧ fs5[2]? = some (.int v6) ∧ ((∃ fs10, (M).1 v2 = some (.inl (6, fs10))) ∧ kz_C G (d + 1) 0 0 mX6_times [.ref v2, .long p1, .int v4, .int v6] M (fun v M7 => ∃ r8 : Int32, v = some (.int r8) ∧ ((r8 ≤ 0 → Qr (some (.int 0)) M7) ∧ (¬ r8 ≤ 0 → Qr (some (.int 1)) M7))) Qx)))) : kz_C G (d + 2) 0 0 mX3_has [.ref a0, .long p1] M Qr Qx := by
  refine kz_enter (n := 1) kmX3_has.1 (Nat.le_of_ble_eq_true rfl) (ls := [(0, .ref a0), (1, .long p1)]) rfl ?_
  refine kz_aload_n (pc := 0) 0 (v := .ref a0) (i := 0) rfl rfl rfl dX3_has_0 ?_
  obtain ⟨fs1, v2, hM, hv, h⟩ := h
  refine kz_getf (pc := 1) (k := 0) kcX3 hM hv (by decide) kw_1154 dX3_has_1 ?_
  refine kz_lload_n (pc := 4) 1 (i := 1) rfl rfl dX3_has_4 ?_
  refine kz_aload_n (pc := 5) 0 (v := .ref a0) (i := 0) rfl rfl rfl dX3_has_5 ?_
  obtain ⟨fs3, v4, hM, hv, h⟩ := h
  refine kz_getf (pc := 6) (k := 1) kcX3 hM hv (by decide) kw_1156 dX3_has_6 ?_
  refine kz_aload_n (pc := 9) 0 (v := .ref a0) (i := 0) rfl rfl rfl dX3_has_9 ?_
  obtain ⟨fs5, v6, hM, hv, h⟩ := h
  refine kz_getf (pc := 10) (k := 2) kcX3 hM hv (by decide) kw_1159 dX3_has_10 ?_
  obtain ⟨⟨fs10, he⟩, h⟩ := h
  refine kz_callV (pc := 13) (μ' := mX6_times) (ci := 6) (q := (RX6, TX6, 3)) (b := v2) (d' := d + 1) (mc' := 0) (ms' := 0) (As := [.long p1, .int v4, .int v6]) (st := []) (c := 0) (sl := 0) kmX6_times kw_922 (by omega) rfl (Nat.le_of_ble_eq_true rfl) he rfl rfl (Nat.le_refl _) (Nat.le_refl _) dX3_has_13 (fun E M9 hx => kz_Tout rfl (Nat.le_refl _) (Nat.le_refl _) hx) (kz_Cmono (fun v M7 h => ?_) (fun _ _ h => h) h)
  obtain ⟨r8, rfl, h⟩ := h
  show kz_Z G (d + 2) 0 0 mX3_has Qr Qx 16 [(0, .ref a0), (1, .long p1)] [.int r8] M7 0 0
  refine kz_if_le (pc := 16) (tgt := 23) (by decide) dX3_has_16 (fun hb => ?_) (fun hb => ?_)
  · replace h := h.1 hb
    refine kz_iconst (pc := 23) (v := 0) (by decide) dX3_has_23 ?_
    exact kz_zret (pc := 24) (ty := .boolean) rfl (by decide) (Nat.le_refl _) (Nat.le_refl _) dX3_has_24 h
  · replace h := h.2 hb
    refine kz_iconst (pc := 19) (v := 1) (by decide) dX3_has_19 ?_
    refine kz_goto (pc := 20) (tgt := 24) (by decide) dX3_has_20 ?_
    exact kz_zret (pc := 24) (ty := .boolean) rfl (by decide) (Nat.le_refl _) (Nat.le_refl _) dX3_has_24 h
theorem dX3_isStuffed_0 : decode cX3_isStuffed 0 = .ok (.aload_n 0, 1) := by decide +kernel
theorem dX3_isStuffed_1 : decode cX3_isStuffed 1 = .ok (.getfield 15, 3) := by decide +kernel
theorem dX3_isStuffed_4 : decode cX3_isStuffed 4 = .ok (.istore_n 2, 1) := by decide +kernel
theorem dX3_isStuffed_5 : decode cX3_isStuffed 5 = .ok (.iload_n 2, 1) := by decide +kernel
theorem dX3_isStuffed_6 : decode cX3_isStuffed 6 = .ok (.aload_n 0, 1) := by decide +kernel
theorem dX3_isStuffed_7 : decode cX3_isStuffed 7 = .ok (.getfield 19, 3) := by decide +kernel
theorem dX3_isStuffed_10 : decode cX3_isStuffed 10 = .ok (.if_icmp .ge 38, 3) := by decide +kernel
theorem dX3_isStuffed_13 : decode cX3_isStuffed 13 = .ok (.aload_n 0, 1) := by decide +kernel
theorem dX3_isStuffed_14 : decode cX3_isStuffed 14 = .ok (.getfield 9, 3) := by decide +kernel
theorem dX3_isStuffed_17 : decode cX3_isStuffed 17 = .ok (.aload_n 0, 1) := by decide +kernel
theorem dX3_isStuffed_18 : decode cX3_isStuffed 18 = .ok (.getfield 9, 3) := by decide +kernel
theorem dX3_isStuffed_21 : decode cX3_isStuffed 21 = .ok (.iload_n 2, 1) := by decide +kernel
theorem dX3_isStuffed_22 : decode cX3_isStuffed 22 = .ok (.invokevirtual 58, 3) := by decide +kernel
theorem dX3_isStuffed_25 : decode cX3_isStuffed 25 = .ok (.aload_n 0, 1) := by decide +kernel
theorem dX3_isStuffed_26 : decode cX3_isStuffed 26 = .ok (.getfield 15, 3) := by decide +kernel
theorem dX3_isStuffed_29 : decode cX3_isStuffed 29 = .ok (.aload_n 0, 1) := by decide +kernel
theorem dX3_isStuffed_30 : decode cX3_isStuffed 30 = .ok (.getfield 19, 3) := by decide +kernel
theorem dX3_isStuffed_33 : decode cX3_isStuffed 33 = .ok (.invokevirtual 54, 3) := by decide +kernel
theorem dX3_isStuffed_36 : decode cX3_isStuffed 36 = .ok (.iload_n 1, 1) := by decide +kernel
theorem dX3_isStuffed_37 : decode cX3_isStuffed 37 = .ok (.if_icmp .lt 5, 3) := by decide +kernel
theorem dX3_isStuffed_40 : decode cX3_isStuffed 40 = .ok (.iconst 1, 1) := by decide +kernel
theorem dX3_isStuffed_41 : decode cX3_isStuffed 41 = .ok (.ireturn, 1) := by decide +kernel
theorem dX3_isStuffed_42 : decode cX3_isStuffed 42 = .ok (.iinc 2 1, 3) := by decide +kernel
theorem dX3_isStuffed_45 : decode cX3_isStuffed 45 = .ok (.goto (-40), 3) := by decide +kernel
theorem dX3_isStuffed_48 : decode cX3_isStuffed 48 = .ok (.iconst 0, 1) := by decide +kernel
theorem dX3_isStuffed_49 : decode cX3_isStuffed 49 = .ok (.ireturn, 1) := by decide +kernel
def zX3_isStuffed_5 (G : kz_G) (d : Nat) (Qr : Option Value → kz_M → Prop) (Qx : String → kz_M → Prop) (x0 : Nat) (x1 : Int32) (x2 : Int32)  (M : kz_M) : Prop := kz_Z G (d + 2) 0 0 mX3_isStuffed Qr Qx 5 [(0, .ref x0), (1, .int x1), (2, .int x2)] [] M 0 0
theorem rX3_isStuffed_0 {G : kz_G} {d : Nat} {Qr : Option Value → kz_M → Prop} {Qx : String → kz_M → Prop} {a0 : Nat} {p1 : Int32}  {M : kz_M} (h : ∃ fs1 v2, (M).1 a0 = some (.inl (3, fs1)) ∧ fs1[1]? = some (.int v2) ∧ (zX3_isStuffed_5 G d Qr Qx a0 p1 v2 M)) : kz_C G (d + 2) 0 0 mX3_isStuffed [.ref a0, .int p1] M Qr Qx := by
  refine kz_enter (n := 1) kmX3_isStuffed.1 (Nat.le_of_ble_eq_true rfl) (ls := [(0, .ref a0), (1, .int p1)]) rfl ?_
  refine kz_aload_n (pc := 0) 0 (v := .ref a0) (i := 0) rfl rfl rfl dX3_isStuffed_0 ?_
  obtain ⟨fs1, v2, hM, hv, h⟩ := h
  refine kz_getf (pc := 1) (k := 1) kcX3 hM hv (by decide) kw_1156 dX3_isStuffed_1 ?_
  refine kz_istore_n (pc := 4) (i := 2) (ls' := [(0, .ref a0), (1, .int p1)]) rfl (by decide) rfl dX3_isStuffed_4 ?_
  refine kz_sub [1, 2, 0] rfl ?_
  exact h
theorem rX3_isStuffed_5 {G : kz_G} {d : Nat} {Qr : Option Value → kz_M → Prop} {Qx : String → kz_M → Prop} {x0 : Nat} {x1 : Int32} {x2 : Int32}  {M : kz_M} (h : ∃ fs1 v2, (M).1 x0 = some (.inl (3, fs1)) ∧ fs1[2]? = some (.int v2) ∧ ((v2 ≤ x2 → Qr (some (.int 0)) M) ∧ (¬ v2 ≤ x2 → ∃ fs3 v4, (M).1 x0 = some (.inl (3, fs3)) ∧ fs3[0]? = some (.ref v4) ∧ (∃ fs5 v6, (M).1 x0 = some (.inl (3, fs5)) ∧ fs5[0]? = some (.ref v6) ∧ ((∃ fs18, (M).1 v6 = some (.inl (6, fs18))) ∧ kz_C G (d + 1) 0 0 mX6_wordAt [.ref v6, .int x2] M (fun v M7 => ∃ r8 : Int64, v = some (.long r8) ∧ (∃ fs10 v11, (M7).1 x0 = some (.inl (3, fs10)) ∧ fs10[1]? = some (.int v11) ∧ (∃ fs12 v13, (M7).1 x0 = some (.inl (3, fs12)) ∧ fs12[2]? = some (.int v13) ∧ ((∃ fs17, (M7).1 v4 = some (.inl (6, fs17))) ∧ kz_C G (d + 1) 0 0 mX6_times [.ref v4, .long r8, .int v11, .int v13] M7 (fun v M14 => ∃ r15 : Int32, v = some (.int r15) ∧ ((r15 < x1 → zX3_isStuffed_5 G d Qr Qx x0 x1 (x2 + 1) M14) ∧ (¬ r15 < x1 → Qr (some (.int 1)) M14))) Qx)))) Qx))))) : zX3_isStuffed_5 G d Qr Qx x0 x1 x2  M := by
  show kz_Z G (d + 2) 0 0 mX3_isStuffed Qr Qx 5 [(0, .ref x0), (1, .int x1), (2, .int x2)] [] M 0 0
  refine kz_iload_n (pc := 5) 2 (i := 2) rfl rfl dX3_isStuffed_5 ?_
  refine kz_aload_n (pc := 6) 0 (v := .ref x0) (i := 0) rfl rfl rfl dX3_isStuffed_6 ?_
  obtain ⟨fs1, v2, hM, hv, h⟩ := h
  refine kz_getf (pc := 7) (k := 2) kcX3 hM hv (by decide) kw_1159 dX3_isStuffed_7 ?_
  refine kz_icmp_ge (pc := 10) (tgt := 48) (by decide) dX3_isStuffed_10 (fun hb => ?_) (fun hb => ?_)
  · replace h := h.1 hb
    refine kz_iconst (pc := 48) (v := 0) (by decide) dX3_isStuffed_48 ?_
    exact kz_zret (pc := 49) (ty := .boolean) rfl (by decide) (Nat.le_refl _) (Nat.le_refl _) dX3_isStuffed_49 h
  · replace h := h.2 hb
    refine kz_aload_n (pc := 13) 0 (v := .ref x0) (i := 0) rfl rfl rfl dX3_isStuffed_13 ?_
    obtain ⟨fs3, v4, hM, hv, h⟩ := h
    refine kz_getf (pc := 14) (k := 0) kcX3 hM hv (by decide) kw_1154 dX3_isStuffed_14 ?_
    refine kz_aload_n (pc := 17) 0 (v := .ref x0) (i := 0) rfl rfl rfl dX3_isStuffed_17 ?_
    obtain ⟨fs5, v6, hM, hv, h⟩ := h
    refine kz_getf (pc := 18) (k := 0) kcX3 hM hv (by decide) kw_1154 dX3_isStuffed_18 ?_
    refine kz_iload_n (pc := 21) 2 (i := 2) rfl rfl dX3_isStuffed_21 ?_
    obtain ⟨⟨fs18, he⟩, h⟩ := h
    refine kz_callV (pc := 22) (μ' := mX6_wordAt) (ci := 6) (q := (RX6, TX6, 3)) (b := v6) (d' := d + 1) (mc' := 0) (ms' := 0) (As := [.int x2]) (st := [.ref v4]) (c := 0) (sl := 0) kmX6_wordAt kw_1219 (by omega) rfl (Nat.le_of_ble_eq_true rfl) he rfl rfl (Nat.le_refl _) (Nat.le_refl _) dX3_isStuffed_22 (fun E M9 hx => kz_Tout rfl (Nat.le_refl _) (Nat.le_refl _) hx) (kz_Cmono (fun v M7 h => ?_) (fun _ _ h => h) h)
    obtain ⟨r8, rfl, h⟩ := h
    show kz_Z G (d + 2) 0 0 mX3_isStuffed Qr Qx 25 [(0, .ref x0), (1, .int x1), (2, .int x2)] [.long r8, .ref v4] M7 0 0
    refine kz_aload_n (pc := 25) 0 (v := .ref x0) (i := 0) rfl rfl rfl dX3_isStuffed_25 ?_
    obtain ⟨fs10, v11, hM, hv, h⟩ := h
    refine kz_getf (pc := 26) (k := 1) kcX3 hM hv (by decide) kw_1156 dX3_isStuffed_26 ?_
    refine kz_aload_n (pc := 29) 0 (v := .ref x0) (i := 0) rfl rfl rfl dX3_isStuffed_29 ?_
    obtain ⟨fs12, v13, hM, hv, h⟩ := h
    refine kz_getf (pc := 30) (k := 2) kcX3 hM hv (by decide) kw_1159 dX3_isStuffed_30 ?_
    obtain ⟨⟨fs17, he⟩, h⟩ := h
    refine kz_callV (pc := 33) (μ' := mX6_times) (ci := 6) (q := (RX6, TX6, 3)) (b := v4) (d' := d + 1) (mc' := 0) (ms' := 0) (As := [.long r8, .int v11, .int v13]) (st := []) (c := 0) (sl := 0) kmX6_times kw_922 (by omega) rfl (Nat.le_of_ble_eq_true rfl) he rfl rfl (Nat.le_refl _) (Nat.le_refl _) dX3_isStuffed_33 (fun E M9 hx => kz_Tout rfl (Nat.le_refl _) (Nat.le_refl _) hx) (kz_Cmono (fun v M14 h => ?_) (fun _ _ h => h) h)
    obtain ⟨r15, rfl, h⟩ := h
    show kz_Z G (d + 2) 0 0 mX3_isStuffed Qr Qx 36 [(0, .ref x0), (1, .int x1), (2, .int x2)] [.int r15] M14 0 0
    refine kz_iload_n (pc := 36) 1 (i := 1) rfl rfl dX3_isStuffed_36 ?_
    refine kz_icmp_lt (pc := 37) (tgt := 42) (by decide) dX3_isStuffed_37 (fun hb => ?_) (fun hb => ?_)
    · replace h := h.1 hb
      refine kz_iinc (pc := 42) 2 (i := 2) (v := x2 + 1) (ls' := [(0, .ref x0), (1, .int x1)]) rfl (congrArg (fun z => x2 + z) (by decide)) (by decide) rfl dX3_isStuffed_42 ?_
      refine kz_goto (pc := 45) (tgt := 5) (by decide) dX3_isStuffed_45 ?_
      refine kz_sub [1, 2, 0] rfl ?_
      exact h
    · replace h := h.2 hb
      refine kz_iconst (pc := 40) (v := 1) (by decide) dX3_isStuffed_40 ?_
      exact kz_zret (pc := 41) (ty := .boolean) rfl (by decide) (Nat.le_refl _) (Nat.le_refl _) dX3_isStuffed_41 h
theorem dX3_isLike_0 : decode cX3_isLike 0 = .ok (.aload_n 0, 1) := by decide +kernel
theorem dX3_isLike_1 : decode cX3_isLike 1 = .ok (.getfield 19, 3) := by decide +kernel
theorem dX3_isLike_4 : decode cX3_isLike 4 = .ok (.aload_n 0, 1) := by decide +kernel
theorem dX3_isLike_5 : decode cX3_isLike 5 = .ok (.getfield 15, 3) := by decide +kernel
theorem dX3_isLike_8 : decode cX3_isLike 8 = .ok (.isub, 1) := by decide +kernel
theorem dX3_isLike_9 : decode cX3_isLike 9 = .ok (.aload_n 1, 1) := by decide +kernel
theorem dX3_isLike_10 : decode cX3_isLike 10 = .ok (.getfield 19, 3) := by decide +kernel
theorem dX3_isLike_13 : decode cX3_isLike 13 = .ok (.aload_n 1, 1) := by decide +kernel
theorem dX3_isLike_14 : decode cX3_isLike 14 = .ok (.getfield 15, 3) := by decide +kernel
theorem dX3_isLike_17 : decode cX3_isLike 17 = .ok (.isub, 1) := by decide +kernel
theorem dX3_isLike_18 : decode cX3_isLike 18 = .ok (.if_icmp .eq 5, 3) := by decide +kernel
theorem dX3_isLike_21 : decode cX3_isLike 21 = .ok (.iconst 0, 1) := by decide +kernel
theorem dX3_isLike_22 : decode cX3_isLike 22 = .ok (.ireturn, 1) := by decide +kernel
theorem dX3_isLike_23 : decode cX3_isLike 23 = .ok (.iconst 0, 1) := by decide +kernel
theorem dX3_isLike_24 : decode cX3_isLike 24 = .ok (.istore_n 2, 1) := by decide +kernel
theorem dX3_isLike_25 : decode cX3_isLike 25 = .ok (.iload_n 2, 1) := by decide +kernel
theorem dX3_isLike_26 : decode cX3_isLike 26 = .ok (.aload_n 0, 1) := by decide +kernel
theorem dX3_isLike_27 : decode cX3_isLike 27 = .ok (.getfield 19, 3) := by decide +kernel
theorem dX3_isLike_30 : decode cX3_isLike 30 = .ok (.aload_n 0, 1) := by decide +kernel
theorem dX3_isLike_31 : decode cX3_isLike 31 = .ok (.getfield 15, 3) := by decide +kernel
theorem dX3_isLike_34 : decode cX3_isLike 34 = .ok (.isub, 1) := by decide +kernel
theorem dX3_isLike_35 : decode cX3_isLike 35 = .ok (.if_icmp .ge 41, 3) := by decide +kernel
theorem dX3_isLike_38 : decode cX3_isLike 38 = .ok (.aload_n 0, 1) := by decide +kernel
theorem dX3_isLike_39 : decode cX3_isLike 39 = .ok (.getfield 9, 3) := by decide +kernel
theorem dX3_isLike_42 : decode cX3_isLike 42 = .ok (.aload_n 0, 1) := by decide +kernel
theorem dX3_isLike_43 : decode cX3_isLike 43 = .ok (.getfield 15, 3) := by decide +kernel
theorem dX3_isLike_46 : decode cX3_isLike 46 = .ok (.iload_n 2, 1) := by decide +kernel
theorem dX3_isLike_47 : decode cX3_isLike 47 = .ok (.iadd, 1) := by decide +kernel
theorem dX3_isLike_48 : decode cX3_isLike 48 = .ok (.invokevirtual 58, 3) := by decide +kernel
theorem dX3_isLike_51 : decode cX3_isLike 51 = .ok (.aload_n 1, 1) := by decide +kernel
theorem dX3_isLike_52 : decode cX3_isLike 52 = .ok (.getfield 9, 3) := by decide +kernel
theorem dX3_isLike_55 : decode cX3_isLike 55 = .ok (.aload_n 1, 1) := by decide +kernel
theorem dX3_isLike_56 : decode cX3_isLike 56 = .ok (.getfield 15, 3) := by decide +kernel
theorem dX3_isLike_59 : decode cX3_isLike 59 = .ok (.iload_n 2, 1) := by decide +kernel
theorem dX3_isLike_60 : decode cX3_isLike 60 = .ok (.iadd, 1) := by decide +kernel
theorem dX3_isLike_61 : decode cX3_isLike 61 = .ok (.invokevirtual 58, 3) := by decide +kernel
theorem dX3_isLike_64 : decode cX3_isLike 64 = .ok (.lcmp, 1) := by decide +kernel
theorem dX3_isLike_65 : decode cX3_isLike 65 = .ok (.ifCond .eq 5, 3) := by decide +kernel
theorem dX3_isLike_68 : decode cX3_isLike 68 = .ok (.iconst 0, 1) := by decide +kernel
theorem dX3_isLike_69 : decode cX3_isLike 69 = .ok (.ireturn, 1) := by decide +kernel
theorem dX3_isLike_70 : decode cX3_isLike 70 = .ok (.iinc 2 1, 3) := by decide +kernel
theorem dX3_isLike_73 : decode cX3_isLike 73 = .ok (.goto (-48), 3) := by decide +kernel
theorem dX3_isLike_76 : decode cX3_isLike 76 = .ok (.iconst 1, 1) := by decide +kernel
theorem dX3_isLike_77 : decode cX3_isLike 77 = .ok (.ireturn, 1) := by decide +kernel
def zX3_isLike_25 (G : kz_G) (d : Nat) (Qr : Option Value → kz_M → Prop) (Qx : String → kz_M → Prop) (x0 : Nat) (x1 : Nat) (x2 : Int32)  (M : kz_M) : Prop := kz_Z G (d + 1) 0 0 mX3_isLike Qr Qx 25 [(0, .ref x0), (1, .ref x1), (2, .int x2)] [] M 0 0
theorem rX3_isLike_0 {G : kz_G} {d : Nat} {Qr : Option Value → kz_M → Prop} {Qx : String → kz_M → Prop} {a0 : Nat} {p1 : Nat}  {M : kz_M} (h : ∃ fs1 v2, (M).1 a0 = some (.inl (3, fs1)) ∧ fs1[2]? = some (.int v2) ∧ (∃ fs3 v4, (M).1 a0 = some (.inl (3, fs3)) ∧ fs3[1]? = some (.int v4) ∧ (∃ fs5 v6, (M).1 p1 = some (.inl (3, fs5)) ∧ fs5[2]? = some (.int v6) ∧ (∃ fs7 v8, (M).1 p1 = some (.inl (3, fs7)) ∧ fs7[1]? = some (.int v8) ∧ (((v2 - v4) = (v6 - v8) → zX3_isLike_25 G d Qr Qx a0 p1 0 M) ∧ (¬ (v2 - v4) = (v6 - v8) → Qr (some (.int 0)) M)))))) : kz_C G (d + 1) 0 0 mX3_isLike [.ref a0, .ref p1] M Qr Qx := by
  refine kz_enter (n := 1) kmX3_isLike.1 (Nat.le_of_ble_eq_true rfl) (ls := [(0, .ref a0), (1, .ref p1)]) rfl ?_
  refine kz_aload_n (pc := 0) 0 (v := .ref a0) (i := 0) rfl rfl rfl dX3_isLike_0 ?_
  obtain ⟨fs1, v2, hM, hv, h⟩ := h
  refine kz_getf (pc := 1) (k := 2) kcX3 hM hv (by decide) kw_1159 dX3_isLike_1 ?_
  refine kz_aload_n (pc := 4) 0 (v := .ref a0) (i := 0) rfl rfl rfl dX3_isLike_4 ?_
  obtain ⟨fs3, v4, hM, hv, h⟩ := h
  refine kz_getf (pc := 5) (k := 1) kcX3 hM hv (by decide) kw_1156 dX3_isLike_5 ?_
  refine kz_isub (pc := 8) dX3_isLike_8 ?_
  refine kz_aload_n (pc := 9) 1 (v := .ref p1) (i := 1) rfl rfl rfl dX3_isLike_9 ?_
  obtain ⟨fs5, v6, hM, hv, h⟩ := h
  refine kz_getf (pc := 10) (k := 2) kcX3 hM hv (by decide) kw_1159 dX3_isLike_10 ?_
  refine kz_aload_n (pc := 13) 1 (v := .ref p1) (i := 1) rfl rfl rfl dX3_isLike_13 ?_
  obtain ⟨fs7, v8, hM, hv, h⟩ := h
  refine kz_getf (pc := 14) (k := 1) kcX3 hM hv (by decide) kw_1156 dX3_isLike_14 ?_
  refine kz_isub (pc := 17) dX3_isLike_17 ?_
  refine kz_icmp_eq (pc := 18) (tgt := 23) (by decide) dX3_isLike_18 (fun hb => ?_) (fun hb => ?_)
  · replace h := h.1 hb
    refine kz_iconst (pc := 23) (v := 0) (by decide) dX3_isLike_23 ?_
    refine kz_istore_n (pc := 24) (i := 2) (ls' := [(0, .ref a0), (1, .ref p1)]) rfl (by decide) rfl dX3_isLike_24 ?_
    refine kz_sub [1, 2, 0] rfl ?_
    exact h
  · replace h := h.2 hb
    refine kz_iconst (pc := 21) (v := 0) (by decide) dX3_isLike_21 ?_
    exact kz_zret (pc := 22) (ty := .boolean) rfl (by decide) (Nat.le_refl _) (Nat.le_refl _) dX3_isLike_22 h
theorem rX3_isLike_25 {G : kz_G} {d : Nat} {Qr : Option Value → kz_M → Prop} {Qx : String → kz_M → Prop} {x0 : Nat} {x1 : Nat} {x2 : Int32}  {M : kz_M} (h : ∃ fs1 v2, (M).1 x0 = some (.inl (3, fs1)) ∧ fs1[2]? = some (.int v2) ∧ (∃ fs3 v4, (M).1 x0 = some (.inl (3, fs3)) ∧ fs3[1]? = some (.int v4) ∧ (((v2 - v4) ≤ x2 → Qr (some (.int 1)) M) ∧ (¬ (v2 - v4) ≤ x2 → ∃ fs5 v6, (M).1 x0 = some (.inl (3, fs5)) ∧ fs5[0]? = some (.ref v6) ∧ (∃ fs7 v8, (M).1 x0 = some (.inl (3, fs7)) ∧ fs7[1]? = some (.int v8) ∧ ((∃ fs20, (M).1 v6 = some (.inl (6, fs20))) ∧ kz_C G (d + 0) 0 0 mX6_wordAt [.ref v6, .int (v8 + x2)] M (fun v M9 => ∃ r10 : Int64, v = some (.long r10) ∧ (∃ fs12 v13, (M9).1 x1 = some (.inl (3, fs12)) ∧ fs12[0]? = some (.ref v13) ∧ (∃ fs14 v15, (M9).1 x1 = some (.inl (3, fs14)) ∧ fs14[1]? = some (.int v15) ∧ ((∃ fs19, (M9).1 v13 = some (.inl (6, fs19))) ∧ kz_C G (d + 0) 0 0 mX6_wordAt [.ref v13, .int (v15 + x2)] M9 (fun v M16 => ∃ r17 : Int64, v = some (.long r17) ∧ ((r10 = r17 → zX3_isLike_25 G d Qr Qx x0 x1 (x2 + 1) M16) ∧ (¬ r10 = r17 → Qr (some (.int 0)) M16))) Qx)))) Qx)))))) : zX3_isLike_25 G d Qr Qx x0 x1 x2  M := by
  show kz_Z G (d + 1) 0 0 mX3_isLike Qr Qx 25 [(0, .ref x0), (1, .ref x1), (2, .int x2)] [] M 0 0
  refine kz_iload_n (pc := 25) 2 (i := 2) rfl rfl dX3_isLike_25 ?_
  refine kz_aload_n (pc := 26) 0 (v := .ref x0) (i := 0) rfl rfl rfl dX3_isLike_26 ?_
  obtain ⟨fs1, v2, hM, hv, h⟩ := h
  refine kz_getf (pc := 27) (k := 2) kcX3 hM hv (by decide) kw_1159 dX3_isLike_27 ?_
  refine kz_aload_n (pc := 30) 0 (v := .ref x0) (i := 0) rfl rfl rfl dX3_isLike_30 ?_
  obtain ⟨fs3, v4, hM, hv, h⟩ := h
  refine kz_getf (pc := 31) (k := 1) kcX3 hM hv (by decide) kw_1156 dX3_isLike_31 ?_
  refine kz_isub (pc := 34) dX3_isLike_34 ?_
  refine kz_icmp_ge (pc := 35) (tgt := 76) (by decide) dX3_isLike_35 (fun hb => ?_) (fun hb => ?_)
  · replace h := h.1 hb
    refine kz_iconst (pc := 76) (v := 1) (by decide) dX3_isLike_76 ?_
    exact kz_zret (pc := 77) (ty := .boolean) rfl (by decide) (Nat.le_refl _) (Nat.le_refl _) dX3_isLike_77 h
  · replace h := h.2 hb
    refine kz_aload_n (pc := 38) 0 (v := .ref x0) (i := 0) rfl rfl rfl dX3_isLike_38 ?_
    obtain ⟨fs5, v6, hM, hv, h⟩ := h
    refine kz_getf (pc := 39) (k := 0) kcX3 hM hv (by decide) kw_1154 dX3_isLike_39 ?_
    refine kz_aload_n (pc := 42) 0 (v := .ref x0) (i := 0) rfl rfl rfl dX3_isLike_42 ?_
    obtain ⟨fs7, v8, hM, hv, h⟩ := h
    refine kz_getf (pc := 43) (k := 1) kcX3 hM hv (by decide) kw_1156 dX3_isLike_43 ?_
    refine kz_iload_n (pc := 46) 2 (i := 2) rfl rfl dX3_isLike_46 ?_
    refine kz_iadd (pc := 47) dX3_isLike_47 ?_
    obtain ⟨⟨fs20, he⟩, h⟩ := h
    refine kz_callV (pc := 48) (μ' := mX6_wordAt) (ci := 6) (q := (RX6, TX6, 3)) (b := v6) (d' := d + 0) (mc' := 0) (ms' := 0) (As := [.int (v8 + x2)]) (st := []) (c := 0) (sl := 0) kmX6_wordAt kw_1219 (by omega) rfl (Nat.le_of_ble_eq_true rfl) he rfl rfl (Nat.le_refl _) (Nat.le_refl _) dX3_isLike_48 (fun E M9 hx => kz_Tout rfl (Nat.le_refl _) (Nat.le_refl _) hx) (kz_Cmono (fun v M9 h => ?_) (fun _ _ h => h) h)
    obtain ⟨r10, rfl, h⟩ := h
    show kz_Z G (d + 1) 0 0 mX3_isLike Qr Qx 51 [(0, .ref x0), (1, .ref x1), (2, .int x2)] [.long r10] M9 0 0
    refine kz_aload_n (pc := 51) 1 (v := .ref x1) (i := 1) rfl rfl rfl dX3_isLike_51 ?_
    obtain ⟨fs12, v13, hM, hv, h⟩ := h
    refine kz_getf (pc := 52) (k := 0) kcX3 hM hv (by decide) kw_1154 dX3_isLike_52 ?_
    refine kz_aload_n (pc := 55) 1 (v := .ref x1) (i := 1) rfl rfl rfl dX3_isLike_55 ?_
    obtain ⟨fs14, v15, hM, hv, h⟩ := h
    refine kz_getf (pc := 56) (k := 1) kcX3 hM hv (by decide) kw_1156 dX3_isLike_56 ?_
    refine kz_iload_n (pc := 59) 2 (i := 2) rfl rfl dX3_isLike_59 ?_
    refine kz_iadd (pc := 60) dX3_isLike_60 ?_
    obtain ⟨⟨fs19, he⟩, h⟩ := h
    refine kz_callV (pc := 61) (μ' := mX6_wordAt) (ci := 6) (q := (RX6, TX6, 3)) (b := v13) (d' := d + 0) (mc' := 0) (ms' := 0) (As := [.int (v15 + x2)]) (st := [.long r10]) (c := 0) (sl := 0) kmX6_wordAt kw_1219 (by omega) rfl (Nat.le_of_ble_eq_true rfl) he rfl rfl (Nat.le_refl _) (Nat.le_refl _) dX3_isLike_61 (fun E M9 hx => kz_Tout rfl (Nat.le_refl _) (Nat.le_refl _) hx) (kz_Cmono (fun v M16 h => ?_) (fun _ _ h => h) h)
    obtain ⟨r17, rfl, h⟩ := h
    show kz_Z G (d + 1) 0 0 mX3_isLike Qr Qx 64 [(0, .ref x0), (1, .ref x1), (2, .int x2)] [.long r17, .long r10] M16 0 0
    refine kz_lcmp_eq (pc := 64) (tgt := 70) (by decide) dX3_isLike_64 dX3_isLike_65 (fun hb => ?_) (fun hb => ?_)
    · replace h := h.1 hb
      refine kz_iinc (pc := 70) 2 (i := 2) (v := x2 + 1) (ls' := [(0, .ref x0), (1, .ref x1)]) rfl (congrArg (fun z => x2 + z) (by decide)) (by decide) rfl dX3_isLike_70 ?_
      refine kz_goto (pc := 73) (tgt := 25) (by decide) dX3_isLike_73 ?_
      refine kz_sub [1, 2, 0] rfl ?_
      exact h
    · replace h := h.2 hb
      refine kz_iconst (pc := 68) (v := 0) (by decide) dX3_isLike_68 ?_
      exact kz_zret (pc := 69) (ty := .boolean) rfl (by decide) (Nat.le_refl _) (Nat.le_refl _) dX3_isLike_69 h
