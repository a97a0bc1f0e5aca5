/-! The rules of 46.roffice2: printed by program (wip/whole/rules.py) -/
theorem dX11_wouldPay_0 : decode cX11_wouldPay 0 = .ok (.aload_n 0, 1) := by decide +kernel
theorem dX11_wouldPay_1 : decode cX11_wouldPay 1 = .ok (.iload_n 1, 1) := by decide +kernel
theorem dX11_wouldPay_2 : decode cX11_wouldPay 2 = .ok (.iload_n 2, 1) := by decide +kernel
theorem dX11_wouldPay_3 : decode cX11_wouldPay 3 = .ok (.iload_n 3, 1) := by decide +kernel
theorem dX11_wouldPay_4 : decode cX11_wouldPay 4 = .ok (.invokevirtual 312, 3) := by decide +kernel
theorem dX11_wouldPay_7 : decode cX11_wouldPay 7 = .ok (.aload_n 0, 1) := by decide +kernel
theorem dX11_wouldPay_8 : decode cX11_wouldPay 8 = .ok (.getfield 10, 3) := by decide +kernel
theorem dX11_wouldPay_11 : decode cX11_wouldPay 11 = .ok (.iload_n 2, 1) := by decide +kernel
theorem dX11_wouldPay_12 : decode cX11_wouldPay 12 = .ok (.iload_n 3, 1) := by decide +kernel
theorem dX11_wouldPay_13 : decode cX11_wouldPay 13 = .ok (.invokestatic 316, 3) := by decide +kernel
theorem dX11_wouldPay_16 : decode cX11_wouldPay 16 = .ok (.astore 4, 2) := by decide +kernel
theorem dX11_wouldPay_18 : decode cX11_wouldPay 18 = .ok (.aload 4, 2) := by decide +kernel
theorem dX11_wouldPay_20 : decode cX11_wouldPay 20 = .ok (.ifnonnull 5, 3) := by decide +kernel
theorem dX11_wouldPay_23 : decode cX11_wouldPay 23 = .ok (.iconst 0, 1) := by decide +kernel
theorem dX11_wouldPay_24 : decode cX11_wouldPay 24 = .ok (.ireturn, 1) := by decide +kernel
theorem dX11_wouldPay_25 : decode cX11_wouldPay 25 = .ok (.aload_n 0, 1) := by decide +kernel
theorem dX11_wouldPay_26 : decode cX11_wouldPay 26 = .ok (.aload 4, 2) := by decide +kernel
theorem dX11_wouldPay_28 : decode cX11_wouldPay 28 = .ok (.iload_n 1, 1) := by decide +kernel
theorem dX11_wouldPay_29 : decode cX11_wouldPay 29 = .ok (.aload_n 0, 1) := by decide +kernel
theorem dX11_wouldPay_30 : decode cX11_wouldPay 30 = .ok (.getfield 26, 3) := by decide +kernel
theorem dX11_wouldPay_33 : decode cX11_wouldPay 33 = .ok (.getfield 319, 3) := by decide +kernel
theorem dX11_wouldPay_36 : decode cX11_wouldPay 36 = .ok (.aload_n 0, 1) := by decide +kernel
theorem dX11_wouldPay_37 : decode cX11_wouldPay 37 = .ok (.getfield 26, 3) := by decide +kernel
theorem dX11_wouldPay_40 : decode cX11_wouldPay 40 = .ok (.getfield 105, 3) := by decide +kernel
theorem dX11_wouldPay_43 : decode cX11_wouldPay 43 = .ok (.invokevirtual 323, 3) := by decide +kernel
theorem dX11_wouldPay_46 : decode cX11_wouldPay 46 = .ok (.astore 5, 2) := by decide +kernel
theorem dX11_wouldPay_48 : decode cX11_wouldPay 48 = .ok (.aload 5, 2) := by decide +kernel
theorem dX11_wouldPay_50 : decode cX11_wouldPay 50 = .ok (.invokevirtual 189, 3) := by decide +kernel
theorem dX11_wouldPay_53 : decode cX11_wouldPay 53 = .ok (.aload_n 0, 1) := by decide +kernel
theorem dX11_wouldPay_54 : decode cX11_wouldPay 54 = .ok (.getfield 26, 3) := by decide +kernel
theorem dX11_wouldPay_57 : decode cX11_wouldPay 57 = .ok (.aload 5, 2) := by decide +kernel
theorem dX11_wouldPay_59 : decode cX11_wouldPay 59 = .ok (.invokevirtual 327, 3) := by decide +kernel
theorem dX11_wouldPay_62 : decode cX11_wouldPay 62 = .ok (.isub, 1) := by decide +kernel
theorem dX11_wouldPay_63 : decode cX11_wouldPay 63 = .ok (.ireturn, 1) := by decide +kernel
theorem rX11_wouldPay_0 {G : kz_G} {d : Nat} {mc ms : Nat} {Qr : Option Value → kz_M → Prop} {Qx : String → kz_M → Prop} {a0 : Nat} {p1 : Int32} {p2 : Int32} {p3 : Int32}  {M : kz_M} (h : (∃ fs33, (M).1 a0 = some (.inl (10, fs33))) ∧ ∃ mc3 ms3, 0 + mc3 ≤ mc ∧ 0 + ms3 ≤ ms ∧ kz_C G (d + 8) mc3 ms3 mX11_checkSubmission [.ref a0, .int p1, .int p2, .int p3] M (fun v M1 => v = none ∧ (∃ fs4 v5, (M1).1 a0 = some (.inl (10, fs4)) ∧ fs4[0]? = some (.ref v5) ∧ (∃ mc8 ms8, 0 + mc3 + mc8 ≤ mc ∧ 0 + ms3 + ms8 ≤ ms ∧ kz_C G (d + 8) mc8 ms8 mX6_read [.ref v5, .int p2, .int p3] M1 (fun v M6 => ∃ r7 : Option Nat, v = some (kz_rf r7) ∧ ((r7 = none → Qr (some (.int 0)) M6) ∧ (∀ y9, r7 = some y9 → ∃ fs10 v11, (M6).1 a0 = some (.inl (10, fs10)) ∧ fs10[2]? = some (.ref v11) ∧ (∃ fs12 v13, (M6).1 v11 = some (.inl (8, fs12)) ∧ fs12[4]? = some (.ref v13) ∧ (∃ fs14 v15, (M6).1 a0 = some (.inl (10, fs14)) ∧ fs14[2]? = some (.ref v15) ∧ (∃ fs16 v17, (M6).1 v15 = some (.inl (8, fs16)) ∧ fs16[3]? = some (.int v17) ∧ ((∃ fs31, (M6).1 a0 = some (.inl (10, fs31))) ∧ ∃ mc20 ms20, 0 + mc3 + mc8 + mc20 ≤ mc ∧ 0 + ms3 + ms8 + ms20 ≤ ms ∧ kz_C G (d + 8) mc20 ms20 mX11_judged [.ref a0, .ref y9, .int p1, .ref v13, .int v17] M6 (fun v M18 => ∃ r19 : Nat, v = some (.ref r19) ∧ ((∃ fs30, (M18).1 r19 = some (.inl (9, fs30))) ∧ kz_C G (d + 8) 0 0 mX10_payOfCounting [.ref r19] M18 (fun v M21 => ∃ r22 : Int32, v = some (.int r22) ∧ (∃ fs24 v25, (M21).1 a0 = some (.inl (10, fs24)) ∧ fs24[2]? = some (.ref v25) ∧ ((∃ fs29, (M21).1 v25 = some (.inl (8, fs29))) ∧ kz_C G (d + 8) 0 0 mX9_finesFor [.ref v25, .ref r19] M21 (fun v M26 => ∃ r27 : Int32, v = some (.int r27) ∧ (Qr (some (.int (r22 - r27))) M26)) Qx))) Qx)) Qx))))))) Qx))) Qx) : kz_C G (d + 9) mc ms mX11_wouldPay [.ref a0, .int p1, .int p2, .int p3] M Qr Qx := by
  refine kz_enter (n := 3) kmX11_wouldPay.1 (Nat.le_of_ble_eq_true rfl) (ls := [(0, .ref a0), (1, .int p1), (2, .int p2), (3, .int p3)]) rfl ?_
  refine kz_aload_n (pc := 0) 0 (v := .ref a0) (i := 0) rfl rfl rfl dX11_wouldPay_0 ?_
  refine kz_iload_n (pc := 1) 1 (i := 1) rfl rfl dX11_wouldPay_1 ?_
  refine kz_iload_n (pc := 2) 2 (i := 2) rfl rfl dX11_wouldPay_2 ?_
  refine kz_iload_n (pc := 3) 3 (i := 3) rfl rfl dX11_wouldPay_3 ?_
  obtain ⟨⟨fs33, he⟩, h⟩ := h
  obtain ⟨mc3, ms3, hc3, hs3, h⟩ := h
  refine kz_callV (pc := 4) (μ' := mX11_checkSubmission) (ci := 10) (q := (RX11, TX11, 10)) (b := a0) (d' := d + 8) (mc' := mc3) (ms' := ms3) (As := [.int p1, .int p2, .int p3]) (st := []) (c := 0) (sl := 0) kmX11_checkSubmission kw_974 (by omega) rfl (Nat.le_of_ble_eq_true rfl) he rfl rfl hc3 hs3 dX11_wouldPay_4 (fun E M9 hx => kz_Tout rfl hc3 hs3 hx) (kz_Cmono (fun v M1 h => ?_) (fun _ _ h => h) h)
  obtain ⟨rfl, h⟩ := h
  show kz_Z G (d + 9) mc ms mX11_wouldPay Qr Qx 7 [(0, .ref a0), (1, .int p1), (2, .int p2), (3, .int p3)] [] M1 (0 + mc3) (0 + ms3)
  refine kz_aload_n (pc := 7) 0 (v := .ref a0) (i := 0) rfl rfl rfl dX11_wouldPay_7 ?_
  obtain ⟨fs4, v5, hM, hv, h⟩ := h
  refine kz_getf (pc := 8) (k := 0) kcX11 hM hv (by decide) kw_275 dX11_wouldPay_8 ?_
  refine kz_iload_n (pc := 11) 2 (i := 2) rfl rfl dX11_wouldPay_11 ?_
  refine kz_iload_n (pc := 12) 3 (i := 3) rfl rfl dX11_wouldPay_12 ?_
  obtain ⟨mc8, ms8, hc8, hs8, h⟩ := h
  refine kz_callS (pc := 13) (μ' := mX6_read) (d' := d + 8) (mc' := mc8) (ms' := ms8) (As := [.ref v5, .int p2, .int p3]) (st := []) (c := 0 + mc3) (sl := 0 + ms3) kmX6_read kw_980 (by omega) rfl (Nat.le_of_ble_eq_true rfl) hc8 hs8 dX11_wouldPay_13 (fun E M9 hx => kz_Tout rfl hc8 hs8 hx) (kz_Cmono (fun v M6 h => ?_) (fun _ _ h => h) h)
  obtain ⟨r7, rfl, h⟩ := h
  show kz_Z G (d + 9) mc ms mX11_wouldPay Qr Qx 16 [(0, .ref a0), (1, .int p1), (2, .int p2), (3, .int p3)] [kz_rf r7] M6 (0 + mc3 + mc8) (0 + ms3 + ms8)
  refine kz_astore (pc := 16) (i := 4) (v := kz_rf r7) (ls' := [(0, .ref a0), (1, .int p1), (2, .int p2), (3, .int p3)]) (kz_isr_rf _) (by decide) rfl dX11_wouldPay_16 ?_
  refine kz_aload (pc := 18) 0 (v := kz_rf r7) (i := 4) rfl (kz_isr_rf _) dX11_wouldPay_18 ?_
  rcases r7 with _ | y9
  · replace h := h.1 rfl
    refine kz_ifnonnull (pc := 20) (tgt := 25) rfl (by decide) dX11_wouldPay_20 (fun hn => absurd rfl hn) (fun _ => ?_)
    refine kz_iconst (pc := 23) (v := 0) (by decide) dX11_wouldPay_23 ?_
    exact kz_iret (pc := 24) rfl hc8 hs8 dX11_wouldPay_24 h
  · replace h := h.2 y9 rfl
    refine kz_ifnonnull (pc := 20) (tgt := 25) rfl (by decide) dX11_wouldPay_20 (fun _ => ?_) (fun hn => by cases hn)
    refine kz_aload_n (pc := 25) 1 (v := .ref a0) (i := 0) rfl rfl rfl dX11_wouldPay_25 ?_
    refine kz_aload (pc := 26) 0 (v := .ref y9) (i := 4) rfl rfl dX11_wouldPay_26 ?_
    refine kz_iload_n (pc := 28) 2 (i := 1) rfl rfl dX11_wouldPay_28 ?_
    refine kz_aload_n (pc := 29) 1 (v := .ref a0) (i := 0) rfl rfl rfl dX11_wouldPay_29 ?_
    obtain ⟨fs10, v11, hM, hv, h⟩ := h
    refine kz_getf (pc := 30) (k := 2) kcX11 hM hv (by decide) kw_277 dX11_wouldPay_30 ?_
    obtain ⟨fs12, v13, hM, hv, h⟩ := h
    refine kz_getf (pc := 33) (k := 4) kcX9 hM hv (by decide) kw_112 dX11_wouldPay_33 ?_
    refine kz_aload_n (pc := 36) 1 (v := .ref a0) (i := 0) rfl rfl rfl dX11_wouldPay_36 ?_
    obtain ⟨fs14, v15, hM, hv, h⟩ := h
    refine kz_getf (pc := 37) (k := 2) kcX11 hM hv (by decide) kw_277 dX11_wouldPay_37 ?_
    obtain ⟨fs16, v17, hM, hv, h⟩ := h
    refine kz_getf (pc := 40) (k := 3) kcX9 hM hv (by decide) kw_109 dX11_wouldPay_40 ?_
    obtain ⟨⟨fs31, he⟩, h⟩ := h
    obtain ⟨mc20, ms20, hc20, hs20, h⟩ := h
    refine kz_callV (pc := 43) (μ' := mX11_judged) (ci := 10) (q := (RX11, TX11, 10)) (b := a0) (d' := d + 8) (mc' := mc20) (ms' := ms20) (As := [.ref y9, .int p1, .ref v13, .int v17]) (st := []) (c := 0 + mc3 + mc8) (sl := 0 + ms3 + ms8) kmX11_judged kw_1011 (by omega) rfl (Nat.le_of_ble_eq_true rfl) he rfl rfl hc20 hs20 dX11_wouldPay_43 (fun E M9 hx => kz_Tout rfl hc20 hs20 hx) (kz_Cmono (fun v M18 h => ?_) (fun _ _ h => h) h)
    obtain ⟨r19, rfl, h⟩ := h
    show kz_Z G (d + 9) mc ms mX11_wouldPay Qr Qx 46 [(4, .ref y9), (0, .ref a0), (1, .int p1), (2, .int p2), (3, .int p3)] [.ref r19] M18 (0 + mc3 + mc8 + mc20) (0 + ms3 + ms8 + ms20)
    refine kz_astore (pc := 46) (i := 5) (v := .ref r19) (ls' := [(4, .ref y9), (0, .ref a0), (1, .int p1), (2, .int p2), (3, .int p3)]) rfl (by decide) rfl dX11_wouldPay_46 ?_
    refine kz_aload (pc := 48) 0 (v := .ref r19) (i := 5) rfl rfl dX11_wouldPay_48 ?_
    obtain ⟨⟨fs30, he⟩, h⟩ := h
    refine kz_callV (pc := 50) (μ' := mX10_payOfCounting) (ci := 9) (q := (RX10, TX10, 4)) (b := r19) (d' := d + 8) (mc' := 0) (ms' := 0) (As := []) (st := []) (c := 0 + mc3 + mc8 + mc20) (sl := 0 + ms3 + ms8 + ms20) kmX10_payOfCounting kw_752 (by omega) rfl (Nat.le_of_ble_eq_true rfl) he rfl rfl hc20 hs20 dX11_wouldPay_50 (fun E M9 hx => kz_Tout rfl hc20 hs20 hx) (kz_Cmono (fun v M21 h => ?_) (fun _ _ h => h) h)
    obtain ⟨r22, rfl, h⟩ := h
    show kz_Z G (d + 9) mc ms mX11_wouldPay Qr Qx 53 [(5, .ref r19), (4, .ref y9), (0, .ref a0), (1, .int p1), (2, .int p2), (3, .int p3)] [.int r22] M21 (0 + mc3 + mc8 + mc20) (0 + ms3 + ms8 + ms20)
    refine kz_aload_n (pc := 53) 2 (v := .ref a0) (i := 0) rfl rfl rfl dX11_wouldPay_53 ?_
    obtain ⟨fs24, v25, hM, hv, h⟩ := h
    refine kz_getf (pc := 54) (k := 2) kcX11 hM hv (by decide) kw_277 dX11_wouldPay_54 ?_
    refine kz_aload (pc := 57) 0 (v := .ref r19) (i := 5) rfl rfl dX11_wouldPay_57 ?_
    obtain ⟨⟨fs29, he⟩, h⟩ := h
    refine kz_callV (pc := 59) (μ' := mX9_finesFor) (ci := 8) (q := (RX9, TX9, 10)) (b := v25) (d' := d + 8) (mc' := 0) (ms' := 0) (As := [.ref r19]) (st := [.int r22]) (c := 0 + mc3 + mc8 + mc20) (sl := 0 + ms3 + ms8 + ms20) kmX9_finesFor kw_1120 (by omega) rfl (Nat.le_of_ble_eq_true rfl) he rfl rfl hc20 hs20 dX11_wouldPay_59 (fun E M9 hx => kz_Tout rfl hc20 hs20 hx) (kz_Cmono (fun v M26 h => ?_) (fun _ _ h => h) h)
    obtain ⟨r27, rfl, h⟩ := h
    show kz_Z G (d + 9) mc ms mX11_wouldPay Qr Qx 62 [(5, .ref r19), (4, .ref y9), (0, .ref a0), (1, .int p1), (2, .int p2), (3, .int p3)] [.int r27, .int r22] M26 (0 + mc3 + mc8 + mc20) (0 + ms3 + ms8 + ms20)
    refine kz_isub (pc := 62) dX11_wouldPay_62 ?_
    exact kz_iret (pc := 63) rfl hc20 hs20 dX11_wouldPay_63 h
theorem dX11_countsIf_0 : decode cX11_countsIf 0 = .ok (.aload_n 0, 1) := by decide +kernel
theorem dX11_countsIf_1 : decode cX11_countsIf 1 = .ok (.iload_n 1, 1) := by decide +kernel
theorem dX11_countsIf_2 : decode cX11_countsIf 2 = .ok (.invokevirtual 165, 3) := by decide +kernel
theorem dX11_countsIf_5 : decode cX11_countsIf 5 = .ok (.astore 4, 2) := by decide +kernel
theorem dX11_countsIf_7 : decode cX11_countsIf 7 = .ok (.aload_n 0, 1) := by decide +kernel
theorem dX11_countsIf_8 : decode cX11_countsIf 8 = .ok (.iload_n 2, 1) := by decide +kernel
theorem dX11_countsIf_9 : decode cX11_countsIf 9 = .ok (.iload_n 3, 1) := by decide +kernel
theorem dX11_countsIf_10 : decode cX11_countsIf 10 = .ok (.invokevirtual 289, 3) := by decide +kernel
theorem dX11_countsIf_13 : decode cX11_countsIf 13 = .ok (.aload_n 0, 1) := by decide +kernel
theorem dX11_countsIf_14 : decode cX11_countsIf 14 = .ok (.getfield 26, 3) := by decide +kernel
theorem dX11_countsIf_17 : decode cX11_countsIf 17 = .ok (.getfield 319, 3) := by decide +kernel
theorem dX11_countsIf_20 : decode cX11_countsIf 20 = .ok (.invokevirtual 330, 3) := by decide +kernel
theorem dX11_countsIf_23 : decode cX11_countsIf 23 = .ok (.checkcast 331, 3) := by decide +kernel
theorem dX11_countsIf_26 : decode cX11_countsIf 26 = .ok (.astore 5, 2) := by decide +kernel
theorem dX11_countsIf_28 : decode cX11_countsIf 28 = .ok (.aload 5, 2) := by decide +kernel
theorem dX11_countsIf_30 : decode cX11_countsIf 30 = .ok (.iload_n 2, 1) := by decide +kernel
theorem dX11_countsIf_31 : decode cX11_countsIf 31 = .ok (.iload_n 3, 1) := by decide +kernel
theorem dX11_countsIf_32 : decode cX11_countsIf 32 = .ok (.invokestatic 335, 3) := by decide +kernel
theorem dX11_countsIf_35 : decode cX11_countsIf 35 = .ok (.aload_n 0, 1) := by decide +kernel
theorem dX11_countsIf_36 : decode cX11_countsIf 36 = .ok (.aload 4, 2) := by decide +kernel
theorem dX11_countsIf_38 : decode cX11_countsIf 38 = .ok (.getfield 174, 3) := by decide +kernel
theorem dX11_countsIf_41 : decode cX11_countsIf 41 = .ok (.aload 4, 2) := by decide +kernel
theorem dX11_countsIf_43 : decode cX11_countsIf 43 = .ok (.getfield 169, 3) := by decide +kernel
theorem dX11_countsIf_46 : decode cX11_countsIf 46 = .ok (.aload 5, 2) := by decide +kernel
theorem dX11_countsIf_48 : decode cX11_countsIf 48 = .ok (.iload_n 1, 1) := by decide +kernel
theorem dX11_countsIf_49 : decode cX11_countsIf 49 = .ok (.invokevirtual 323, 3) := by decide +kernel
theorem dX11_countsIf_52 : decode cX11_countsIf 52 = .ok (.iconst 1, 1) := by decide +kernel
theorem dX11_countsIf_53 : decode cX11_countsIf 53 = .ok (.invokevirtual 187, 3) := by decide +kernel
theorem dX11_countsIf_56 : decode cX11_countsIf 56 = .ok (.ireturn, 1) := by decide +kernel
theorem rX11_countsIf_0 {G : kz_G} {d : Nat} {mc ms : Nat} {Qr : Option Value → kz_M → Prop} {Qx : String → kz_M → Prop} {a0 : Nat} {p1 : Int32} {p2 : Int32} {p3 : Int32}  {M : kz_M} (h : (∃ fs32, (M).1 a0 = some (.inl (10, fs32))) ∧ ∃ mc3 ms3, 0 + mc3 ≤ mc ∧ 0 + ms3 ≤ ms ∧ kz_C G (d + 7) mc3 ms3 mX11_workOrThrow [.ref a0, .int p1] M (fun v M1 => ∃ r2 : Nat, v = some (.ref r2) ∧ ((∃ fs31, (M1).1 a0 = some (.inl (10, fs31))) ∧ ∃ mc6 ms6, 0 + mc3 + mc6 ≤ mc ∧ 0 + ms3 + ms6 ≤ ms ∧ kz_C G (d + 7) mc6 ms6 mX11_checkValue [.ref a0, .int p2, .int p3] M1 (fun v M4 => v = none ∧ (∃ fs7 v8, (M4).1 a0 = some (.inl (10, fs7)) ∧ fs7[2]? = some (.ref v8) ∧ (∃ fs9 v10, (M4).1 v8 = some (.inl (8, fs9)) ∧ fs9[4]? = some (.ref v10) ∧ (∃ n11 f12, (M4).1 v10 = some (.inr (.int, n11, .inl f12)) ∧ 0 + mc3 + mc6 + 1 ≤ mc ∧ 0 + ms3 + ms6 + n11 ≤ ms ∧ (∃ x14, ((kz_nw M4 (.inr (.int, n11, .inl f12)))).1 ((M4).2) = some (.inr (.int, x14)) ∧ (kz_C G (d + 7) 0 0 mX11_put [.ref ((M4).2), .int p2, .int p3] (kz_nw M4 (.inr (.int, n11, .inl f12))) (fun v M15 => v = none ∧ (∃ fs18 v19, (M15).1 r2 = some (.inl (9, fs18)) ∧ fs18[2]? = some (.ref v19) ∧ (∃ fs20 v21, (M15).1 r2 = some (.inl (9, fs20)) ∧ fs20[0]? = some (.int v21) ∧ ((∃ fs29, (M15).1 a0 = some (.inl (10, fs29))) ∧ ∃ mc24 ms24, 0 + mc3 + mc6 + 1 + mc24 ≤ mc ∧ 0 + ms3 + ms6 + n11 + ms24 ≤ ms ∧ kz_C G (d + 7) mc24 ms24 mX11_judged [.ref a0, .ref v19, .int v21, .ref ((M4).2), .int p1] M15 (fun v M22 => ∃ r23 : Nat, v = some (.ref r23) ∧ ((∃ fs28, (M22).1 r23 = some (.inl (9, fs28))) ∧ kz_C G (d + 7) 0 0 mX10_linesOf [.ref r23, .int 1] M22 (fun v M25 => ∃ r26 : Int32, v = some (.int r26) ∧ (Qr (some (.int r26)) M25)) Qx)) Qx)))) Qx)))))) Qx)) Qx) : kz_C G (d + 8) mc ms mX11_countsIf [.ref a0, .int p1, .int p2, .int p3] M Qr Qx := by
  refine kz_enter (n := 3) kmX11_countsIf.1 (Nat.le_of_ble_eq_true rfl) (ls := [(0, .ref a0), (1, .int p1), (2, .int p2), (3, .int p3)]) rfl ?_
  refine kz_aload_n (pc := 0) 0 (v := .ref a0) (i := 0) rfl rfl rfl dX11_countsIf_0 ?_
  refine kz_iload_n (pc := 1) 1 (i := 1) rfl rfl dX11_countsIf_1 ?_
  obtain ⟨⟨fs32, he⟩, h⟩ := h
  obtain ⟨mc3, ms3, hc3, hs3, h⟩ := h
  refine kz_callV (pc := 2) (μ' := mX11_workOrThrow) (ci := 10) (q := (RX11, TX11, 10)) (b := a0) (d' := d + 7) (mc' := mc3) (ms' := ms3) (As := [.int p1]) (st := []) (c := 0) (sl := 0) kmX11_workOrThrow kw_744 (by omega) rfl (Nat.le_of_ble_eq_true rfl) he rfl rfl hc3 hs3 dX11_countsIf_2 (fun E M9 hx => kz_Tout rfl hc3 hs3 hx) (kz_Cmono (fun v M1 h => ?_) (fun _ _ h => h) h)
  obtain ⟨r2, rfl, h⟩ := h
  show kz_Z G (d + 8) mc ms mX11_countsIf Qr Qx 5 [(0, .ref a0), (1, .int p1), (2, .int p2), (3, .int p3)] [.ref r2] M1 (0 + mc3) (0 + ms3)
  refine kz_astore (pc := 5) (i := 4) (v := .ref r2) (ls' := [(0, .ref a0), (1, .int p1), (2, .int p2), (3, .int p3)]) rfl (by decide) rfl dX11_countsIf_5 ?_
  refine kz_aload_n (pc := 7) 1 (v := .ref a0) (i := 0) rfl rfl rfl dX11_countsIf_7 ?_
  refine kz_iload_n (pc := 8) 3 (i := 2) rfl rfl dX11_countsIf_8 ?_
  refine kz_iload_n (pc := 9) 4 (i := 3) rfl rfl dX11_countsIf_9 ?_
  obtain ⟨⟨fs31, he⟩, h⟩ := h
  obtain ⟨mc6, ms6, hc6, hs6, h⟩ := h
  refine kz_callV (pc := 10) (μ' := mX11_checkValue) (ci := 10) (q := (RX11, TX11, 10)) (b := a0) (d' := d + 7) (mc' := mc6) (ms' := ms6) (As := [.int p2, .int p3]) (st := []) (c := 0 + mc3) (sl := 0 + ms3) kmX11_checkValue kw_913 (by omega) rfl (Nat.le_of_ble_eq_true rfl) he rfl rfl hc6 hs6 dX11_countsIf_10 (fun E M9 hx => kz_Tout rfl hc6 hs6 hx) (kz_Cmono (fun v M4 h => ?_) (fun _ _ h => h) h)
  obtain ⟨rfl, h⟩ := h
  show kz_Z G (d + 8) mc ms mX11_countsIf Qr Qx 13 [(4, .ref r2), (0, .ref a0), (1, .int p1), (2, .int p2), (3, .int p3)] [] M4 (0 + mc3 + mc6) (0 + ms3 + ms6)
  refine kz_aload_n (pc := 13) 1 (v := .ref a0) (i := 0) rfl rfl rfl dX11_countsIf_13 ?_
  obtain ⟨fs7, v8, hM, hv, h⟩ := h
  refine kz_getf (pc := 14) (k := 2) kcX11 hM hv (by decide) kw_277 dX11_countsIf_14 ?_
  obtain ⟨fs9, v10, hM, hv, h⟩ := h
  refine kz_getf (pc := 17) (k := 4) kcX9 hM hv (by decide) kw_112 dX11_countsIf_17 ?_
  obtain ⟨n11, f12, hM, hc13, hs13, h⟩ := h
  refine kz_clone (pc := 20) (ad := "[I") (ty := .int) ⟨kw_1132, kw_1133, kw_1134, kw_1135, kw_1136, kw_1137⟩ (by decide) hM (kz_fitI _ _ _) (kz_fitIs _ _ _) (by omega) (Nat.le_of_ble_eq_true rfl) hc13 hs13 dX11_countsIf_20 ?_
  obtain ⟨x14, hM, h⟩ := h
  refine kz_castA (pc := 23) (ty := .int) kw_1138 (by decide) hM dX11_countsIf_23 ?_
  refine kz_astore (pc := 26) (i := 5) (v := .ref ((M4).2)) (ls' := [(4, .ref r2), (0, .ref a0), (1, .int p1), (2, .int p2), (3, .int p3)]) rfl (by decide) rfl dX11_countsIf_26 ?_
  refine kz_aload (pc := 28) 0 (v := .ref ((M4).2)) (i := 5) rfl rfl dX11_countsIf_28 ?_
  refine kz_iload_n (pc := 30) 4 (i := 2) rfl rfl dX11_countsIf_30 ?_
  refine kz_iload_n (pc := 31) 5 (i := 3) rfl rfl dX11_countsIf_31 ?_
  refine kz_callS (pc := 32) (μ' := mX11_put) (d' := d + 7) (mc' := 0) (ms' := 0) (As := [.ref ((M4).2), .int p2, .int p3]) (st := []) (c := 0 + mc3 + mc6 + 1) (sl := 0 + ms3 + ms6 + n11) kmX11_put kw_1139 (by omega) rfl (Nat.le_of_ble_eq_true rfl) hc13 hs13 dX11_countsIf_32 (fun E M9 hx => kz_Tout rfl hc13 hs13 hx) (kz_Cmono (fun v M15 h => ?_) (fun _ _ h => h) h)
  obtain ⟨rfl, h⟩ := h
  show kz_Z G (d + 8) mc ms mX11_countsIf Qr Qx 35 [(5, .ref ((M4).2)), (4, .ref r2), (0, .ref a0), (1, .int p1), (2, .int p2), (3, .int p3)] [] M15 (0 + mc3 + mc6 + 1) (0 + ms3 + ms6 + n11)
  refine kz_aload_n (pc := 35) 2 (v := .ref a0) (i := 0) rfl rfl rfl dX11_countsIf_35 ?_
  refine kz_aload (pc := 36) 1 (v := .ref r2) (i := 4) rfl rfl dX11_countsIf_36 ?_
  obtain ⟨fs18, v19, hM, hv, h⟩ := h
  refine kz_getf (pc := 38) (k := 2) kcX10 hM hv (by decide) kw_1076 dX11_countsIf_38 ?_
  refine kz_aload (pc := 41) 1 (v := .ref r2) (i := 4) rfl rfl dX11_countsIf_41 ?_
  obtain ⟨fs20, v21, hM, hv, h⟩ := h
  refine kz_getf (pc := 43) (k := 0) kcX10 hM hv (by decide) kw_1070 dX11_countsIf_43 ?_
  refine kz_aload (pc := 46) 0 (v := .ref ((M4).2)) (i := 5) rfl rfl dX11_countsIf_46 ?_
  refine kz_iload_n (pc := 48) 3 (i := 1) rfl rfl dX11_countsIf_48 ?_
  obtain ⟨⟨fs29, he⟩, h⟩ := h
  obtain ⟨mc24, ms24, hc24, hs24, h⟩ := h
  refine kz_callV (pc := 49) (μ' := mX11_judged) (ci := 10) (q := (RX11, TX11, 10)) (b := a0) (d' := d + 7) (mc' := mc24) (ms' := ms24) (As := [.ref v19, .int v21, .ref ((M4).2), .int p1]) (st := []) (c := 0 + mc3 + mc6 + 1) (sl := 0 + ms3 + ms6 + n11) kmX11_judged kw_1011 (by omega) rfl (Nat.le_of_ble_eq_true rfl) he rfl rfl hc24 hs24 dX11_countsIf_49 (fun E M9 hx => kz_Tout rfl hc24 hs24 hx) (kz_Cmono (fun v M22 h => ?_) (fun _ _ h => h) h)
  obtain ⟨r23, rfl, h⟩ := h
  show kz_Z G (d + 8) mc ms mX11_countsIf Qr Qx 52 [(5, .ref ((M4).2)), (4, .ref r2), (0, .ref a0), (1, .int p1), (2, .int p2), (3, .int p3)] [.ref r23] M22 (0 + mc3 + mc6 + 1 + mc24) (0 + ms3 + ms6 + n11 + ms24)
  refine kz_iconst (pc := 52) (v := 1) (by decide) dX11_countsIf_52 ?_
  obtain ⟨⟨fs28, he⟩, h⟩ := h
  refine kz_callV (pc := 53) (μ' := mX10_linesOf) (ci := 9) (q := (RX10, TX10, 4)) (b := r23) (d' := d + 7) (mc' := 0) (ms' := 0) (As := [.int 1]) (st := []) (c := 0 + mc3 + mc6 + 1 + mc24) (sl := 0 + ms3 + ms6 + n11 + ms24) kmX10_linesOf kw_751 (by omega) rfl (Nat.le_of_ble_eq_true rfl) he rfl rfl hc24 hs24 dX11_countsIf_53 (fun E M9 hx => kz_Tout rfl hc24 hs24 hx) (kz_Cmono (fun v M25 h => ?_) (fun _ _ h => h) h)
  obtain ⟨r26, rfl, h⟩ := h
  show kz_Z G (d + 8) mc ms mX11_countsIf Qr Qx 56 [(5, .ref ((M4).2)), (4, .ref r2), (0, .ref a0), (1, .int p1), (2, .int p2), (3, .int p3)] [.int r26] M25 (0 + mc3 + mc6 + 1 + mc24) (0 + ms3 + ms6 + n11 + ms24)
  exact kz_iret (pc := 56) rfl hc24 hs24 dX11_countsIf_56 h
theorem dX11_whyNot_0 : decode cX11_whyNot 0 = .ok (.aload_n 0, 1) := by decide +kernel
theorem dX11_whyNot_1 : decode cX11_whyNot 1 = .ok (.getfield 26, 3) := by decide +kernel
theorem dX11_whyNot_4 : decode cX11_whyNot 4 = .ok (.aload_n 0, 1) := by decide +kernel
theorem dX11_whyNot_5 : decode cX11_whyNot 5 = .ok (.iload_n 1, 1) := by decide +kernel
theorem dX11_whyNot_6 : decode cX11_whyNot 6 = .ok (.invokevirtual 165, 3) := by decide +kernel
theorem dX11_whyNot_9 : decode cX11_whyNot 9 = .ok (.aload_n 0, 1) := by decide +kernel
theorem dX11_whyNot_10 : decode cX11_whyNot 10 = .ok (.iload_n 1, 1) := by decide +kernel
theorem dX11_whyNot_11 : decode cX11_whyNot 11 = .ok (.iload_n 2, 1) := by decide +kernel
theorem dX11_whyNot_12 : decode cX11_whyNot 12 = .ok (.invokevirtual 197, 3) := by decide +kernel
theorem dX11_whyNot_15 : decode cX11_whyNot 15 = .ok (.invokevirtual 339, 3) := by decide +kernel
theorem dX11_whyNot_18 : decode cX11_whyNot 18 = .ok (.ireturn, 1) := by decide +kernel
theorem rX11_whyNot_0 {G : kz_G} {d : Nat} {mc ms : Nat} {Qr : Option Value → kz_M → Prop} {Qx : String → kz_M → Prop} {a0 : Nat} {p1 : Int32} {p2 : Int32}  {M : kz_M} (h : ∃ fs1 v2, (M).1 a0 = some (.inl (10, fs1)) ∧ fs1[2]? = some (.ref v2) ∧ ((∃ fs14, (M).1 a0 = some (.inl (10, fs14))) ∧ ∃ mc5 ms5, 0 + mc5 ≤ mc ∧ 0 + ms5 ≤ ms ∧ kz_C G (d + 8) mc5 ms5 mX11_workOrThrow [.ref a0, .int p1] M (fun v M3 => ∃ r4 : Nat, v = some (.ref r4) ∧ ((∃ fs13, (M3).1 a0 = some (.inl (10, fs13))) ∧ ∃ mc8 ms8, 0 + mc5 + mc8 ≤ mc ∧ 0 + ms5 + ms8 ≤ ms ∧ kz_C G (d + 8) mc8 ms8 mX11_lineOrThrow [.ref a0, .int p1, .int p2] M3 (fun v M6 => ∃ r7 : Nat, v = some (.ref r7) ∧ ((∃ fs12, (M6).1 v2 = some (.inl (8, fs12))) ∧ kz_C G (d + 8) 0 0 mX9_objectionTo [.ref v2, .ref r4, .ref r7] M6 (fun v M9 => ∃ r10 : Int32, v = some (.int r10) ∧ (Qr (some (.int r10)) M9)) Qx)) Qx)) Qx)) : kz_C G (d + 9) mc ms mX11_whyNot [.ref a0, .int p1, .int p2] M Qr Qx := by
  refine kz_enter (n := 2) kmX11_whyNot.1 (Nat.le_of_ble_eq_true rfl) (ls := [(0, .ref a0), (1, .int p1), (2, .int p2)]) rfl ?_
  refine kz_aload_n (pc := 0) 0 (v := .ref a0) (i := 0) rfl rfl rfl dX11_whyNot_0 ?_
  obtain ⟨fs1, v2, hM, hv, h⟩ := h
  refine kz_getf (pc := 1) (k := 2) kcX11 hM hv (by decide) kw_277 dX11_whyNot_1 ?_
  refine kz_aload_n (pc := 4) 0 (v := .ref a0) (i := 0) rfl rfl rfl dX11_whyNot_4 ?_
  refine kz_iload_n (pc := 5) 1 (i := 1) rfl rfl dX11_whyNot_5 ?_
  obtain ⟨⟨fs14, he⟩, h⟩ := h
  obtain ⟨mc5, ms5, hc5, hs5, h⟩ := h
  refine kz_callV (pc := 6) (μ' := mX11_workOrThrow) (ci := 10) (q := (RX11, TX11, 10)) (b := a0) (d' := d + 8) (mc' := mc5) (ms' := ms5) (As := [.int p1]) (st := [.ref v2]) (c := 0) (sl := 0) kmX11_workOrThrow kw_744 (by omega) rfl (Nat.le_of_ble_eq_true rfl) he rfl rfl hc5 hs5 dX11_whyNot_6 (fun E M9 hx => kz_Tout rfl hc5 hs5 hx) (kz_Cmono (fun v M3 h => ?_) (fun _ _ h => h) h)
  obtain ⟨r4, rfl, h⟩ := h
  show kz_Z G (d + 9) mc ms mX11_whyNot Qr Qx 9 [(0, .ref a0), (1, .int p1), (2, .int p2)] [.ref r4, .ref v2] M3 (0 + mc5) (0 + ms5)
  refine kz_aload_n (pc := 9) 0 (v := .ref a0) (i := 0) rfl rfl rfl dX11_whyNot_9 ?_
  refine kz_iload_n (pc := 10) 1 (i := 1) rfl rfl dX11_whyNot_10 ?_
  refine kz_iload_n (pc := 11) 2 (i := 2) rfl rfl dX11_whyNot_11 ?_
  obtain ⟨⟨fs13, he⟩, h⟩ := h
  obtain ⟨mc8, ms8, hc8, hs8, h⟩ := h
  refine kz_callV (pc := 12) (μ' := mX11_lineOrThrow) (ci := 10) (q := (RX11, TX11, 10)) (b := a0) (d' := d + 8) (mc' := mc8) (ms' := ms8) (As := [.int p1, .int p2]) (st := [.ref r4, .ref v2]) (c := 0 + mc5) (sl := 0 + ms5) kmX11_lineOrThrow kw_770 (by omega) rfl (Nat.le_of_ble_eq_true rfl) he rfl rfl hc8 hs8 dX11_whyNot_12 (fun E M9 hx => kz_Tout rfl hc8 hs8 hx) (kz_Cmono (fun v M6 h => ?_) (fun _ _ h => h) h)
  obtain ⟨r7, rfl, h⟩ := h
  show kz_Z G (d + 9) mc ms mX11_whyNot Qr Qx 15 [(0, .ref a0), (1, .int p1), (2, .int p2)] [.ref r7, .ref r4, .ref v2] M6 (0 + mc5 + mc8) (0 + ms5 + ms8)
  obtain ⟨⟨fs12, he⟩, h⟩ := h
  refine kz_callV (pc := 15) (μ' := mX9_objectionTo) (ci := 8) (q := (RX9, TX9, 10)) (b := v2) (d' := d + 8) (mc' := 0) (ms' := 0) (As := [.ref r4, .ref r7]) (st := []) (c := 0 + mc5 + mc8) (sl := 0 + ms5 + ms8) kmX9_objectionTo kw_1147 (by omega) rfl (Nat.le_of_ble_eq_true rfl) he rfl rfl hc8 hs8 dX11_whyNot_15 (fun E M9 hx => kz_Tout rfl hc8 hs8 hx) (kz_Cmono (fun v M9 h => ?_) (fun _ _ h => h) h)
  obtain ⟨r10, rfl, h⟩ := h
  show kz_Z G (d + 9) mc ms mX11_whyNot Qr Qx 18 [(0, .ref a0), (1, .int p1), (2, .int p2)] [.int r10] M9 (0 + mc5 + mc8) (0 + ms5 + ms8)
  exact kz_iret (pc := 18) rfl hc8 hs8 dX11_whyNot_18 h
theorem dX11_hopes_0 : decode cX11_hopes 0 = .ok (.aload_n 0, 1) := by decide +kernel
theorem dX11_hopes_1 : decode cX11_hopes 1 = .ok (.iload_n 1, 1) := by decide +kernel
theorem dX11_hopes_2 : decode cX11_hopes 2 = .ok (.invokevirtual 148, 3) := by decide +kernel
theorem dX11_hopes_5 : decode cX11_hopes 5 = .ok (.aload_n 0, 1) := by decide +kernel
theorem dX11_hopes_6 : decode cX11_hopes 6 = .ok (.getfield 26, 3) := by decide +kernel
theorem dX11_hopes_9 : decode cX11_hopes 9 = .ok (.iload_n 1, 1) := by decide +kernel
theorem dX11_hopes_10 : decode cX11_hopes 10 = .ok (.invokevirtual 343, 3) := by decide +kernel
theorem dX11_hopes_13 : decode cX11_hopes 13 = .ok (.ifCond .eq 5, 3) := by decide +kernel
theorem dX11_hopes_16 : decode cX11_hopes 16 = .ok (.iconst 0, 1) := by decide +kernel
theorem dX11_hopes_17 : decode cX11_hopes 17 = .ok (.ireturn, 1) := by decide +kernel
theorem dX11_hopes_18 : decode cX11_hopes 18 = .ok (.iconst 0, 1) := by decide +kernel
theorem dX11_hopes_19 : decode cX11_hopes 19 = .ok (.istore_n 2, 1) := by decide +kernel
theorem dX11_hopes_20 : decode cX11_hopes 20 = .ok (.iconst 0, 1) := by decide +kernel
theorem dX11_hopes_21 : decode cX11_hopes 21 = .ok (.istore_n 3, 1) := by decide +kernel
theorem dX11_hopes_22 : decode cX11_hopes 22 = .ok (.iload_n 3, 1) := by decide +kernel
theorem dX11_hopes_23 : decode cX11_hopes 23 = .ok (.aload_n 0, 1) := by decide +kernel
theorem dX11_hopes_24 : decode cX11_hopes 24 = .ok (.getfield 26, 3) := by decide +kernel
theorem dX11_hopes_27 : decode cX11_hopes 27 = .ok (.getfield 105, 3) := by decide +kernel
theorem dX11_hopes_30 : decode cX11_hopes 30 = .ok (.if_icmp .ge 53, 3) := by decide +kernel
theorem dX11_hopes_33 : decode cX11_hopes 33 = .ok (.aload_n 0, 1) := by decide +kernel
theorem dX11_hopes_34 : decode cX11_hopes 34 = .ok (.getfield 26, 3) := by decide +kernel
theorem dX11_hopes_37 : decode cX11_hopes 37 = .ok (.iload_n 1, 1) := by decide +kernel
theorem dX11_hopes_38 : decode cX11_hopes 38 = .ok (.iload_n 3, 1) := by decide +kernel
theorem dX11_hopes_39 : decode cX11_hopes 39 = .ok (.invokevirtual 224, 3) := by decide +kernel
theorem dX11_hopes_42 : decode cX11_hopes 42 = .ok (.astore 4, 2) := by decide +kernel
theorem dX11_hopes_44 : decode cX11_hopes 44 = .ok (.aload 4, 2) := by decide +kernel
theorem dX11_hopes_46 : decode cX11_hopes 46 = .ok (.ifnull 31, 3) := by decide +kernel
theorem dX11_hopes_49 : decode cX11_hopes 49 = .ok (.aload_n 0, 1) := by decide +kernel
theorem dX11_hopes_50 : decode cX11_hopes 50 = .ok (.getfield 26, 3) := by decide +kernel
theorem dX11_hopes_53 : decode cX11_hopes 53 = .ok (.aload 4, 2) := by decide +kernel
theorem dX11_hopes_55 : decode cX11_hopes 55 = .ok (.invokevirtual 347, 3) := by decide +kernel
theorem dX11_hopes_58 : decode cX11_hopes 58 = .ok (.ifCond .ne 19, 3) := by decide +kernel
theorem dX11_hopes_61 : decode cX11_hopes 61 = .ok (.iload_n 2, 1) := by decide +kernel
theorem dX11_hopes_62 : decode cX11_hopes 62 = .ok (.aload 4, 2) := by decide +kernel
theorem dX11_hopes_64 : decode cX11_hopes 64 = .ok (.aload_n 0, 1) := by decide +kernel
theorem dX11_hopes_65 : decode cX11_hopes 65 = .ok (.getfield 26, 3) := by decide +kernel
theorem dX11_hopes_68 : decode cX11_hopes 68 = .ok (.iconst 5, 1) := by decide +kernel
theorem dX11_hopes_69 : decode cX11_hopes 69 = .ok (.invokevirtual 144, 3) := by decide +kernel
theorem dX11_hopes_72 : decode cX11_hopes 72 = .ok (.invokevirtual 351, 3) := by decide +kernel
theorem dX11_hopes_75 : decode cX11_hopes 75 = .ok (.iadd, 1) := by decide +kernel
theorem dX11_hopes_76 : decode cX11_hopes 76 = .ok (.istore_n 2, 1) := by decide +kernel
theorem dX11_hopes_77 : decode cX11_hopes 77 = .ok (.iinc 3 1, 3) := by decide +kernel
theorem dX11_hopes_80 : decode cX11_hopes 80 = .ok (.goto (-58), 3) := by decide +kernel
theorem dX11_hopes_83 : decode cX11_hopes 83 = .ok (.iload_n 2, 1) := by decide +kernel
theorem dX11_hopes_84 : decode cX11_hopes 84 = .ok (.ireturn, 1) := by decide +kernel
def zX11_hopes_22 (G : kz_G) (d mc ms : Nat) (Qr : Option Value → kz_M → Prop) (Qx : String → kz_M → Prop) (x0 : Nat) (x1 : Int32) (x2 : Int32) (x3 : Int32)  (M : kz_M) (c sl : Nat) : Prop := kz_Z G (d + 8) mc ms mX11_hopes Qr Qx 22 [(0, .ref x0), (1, .int x1), (2, .int x2), (3, .int x3)] [] M c sl
theorem rX11_hopes_0 {G : kz_G} {d : Nat} {mc ms : Nat} {Qr : Option Value → kz_M → Prop} {Qx : String → kz_M → Prop} {a0 : Nat} {p1 : Int32}  {M : kz_M} (h : (∃ fs10, (M).1 a0 = some (.inl (10, fs10))) ∧ ∃ mc3 ms3, 0 + mc3 ≤ mc ∧ 0 + ms3 ≤ ms ∧ kz_C G (d + 7) mc3 ms3 mX11_checkWriter [.ref a0, .int p1] M (fun v M1 => v = none ∧ (∃ fs4 v5, (M1).1 a0 = some (.inl (10, fs4)) ∧ fs4[2]? = some (.ref v5) ∧ ((∃ fs9, (M1).1 v5 = some (.inl (8, fs9))) ∧ kz_C G (d + 7) 0 0 mX9_hasLostTooMany [.ref v5, .int p1] M1 (fun v M6 => ∃ r7 : Int32, v = some (.int r7) ∧ ((r7 = 0 → zX11_hopes_22 G d mc ms Qr Qx a0 p1 0 0 M6 (0 + mc3) (0 + ms3)) ∧ (¬ r7 = 0 → Qr (some (.int 0)) M6))) Qx))) Qx) : kz_C G (d + 8) mc ms mX11_hopes [.ref a0, .int p1] M Qr Qx := by
  refine kz_enter (n := 1) kmX11_hopes.1 (Nat.le_of_ble_eq_true rfl) (ls := [(0, .ref a0), (1, .int p1)]) rfl ?_
  refine kz_aload_n (pc := 0) 0 (v := .ref a0) (i := 0) rfl rfl rfl dX11_hopes_0 ?_
  refine kz_iload_n (pc := 1) 1 (i := 1) rfl rfl dX11_hopes_1 ?_
  obtain ⟨⟨fs10, he⟩, h⟩ := h
  obtain ⟨mc3, ms3, hc3, hs3, h⟩ := h
  refine kz_callV (pc := 2) (μ' := mX11_checkWriter) (ci := 10) (q := (RX11, TX11, 10)) (b := a0) (d' := d + 7) (mc' := mc3) (ms' := ms3) (As := [.int p1]) (st := []) (c := 0) (sl := 0) kmX11_checkWriter kw_641 (by omega) rfl (Nat.le_of_ble_eq_true rfl) he rfl rfl hc3 hs3 dX11_hopes_2 (fun E M9 hx => kz_Tout rfl hc3 hs3 hx) (kz_Cmono (fun v M1 h => ?_) (fun _ _ h => h) h)
  obtain ⟨rfl, h⟩ := h
  show kz_Z G (d + 8) mc ms mX11_hopes Qr Qx 5 [(0, .ref a0), (1, .int p1)] [] M1 (0 + mc3) (0 + ms3)
  refine kz_aload_n (pc := 5) 0 (v := .ref a0) (i := 0) rfl rfl rfl dX11_hopes_5 ?_
  obtain ⟨fs4, v5, hM, hv, h⟩ := h
  refine kz_getf (pc := 6) (k := 2) kcX11 hM hv (by decide) kw_277 dX11_hopes_6 ?_
  refine kz_iload_n (pc := 9) 1 (i := 1) rfl rfl dX11_hopes_9 ?_
  obtain ⟨⟨fs9, he⟩, h⟩ := h
  refine kz_callV (pc := 10) (μ' := mX9_hasLostTooMany) (ci := 8) (q := (RX9, TX9, 10)) (b := v5) (d' := d + 7) (mc' := 0) (ms' := 0) (As := [.int p1]) (st := []) (c := 0 + mc3) (sl := 0 + ms3) kmX9_hasLostTooMany kw_1167 (by omega) rfl (Nat.le_of_ble_eq_true rfl) he rfl rfl hc3 hs3 dX11_hopes_10 (fun E M9 hx => kz_Tout rfl hc3 hs3 hx) (kz_Cmono (fun v M6 h => ?_) (fun _ _ h => h) h)
  obtain ⟨r7, rfl, h⟩ := h
  show kz_Z G (d + 8) mc ms mX11_hopes Qr Qx 13 [(0, .ref a0), (1, .int p1)] [.int r7] M6 (0 + mc3) (0 + ms3)
  refine kz_if_eq (pc := 13) (tgt := 18) (by decide) dX11_hopes_13 (fun hb => ?_) (fun hb => ?_)
  · replace h := h.1 hb
    refine kz_iconst (pc := 18) (v := 0) (by decide) dX11_hopes_18 ?_
    refine kz_istore_n (pc := 19) (i := 2) (ls' := [(0, .ref a0), (1, .int p1)]) rfl (by decide) rfl dX11_hopes_19 ?_
    refine kz_iconst (pc := 20) (v := 0) (by decide) dX11_hopes_20 ?_
    refine kz_istore_n (pc := 21) (i := 3) (ls' := [(2, .int 0), (0, .ref a0), (1, .int p1)]) rfl (by decide) rfl dX11_hopes_21 ?_
    refine kz_sub [2, 3, 1, 0] rfl ?_
    exact h
  · replace h := h.2 hb
    refine kz_iconst (pc := 16) (v := 0) (by decide) dX11_hopes_16 ?_
    exact kz_iret (pc := 17) rfl hc3 hs3 dX11_hopes_17 h
theorem rX11_hopes_22 {G : kz_G} {d : Nat} {mc ms : Nat} {Qr : Option Value → kz_M → Prop} {Qx : String → kz_M → Prop} {x0 : Nat} {x1 : Int32} {x2 : Int32} {x3 : Int32}  {M : kz_M} {c sl : Nat} (hc : c ≤ mc) (hs : sl ≤ ms) (h : ∃ fs1 v2, (M).1 x0 = some (.inl (10, fs1)) ∧ fs1[2]? = some (.ref v2) ∧ (∃ fs3 v4, (M).1 v2 = some (.inl (8, fs3)) ∧ fs3[3]? = some (.int v4) ∧ ((v4 ≤ x3 → Qr (some (.int x2)) M) ∧ (¬ v4 ≤ x3 → ∃ fs5 v6, (M).1 x0 = some (.inl (10, fs5)) ∧ fs5[2]? = some (.ref v6) ∧ ((∃ fs27, (M).1 v6 = some (.inl (8, fs27))) ∧ kz_C G (d + 7) 0 0 mX9_workOf [.ref v6, .int x1, .int x3] M (fun v M7 => ∃ r8 : Option Nat, v = some (kz_rf r8) ∧ ((r8 = none → zX11_hopes_22 G d mc ms Qr Qx x0 x1 x2 (x3 + 1) M7 c sl) ∧ (∀ y10, r8 = some y10 → ∃ fs11 v12, (M7).1 x0 = some (.inl (10, fs11)) ∧ fs11[2]? = some (.ref v12) ∧ ((∃ fs26, (M7).1 v12 = some (.inl (8, fs26))) ∧ kz_C G (d + 7) 0 0 mX9_isTooLateFor [.ref v12, .ref y10] M7 (fun v M13 => ∃ r14 : Int32, v = some (.int r14) ∧ ((¬ r14 = 0 → zX11_hopes_22 G d mc ms Qr Qx x0 x1 x2 (x3 + 1) M13 c sl) ∧ (r14 = 0 → ∃ fs16 v17, (M13).1 x0 = some (.inl (10, fs16)) ∧ fs16[2]? = some (.ref v17) ∧ ((∃ fs25, (M13).1 v17 = some (.inl (8, fs25))) ∧ kz_C G (d + 7) 0 0 mX9_rule [.ref v17, .int 5] M13 (fun v M18 => ∃ r19 : Int32, v = some (.int r19) ∧ ((∃ fs24, (M18).1 y10 = some (.inl (9, fs24))) ∧ kz_C G (d + 7) 0 0 mX10_caughtWith [.ref y10, .int r19] M18 (fun v M21 => ∃ r22 : Int32, v = some (.int r22) ∧ (zX11_hopes_22 G d mc ms Qr Qx x0 x1 (x2 + r22) (x3 + 1) M21 c sl)) Qx)) Qx)))) Qx)))) Qx))))) : zX11_hopes_22 G d mc ms Qr Qx x0 x1 x2 x3  M c sl := by
  show kz_Z G (d + 8) mc ms mX11_hopes Qr Qx 22 [(0, .ref x0), (1, .int x1), (2, .int x2), (3, .int x3)] [] M c sl
  refine kz_iload_n (pc := 22) 3 (i := 3) rfl rfl dX11_hopes_22 ?_
  refine kz_aload_n (pc := 23) 0 (v := .ref x0) (i := 0) rfl rfl rfl dX11_hopes_23 ?_
  obtain ⟨fs1, v2, hM, hv, h⟩ := h
  refine kz_getf (pc := 24) (k := 2) kcX11 hM hv (by decide) kw_277 dX11_hopes_24 ?_
  obtain ⟨fs3, v4, hM, hv, h⟩ := h
  refine kz_getf (pc := 27) (k := 3) kcX9 hM hv (by decide) kw_109 dX11_hopes_27 ?_
  refine kz_icmp_ge (pc := 30) (tgt := 83) (by decide) dX11_hopes_30 (fun hb => ?_) (fun hb => ?_)
  · replace h := h.1 hb
    refine kz_iload_n (pc := 83) 2 (i := 2) rfl rfl dX11_hopes_83 ?_
    exact kz_iret (pc := 84) rfl hc hs dX11_hopes_84 h
  · replace h := h.2 hb
    refine kz_aload_n (pc := 33) 0 (v := .ref x0) (i := 0) rfl rfl rfl dX11_hopes_33 ?_
    obtain ⟨fs5, v6, hM, hv, h⟩ := h
    refine kz_getf (pc := 34) (k := 2) kcX11 hM hv (by decide) kw_277 dX11_hopes_34 ?_
    refine kz_iload_n (pc := 37) 1 (i := 1) rfl rfl dX11_hopes_37 ?_
    refine kz_iload_n (pc := 38) 3 (i := 3) rfl rfl dX11_hopes_38 ?_
    obtain ⟨⟨fs27, he⟩, h⟩ := h
    refine kz_callV (pc := 39) (μ' := mX9_workOf) (ci := 8) (q := (RX9, TX9, 10)) (b := v6) (d' := d + 7) (mc' := 0) (ms' := 0) (As := [.int x1, .int x3]) (st := []) (c := c) (sl := sl) kmX9_workOf kw_702 (by omega) rfl (Nat.le_of_ble_eq_true rfl) he rfl rfl hc hs dX11_hopes_39 (fun E M9 hx => kz_Tout rfl hc hs hx) (kz_Cmono (fun v M7 h => ?_) (fun _ _ h => h) h)
    obtain ⟨r8, rfl, h⟩ := h
    show kz_Z G (d + 8) mc ms mX11_hopes Qr Qx 42 [(0, .ref x0), (1, .int x1), (2, .int x2), (3, .int x3)] [kz_rf r8] M7 c sl
    refine kz_astore (pc := 42) (i := 4) (v := kz_rf r8) (ls' := [(0, .ref x0), (1, .int x1), (2, .int x2), (3, .int x3)]) (kz_isr_rf _) (by decide) rfl dX11_hopes_42 ?_
    refine kz_aload (pc := 44) 0 (v := kz_rf r8) (i := 4) rfl (kz_isr_rf _) dX11_hopes_44 ?_
    rcases r8 with _ | y10
    · replace h := h.1 rfl
      refine kz_ifnull (pc := 46) (tgt := 77) rfl (by decide) dX11_hopes_46 (fun _ => ?_) (fun hn => absurd rfl hn)
      refine kz_iinc (pc := 77) 4 (i := 3) (v := x3 + 1) (ls' := [(4, .null), (0, .ref x0), (1, .int x1), (2, .int x2)]) rfl (congrArg (fun z => x3 + z) (by decide)) (by decide) rfl dX11_hopes_77 ?_
      refine kz_goto (pc := 80) (tgt := 22) (by decide) dX11_hopes_80 ?_
      refine kz_sub [2, 3, 4, 0] rfl ?_
      exact h
    · replace h := h.2 y10 rfl
      refine kz_ifnull (pc := 46) (tgt := 77) rfl (by decide) dX11_hopes_46 (fun hn => by cases hn) (fun _ => ?_)
      refine kz_aload_n (pc := 49) 1 (v := .ref x0) (i := 0) rfl rfl rfl dX11_hopes_49 ?_
      obtain ⟨fs11, v12, hM, hv, h⟩ := h
      refine kz_getf (pc := 50) (k := 2) kcX11 hM hv (by decide) kw_277 dX11_hopes_50 ?_
      refine kz_aload (pc := 53) 0 (v := .ref y10) (i := 4) rfl rfl dX11_hopes_53 ?_
      obtain ⟨⟨fs26, he⟩, h⟩ := h
      refine kz_callV (pc := 55) (μ' := mX9_isTooLateFor) (ci := 8) (q := (RX9, TX9, 10)) (b := v12) (d' := d + 7) (mc' := 0) (ms' := 0) (As := [.ref y10]) (st := []) (c := c) (sl := sl) kmX9_isTooLateFor kw_1168 (by omega) rfl (Nat.le_of_ble_eq_true rfl) he rfl rfl hc hs dX11_hopes_55 (fun E M9 hx => kz_Tout rfl hc hs hx) (kz_Cmono (fun v M13 h => ?_) (fun _ _ h => h) h)
      obtain ⟨r14, rfl, h⟩ := h
      show kz_Z G (d + 8) mc ms mX11_hopes Qr Qx 58 [(4, .ref y10), (0, .ref x0), (1, .int x1), (2, .int x2), (3, .int x3)] [.int r14] M13 c sl
      refine kz_if_ne (pc := 58) (tgt := 77) (by decide) dX11_hopes_58 (fun hb => ?_) (fun hb => ?_)
      · replace h := h.1 hb
        refine kz_iinc (pc := 77) 4 (i := 3) (v := x3 + 1) (ls' := [(4, .ref y10), (0, .ref x0), (1, .int x1), (2, .int x2)]) rfl (congrArg (fun z => x3 + z) (by decide)) (by decide) rfl dX11_hopes_77 ?_
        refine kz_goto (pc := 80) (tgt := 22) (by decide) dX11_hopes_80 ?_
        refine kz_sub [2, 3, 4, 0] rfl ?_
        exact h
      · replace h := h.2 hb
        refine kz_iload_n (pc := 61) 3 (i := 2) rfl rfl dX11_hopes_61 ?_
        refine kz_aload (pc := 62) 0 (v := .ref y10) (i := 4) rfl rfl dX11_hopes_62 ?_
        refine kz_aload_n (pc := 64) 1 (v := .ref x0) (i := 0) rfl rfl rfl dX11_hopes_64 ?_
        obtain ⟨fs16, v17, hM, hv, h⟩ := h
        refine kz_getf (pc := 65) (k := 2) kcX11 hM hv (by decide) kw_277 dX11_hopes_65 ?_
        refine kz_iconst (pc := 68) (v := 5) (by decide) dX11_hopes_68 ?_
        obtain ⟨⟨fs25, he⟩, h⟩ := h
        refine kz_callV (pc := 69) (μ' := mX9_rule) (ci := 8) (q := (RX9, TX9, 10)) (b := v17) (d' := d + 7) (mc' := 0) (ms' := 0) (As := [.int 5]) (st := [.ref y10, .int x2]) (c := c) (sl := sl) kmX9_rule kw_629 (by omega) rfl (Nat.le_of_ble_eq_true rfl) he rfl rfl hc hs dX11_hopes_69 (fun E M9 hx => kz_Tout rfl hc hs hx) (kz_Cmono (fun v M18 h => ?_) (fun _ _ h => h) h)
        obtain ⟨r19, rfl, h⟩ := h
        show kz_Z G (d + 8) mc ms mX11_hopes Qr Qx 72 [(4, .ref y10), (0, .ref x0), (1, .int x1), (2, .int x2), (3, .int x3)] [.int r19, .ref y10, .int x2] M18 c sl
        obtain ⟨⟨fs24, he⟩, h⟩ := h
        refine kz_callV (pc := 72) (μ' := mX10_caughtWith) (ci := 9) (q := (RX10, TX10, 4)) (b := y10) (d' := d + 7) (mc' := 0) (ms' := 0) (As := [.int r19]) (st := [.int x2]) (c := c) (sl := sl) kmX10_caughtWith kw_1169 (by omega) rfl (Nat.le_of_ble_eq_true rfl) he rfl rfl hc hs dX11_hopes_72 (fun E M9 hx => kz_Tout rfl hc hs hx) (kz_Cmono (fun v M21 h => ?_) (fun _ _ h => h) h)
        obtain ⟨r22, rfl, h⟩ := h
        show kz_Z G (d + 8) mc ms mX11_hopes Qr Qx 75 [(4, .ref y10), (0, .ref x0), (1, .int x1), (2, .int x2), (3, .int x3)] [.int r22, .int x2] M21 c sl
        refine kz_iadd (pc := 75) dX11_hopes_75 ?_
        refine kz_istore_n (pc := 76) (i := 2) (ls' := [(4, .ref y10), (0, .ref x0), (1, .int x1), (3, .int x3)]) rfl (by decide) rfl dX11_hopes_76 ?_
        refine kz_iinc (pc := 77) 4 (i := 3) (v := x3 + 1) (ls' := [(2, .int (x2 + r22)), (4, .ref y10), (0, .ref x0), (1, .int x1)]) rfl (congrArg (fun z => x3 + z) (by decide)) (by decide) rfl dX11_hopes_77 ?_
        refine kz_goto (pc := 80) (tgt := 22) (by decide) dX11_hopes_80 ?_
        refine kz_sub [3, 4, 1, 0] rfl ?_
        exact h
theorem dX11_longestRun_0 : decode cX11_longestRun 0 = .ok (.aload_n 0, 1) := by decide +kernel
theorem dX11_longestRun_1 : decode cX11_longestRun 1 = .ok (.iload_n 1, 1) := by decide +kernel
theorem dX11_longestRun_2 : decode cX11_longestRun 2 = .ok (.invokevirtual 165, 3) := by decide +kernel
theorem dX11_longestRun_5 : decode cX11_longestRun 5 = .ok (.astore_n 2, 1) := by decide +kernel
theorem dX11_longestRun_6 : decode cX11_longestRun 6 = .ok (.iconst 0, 1) := by decide +kernel
theorem dX11_longestRun_7 : decode cX11_longestRun 7 = .ok (.istore_n 3, 1) := by decide +kernel
theorem dX11_longestRun_8 : decode cX11_longestRun 8 = .ok (.iconst 0, 1) := by decide +kernel
theorem dX11_longestRun_9 : decode cX11_longestRun 9 = .ok (.istore 4, 2) := by decide +kernel
theorem dX11_longestRun_11 : decode cX11_longestRun 11 = .ok (.iconst 0, 1) := by decide +kernel
theorem dX11_longestRun_12 : decode cX11_longestRun 12 = .ok (.istore 5, 2) := by decide +kernel
theorem dX11_longestRun_14 : decode cX11_longestRun 14 = .ok (.iload 5, 2) := by decide +kernel
theorem dX11_longestRun_16 : decode cX11_longestRun 16 = .ok (.aload_n 2, 1) := by decide +kernel
theorem dX11_longestRun_17 : decode cX11_longestRun 17 = .ok (.invokevirtual 186, 3) := by decide +kernel
theorem dX11_longestRun_20 : decode cX11_longestRun 20 = .ok (.if_icmp .ge 35, 3) := by decide +kernel
theorem dX11_longestRun_23 : decode cX11_longestRun 23 = .ok (.aload_n 2, 1) := by decide +kernel
theorem dX11_longestRun_24 : decode cX11_longestRun 24 = .ok (.iload 5, 2) := by decide +kernel
theorem dX11_longestRun_26 : decode cX11_longestRun 26 = .ok (.invokevirtual 354, 3) := by decide +kernel
theorem dX11_longestRun_29 : decode cX11_longestRun 29 = .ok (.ifCond .eq 10, 3) := by decide +kernel
theorem dX11_longestRun_32 : decode cX11_longestRun 32 = .ok (.iload 4, 2) := by decide +kernel
theorem dX11_longestRun_34 : decode cX11_longestRun 34 = .ok (.iconst 1, 1) := by decide +kernel
theorem dX11_longestRun_35 : decode cX11_longestRun 35 = .ok (.iadd, 1) := by decide +kernel
theorem dX11_longestRun_36 : decode cX11_longestRun 36 = .ok (.goto 4, 3) := by decide +kernel
theorem dX11_longestRun_39 : decode cX11_longestRun 39 = .ok (.iconst 0, 1) := by decide +kernel
theorem dX11_longestRun_40 : decode cX11_longestRun 40 = .ok (.istore 4, 2) := by decide +kernel
theorem dX11_longestRun_42 : decode cX11_longestRun 42 = .ok (.iload_n 3, 1) := by decide +kernel
theorem dX11_longestRun_43 : decode cX11_longestRun 43 = .ok (.iload 4, 2) := by decide +kernel
theorem dX11_longestRun_45 : decode cX11_longestRun 45 = .ok (.invokestatic 357, 3) := by decide +kernel
theorem dX11_longestRun_48 : decode cX11_longestRun 48 = .ok (.istore_n 3, 1) := by decide +kernel
theorem dX11_longestRun_49 : decode cX11_longestRun 49 = .ok (.iinc 5 1, 3) := by decide +kernel
theorem dX11_longestRun_52 : decode cX11_longestRun 52 = .ok (.goto (-38), 3) := by decide +kernel
theorem dX11_longestRun_55 : decode cX11_longestRun 55 = .ok (.iload_n 3, 1) := by decide +kernel
theorem dX11_longestRun_56 : decode cX11_longestRun 56 = .ok (.ireturn, 1) := by decide +kernel
def zX11_longestRun_14 (G : kz_G) (d mc ms : Nat) (Qr : Option Value → kz_M → Prop) (Qx : String → kz_M → Prop) (x2 : Nat) (x3 : Int32) (x4 : Int32) (x5 : Int32)  (M : kz_M) (c sl : Nat) : Prop := kz_Z G (d + 8) mc ms mX11_longestRun Qr Qx 14 [(2, .ref x2), (3, .int x3), (4, .int x4), (5, .int x5)] [] M c sl
theorem rX11_longestRun_0 {G : kz_G} {d : Nat} {mc ms : Nat} {Qr : Option Value → kz_M → Prop} {Qx : String → kz_M → Prop} {a0 : Nat} {p1 : Int32}  {M : kz_M} (h : (∃ fs4, (M).1 a0 = some (.inl (10, fs4))) ∧ ∃ mc3 ms3, 0 + mc3 ≤ mc ∧ 0 + ms3 ≤ ms ∧ kz_C G (d + 7) mc3 ms3 mX11_workOrThrow [.ref a0, .int p1] M (fun v M1 => ∃ r2 : Nat, v = some (.ref r2) ∧ (zX11_longestRun_14 G d mc ms Qr Qx r2 0 0 0 M1 (0 + mc3) (0 + ms3))) Qx) : kz_C G (d + 8) mc ms mX11_longestRun [.ref a0, .int p1] M Qr Qx := by
  refine kz_enter (n := 1) kmX11_longestRun.1 (Nat.le_of_ble_eq_true rfl) (ls := [(0, .ref a0), (1, .int p1)]) rfl ?_
  refine kz_aload_n (pc := 0) 0 (v := .ref a0) (i := 0) rfl rfl rfl dX11_longestRun_0 ?_
  refine kz_iload_n (pc := 1) 1 (i := 1) rfl rfl dX11_longestRun_1 ?_
  obtain ⟨⟨fs4, he⟩, h⟩ := h
  obtain ⟨mc3, ms3, hc3, hs3, h⟩ := h
  refine kz_callV (pc := 2) (μ' := mX11_workOrThrow) (ci := 10) (q := (RX11, TX11, 10)) (b := a0) (d' := d + 7) (mc' := mc3) (ms' := ms3) (As := [.int p1]) (st := []) (c := 0) (sl := 0) kmX11_workOrThrow kw_744 (by omega) rfl (Nat.le_of_ble_eq_true rfl) he rfl rfl hc3 hs3 dX11_longestRun_2 (fun E M9 hx => kz_Tout rfl hc3 hs3 hx) (kz_Cmono (fun v M1 h => ?_) (fun _ _ h => h) h)
  obtain ⟨r2, rfl, h⟩ := h
  show kz_Z G (d + 8) mc ms mX11_longestRun Qr Qx 5 [(0, .ref a0), (1, .int p1)] [.ref r2] M1 (0 + mc3) (0 + ms3)
  refine kz_astore_n (pc := 5) (i := 2) (v := .ref r2) (ls' := [(0, .ref a0), (1, .int p1)]) rfl rfl (by decide) rfl dX11_longestRun_5 ?_
  refine kz_iconst (pc := 6) (v := 0) (by decide) dX11_longestRun_6 ?_
  refine kz_istore_n (pc := 7) (i := 3) (ls' := [(2, .ref r2), (0, .ref a0), (1, .int p1)]) rfl (by decide) rfl dX11_longestRun_7 ?_
  refine kz_iconst (pc := 8) (v := 0) (by decide) dX11_longestRun_8 ?_
  refine kz_istore (pc := 9) (i := 4) (ls' := [(3, .int 0), (2, .ref r2), (0, .ref a0), (1, .int p1)]) (by decide) rfl dX11_longestRun_9 ?_
  refine kz_iconst (pc := 11) (v := 0) (by decide) dX11_longestRun_11 ?_
  refine kz_istore (pc := 12) (i := 5) (ls' := [(4, .int 0), (3, .int 0), (2, .ref r2), (0, .ref a0), (1, .int p1)]) (by decide) rfl dX11_longestRun_12 ?_
  refine kz_sub [3, 2, 1, 0] rfl ?_
  exact h
theorem rX11_longestRun_14 {G : kz_G} {d : Nat} {mc ms : Nat} {Qr : Option Value → kz_M → Prop} {Qx : String → kz_M → Prop} {x2 : Nat} {x3 : Int32} {x4 : Int32} {x5 : Int32}  {M : kz_M} {c sl : Nat} (hc : c ≤ mc) (hs : sl ≤ ms) (h : (∃ fs8, (M).1 x2 = some (.inl (9, fs8))) ∧ kz_C G (d + 7) 0 0 mX10_size [.ref x2] M (fun v M1 => ∃ r2 : Int32, v = some (.int r2) ∧ ((r2 ≤ x5 → Qr (some (.int x3)) M1) ∧ (¬ r2 ≤ x5 → (∃ fs7, (M1).1 x2 = some (.inl (9, fs7))) ∧ kz_C G (d + 7) 0 0 mX10_countsAt [.ref x2, .int x5] M1 (fun v M4 => ∃ r5 : Int32, v = some (.int r5) ∧ ((r5 = 0 → zX11_longestRun_14 G d mc ms Qr Qx x2 (if x3 < 0 then 0 else x3) 0 (x5 + 1) M4 c sl) ∧ (¬ r5 = 0 → zX11_longestRun_14 G d mc ms Qr Qx x2 (if x3 < (x4 + 1) then (x4 + 1) else x3) (x4 + 1) (x5 + 1) M4 c sl))) Qx))) Qx) : zX11_longestRun_14 G d mc ms Qr Qx x2 x3 x4 x5  M c sl := by
  show kz_Z G (d + 8) mc ms mX11_longestRun Qr Qx 14 [(2, .ref x2), (3, .int x3), (4, .int x4), (5, .int x5)] [] M c sl
  refine kz_iload (pc := 14) 3 (i := 5) rfl dX11_longestRun_14 ?_
  refine kz_aload_n (pc := 16) 0 (v := .ref x2) (i := 2) rfl rfl rfl dX11_longestRun_16 ?_
  obtain ⟨⟨fs8, he⟩, h⟩ := h
  refine kz_callV (pc := 17) (μ' := mX10_size) (ci := 9) (q := (RX10, TX10, 4)) (b := x2) (d' := d + 7) (mc' := 0) (ms' := 0) (As := []) (st := [.int x5]) (c := c) (sl := sl) kmX10_size kw_750 (by omega) rfl (Nat.le_of_ble_eq_true rfl) he rfl rfl hc hs dX11_longestRun_17 (fun E M9 hx => kz_Tout rfl hc hs hx) (kz_Cmono (fun v M1 h => ?_) (fun _ _ h => h) h)
  obtain ⟨r2, rfl, h⟩ := h
  show kz_Z G (d + 8) mc ms mX11_longestRun Qr Qx 20 [(2, .ref x2), (3, .int x3), (4, .int x4), (5, .int x5)] [.int r2, .int x5] M1 c sl
  refine kz_icmp_ge (pc := 20) (tgt := 55) (by decide) dX11_longestRun_20 (fun hb => ?_) (fun hb => ?_)
  · replace h := h.1 hb
    refine kz_iload_n (pc := 55) 1 (i := 3) rfl rfl dX11_longestRun_55 ?_
    exact kz_iret (pc := 56) rfl hc hs dX11_longestRun_56 h
  · replace h := h.2 hb
    refine kz_aload_n (pc := 23) 0 (v := .ref x2) (i := 2) rfl rfl rfl dX11_longestRun_23 ?_
    refine kz_iload (pc := 24) 3 (i := 5) rfl dX11_longestRun_24 ?_
    obtain ⟨⟨fs7, he⟩, h⟩ := h
    refine kz_callV (pc := 26) (μ' := mX10_countsAt) (ci := 9) (q := (RX10, TX10, 4)) (b := x2) (d' := d + 7) (mc' := 0) (ms' := 0) (As := [.int x5]) (st := []) (c := c) (sl := sl) kmX10_countsAt kw_1181 (by omega) rfl (Nat.le_of_ble_eq_true rfl) he rfl rfl hc hs dX11_longestRun_26 (fun E M9 hx => kz_Tout rfl hc hs hx) (kz_Cmono (fun v M4 h => ?_) (fun _ _ h => h) h)
    obtain ⟨r5, rfl, h⟩ := h
    show kz_Z G (d + 8) mc ms mX11_longestRun Qr Qx 29 [(2, .ref x2), (3, .int x3), (4, .int x4), (5, .int x5)] [.int r5] M4 c sl
    refine kz_if_eq (pc := 29) (tgt := 39) (by decide) dX11_longestRun_29 (fun hb => ?_) (fun hb => ?_)
    · replace h := h.1 hb
      refine kz_iconst (pc := 39) (v := 0) (by decide) dX11_longestRun_39 ?_
      refine kz_istore (pc := 40) (i := 4) (ls' := [(2, .ref x2), (3, .int x3), (5, .int x5)]) (by decide) rfl dX11_longestRun_40 ?_
      refine kz_iload_n (pc := 42) 2 (i := 3) rfl rfl dX11_longestRun_42 ?_
      refine kz_iload (pc := 43) 0 (i := 4) rfl dX11_longestRun_43 ?_
      refine kz_mmax (pc := 45) kw_1185 kw_547 kw_15 kw_548 (by omega) (Nat.le_of_ble_eq_true rfl) hc hs dX11_longestRun_45 ?_
      refine kz_istore_n (pc := 48) (i := 3) (ls' := [(4, .int 0), (2, .ref x2), (5, .int x5)]) rfl (by decide) rfl dX11_longestRun_48 ?_
      refine kz_iinc (pc := 49) 3 (i := 5) (v := x5 + 1) (ls' := [(3, .int (if x3 < 0 then 0 else x3)), (4, .int 0), (2, .ref x2)]) rfl (congrArg (fun z => x5 + z) (by decide)) (by decide) rfl dX11_longestRun_49 ?_
      refine kz_goto (pc := 52) (tgt := 14) (by decide) dX11_longestRun_52 ?_
      refine kz_sub [3, 1, 2, 0] rfl ?_
      exact h
    · replace h := h.2 hb
      refine kz_iload (pc := 32) 2 (i := 4) rfl dX11_longestRun_32 ?_
      refine kz_iconst (pc := 34) (v := 1) (by decide) dX11_longestRun_34 ?_
      refine kz_iadd (pc := 35) dX11_longestRun_35 ?_
      refine kz_goto (pc := 36) (tgt := 40) (by decide) dX11_longestRun_36 ?_
      refine kz_istore (pc := 40) (i := 4) (ls' := [(2, .ref x2), (3, .int x3), (5, .int x5)]) (by decide) rfl dX11_longestRun_40 ?_
      refine kz_iload_n (pc := 42) 2 (i := 3) rfl rfl dX11_longestRun_42 ?_
      refine kz_iload (pc := 43) 0 (i := 4) rfl dX11_longestRun_43 ?_
      refine kz_mmax (pc := 45) kw_1185 kw_547 kw_15 kw_548 (by omega) (Nat.le_of_ble_eq_true rfl) hc hs dX11_longestRun_45 ?_
      refine kz_istore_n (pc := 48) (i := 3) (ls' := [(4, .int (x4 + 1)), (2, .ref x2), (5, .int x5)]) rfl (by decide) rfl dX11_longestRun_48 ?_
      refine kz_iinc (pc := 49) 3 (i := 5) (v := x5 + 1) (ls' := [(3, .int (if x3 < (x4 + 1) then (x4 + 1) else x3)), (4, .int (x4 + 1)), (2, .ref x2)]) rfl (congrArg (fun z => x5 + z) (by decide)) (by decide) rfl dX11_longestRun_49 ?_
      refine kz_goto (pc := 52) (tgt := 14) (by decide) dX11_longestRun_52 ?_
      refine kz_sub [3, 1, 2, 0] rfl ?_
      exact h
theorem dX11_submit_0 : decode cX11_submit 0 = .ok (.aload_n 0, 1) := by decide +kernel
theorem dX11_submit_1 : decode cX11_submit 1 = .ok (.iload_n 1, 1) := by decide +kernel
theorem dX11_submit_2 : decode cX11_submit 2 = .ok (.iload_n 2, 1) := by decide +kernel
theorem dX11_submit_3 : decode cX11_submit 3 = .ok (.iload_n 3, 1) := by decide +kernel
theorem dX11_submit_4 : decode cX11_submit 4 = .ok (.invokevirtual 312, 3) := by decide +kernel
theorem dX11_submit_7 : decode cX11_submit 7 = .ok (.aload_n 0, 1) := by decide +kernel
theorem dX11_submit_8 : decode cX11_submit 8 = .ok (.getfield 10, 3) := by decide +kernel
theorem dX11_submit_11 : decode cX11_submit 11 = .ok (.iload_n 2, 1) := by decide +kernel
theorem dX11_submit_12 : decode cX11_submit 12 = .ok (.iload_n 3, 1) := by decide +kernel
theorem dX11_submit_13 : decode cX11_submit 13 = .ok (.invokestatic 316, 3) := by decide +kernel
theorem dX11_submit_16 : decode cX11_submit 16 = .ok (.astore 4, 2) := by decide +kernel
theorem dX11_submit_18 : decode cX11_submit 18 = .ok (.aload_n 0, 1) := by decide +kernel
theorem dX11_submit_19 : decode cX11_submit 19 = .ok (.getfield 10, 3) := by decide +kernel
theorem dX11_submit_22 : decode cX11_submit 22 = .ok (.iconst 0, 1) := by decide +kernel
theorem dX11_submit_23 : decode cX11_submit 23 = .ok (.putfield 83, 3) := by decide +kernel
theorem dX11_submit_26 : decode cX11_submit 26 = .ok (.aload 4, 2) := by decide +kernel
theorem dX11_submit_28 : decode cX11_submit 28 = .ok (.ifnonnull 6, 3) := by decide +kernel
theorem dX11_submit_31 : decode cX11_submit 31 = .ok (.bipush (-2), 2) := by decide +kernel
theorem dX11_submit_33 : decode cX11_submit 33 = .ok (.ireturn, 1) := by decide +kernel
theorem dX11_submit_34 : decode cX11_submit 34 = .ok (.aload_n 0, 1) := by decide +kernel
theorem dX11_submit_35 : decode cX11_submit 35 = .ok (.getfield 26, 3) := by decide +kernel
theorem dX11_submit_38 : decode cX11_submit 38 = .ok (.getfield 105, 3) := by decide +kernel
theorem dX11_submit_41 : decode cX11_submit 41 = .ok (.bipush 12, 2) := by decide +kernel
theorem dX11_submit_43 : decode cX11_submit 43 = .ok (.if_icmp .lt 6, 3) := by decide +kernel
theorem dX11_submit_46 : decode cX11_submit 46 = .ok (.bipush (-3), 2) := by decide +kernel
theorem dX11_submit_48 : decode cX11_submit 48 = .ok (.ireturn, 1) := by decide +kernel
theorem dX11_submit_49 : decode cX11_submit 49 = .ok (.aload_n 0, 1) := by decide +kernel
theorem dX11_submit_50 : decode cX11_submit 50 = .ok (.getfield 36, 3) := by decide +kernel
theorem dX11_submit_53 : decode cX11_submit 53 = .ok (.aload_n 0, 1) := by decide +kernel
theorem dX11_submit_54 : decode cX11_submit 54 = .ok (.getfield 26, 3) := by decide +kernel
theorem dX11_submit_57 : decode cX11_submit 57 = .ok (.invokevirtual 362, 3) := by decide +kernel
theorem dX11_submit_60 : decode cX11_submit 60 = .ok (.aload_n 0, 1) := by decide +kernel
theorem dX11_submit_61 : decode cX11_submit 61 = .ok (.getfield 26, 3) := by decide +kernel
theorem dX11_submit_64 : decode cX11_submit 64 = .ok (.aload_n 0, 1) := by decide +kernel
theorem dX11_submit_65 : decode cX11_submit 65 = .ok (.aload 4, 2) := by decide +kernel
theorem dX11_submit_67 : decode cX11_submit 67 = .ok (.iload_n 1, 1) := by decide +kernel
theorem dX11_submit_68 : decode cX11_submit 68 = .ok (.aload_n 0, 1) := by decide +kernel
theorem dX11_submit_69 : decode cX11_submit 69 = .ok (.getfield 26, 3) := by decide +kernel
theorem dX11_submit_72 : decode cX11_submit 72 = .ok (.getfield 319, 3) := by decide +kernel
theorem dX11_submit_75 : decode cX11_submit 75 = .ok (.aload_n 0, 1) := by decide +kernel
theorem dX11_submit_76 : decode cX11_submit 76 = .ok (.getfield 26, 3) := by decide +kernel
theorem dX11_submit_79 : decode cX11_submit 79 = .ok (.getfield 105, 3) := by decide +kernel
theorem dX11_submit_82 : decode cX11_submit 82 = .ok (.invokevirtual 323, 3) := by decide +kernel
theorem dX11_submit_85 : decode cX11_submit 85 = .ok (.invokevirtual 365, 3) := by decide +kernel
theorem dX11_submit_88 : decode cX11_submit 88 = .ok (.ireturn, 1) := by decide +kernel
theorem rX11_submit_0 {G : kz_G} {d : Nat} {mc ms : Nat} {Qr : Option Value → kz_M → Prop} {Qx : String → kz_M → Prop} {a0 : Nat} {p1 : Int32} {p2 : Int32} {p3 : Int32}  {M : kz_M} (h : (∃ fs44, (M).1 a0 = some (.inl (10, fs44))) ∧ ∃ mc3 ms3, 0 + mc3 ≤ mc ∧ 0 + ms3 ≤ ms ∧ kz_C G (d + 8) mc3 ms3 mX11_checkSubmission [.ref a0, .int p1, .int p2, .int p3] M (fun v M1 => v = none ∧ (∃ fs4 v5, (M1).1 a0 = some (.inl (10, fs4)) ∧ fs4[0]? = some (.ref v5) ∧ (∃ mc8 ms8, 0 + mc3 + mc8 ≤ mc ∧ 0 + ms3 + ms8 ≤ ms ∧ kz_C G (d + 8) mc8 ms8 mX6_read [.ref v5, .int p2, .int p3] M1 (fun v M6 => ∃ r7 : Option Nat, v = some (kz_rf r7) ∧ (∃ fs9 v10, (M6).1 a0 = some (.inl (10, fs9)) ∧ fs9[0]? = some (.ref v10) ∧ (∃ fs11, (M6).1 v10 = some (.inl (1, fs11)) ∧ 1 < fs11.length ∧ ((r7 = none → Qr (some (.int ((-2)))) (kz_up M6 v10 (.inl (1, fs11.set 1 (.int 0))))) ∧ (∀ y12, r7 = some y12 → ∃ fs13 v14, ((kz_up M6 v10 (.inl (1, fs11.set 1 (.int 0))))).1 a0 = some (.inl (10, fs13)) ∧ fs13[2]? = some (.ref v14) ∧ (∃ fs15 v16, ((kz_up M6 v10 (.inl (1, fs11.set 1 (.int 0))))).1 v14 = some (.inl (8, fs15)) ∧ fs15[3]? = some (.int v16) ∧ ((v16 < (12 : Int32) → ∃ fs17 v18, ((kz_up M6 v10 (.inl (1, fs11.set 1 (.int 0))))).1 a0 = some (.inl (10, fs17)) ∧ fs17[4]? = some (.ref v18) ∧ (∃ fs19 v20, ((kz_up M6 v10 (.inl (1, fs11.set 1 (.int 0))))).1 a0 = some (.inl (10, fs19)) ∧ fs19[2]? = some (.ref v20) ∧ ((∃ fs42, ((kz_up M6 v10 (.inl (1, fs11.set 1 (.int 0))))).1 v18 = some (.inl (0, fs42))) ∧ kz_C G (d + 8) 0 0 mX0_keep [.ref v18, .ref v20] (kz_up M6 v10 (.inl (1, fs11.set 1 (.int 0)))) (fun v M21 => v = none ∧ (∃ fs24 v25, (M21).1 a0 = some (.inl (10, fs24)) ∧ fs24[2]? = some (.ref v25) ∧ (∃ fs26 v27, (M21).1 a0 = some (.inl (10, fs26)) ∧ fs26[2]? = some (.ref v27) ∧ (∃ fs28 v29, (M21).1 v27 = some (.inl (8, fs28)) ∧ fs28[4]? = some (.ref v29) ∧ (∃ fs30 v31, (M21).1 a0 = some (.inl (10, fs30)) ∧ fs30[2]? = some (.ref v31) ∧ (∃ fs32 v33, (M21).1 v31 = some (.inl (8, fs32)) ∧ fs32[3]? = some (.int v33) ∧ ((∃ fs41, (M21).1 a0 = some (.inl (10, fs41))) ∧ ∃ mc36 ms36, 0 + mc3 + mc8 + mc36 ≤ mc ∧ 0 + ms3 + ms8 + ms36 ≤ ms ∧ kz_C G (d + 8) mc36 ms36 mX11_judged [.ref a0, .ref y12, .int p1, .ref v29, .int v33] M21 (fun v M34 => ∃ r35 : Nat, v = some (.ref r35) ∧ ((∃ fs40, (M34).1 v25 = some (.inl (8, fs40))) ∧ kz_C G (d + 8) 0 0 mX9_handIn [.ref v25, .ref r35] M34 (fun v M37 => ∃ r38 : Int32, v = some (.int r38) ∧ (Qr (some (.int r38)) M37)) Qx)) Qx))))))) Qx))) ∧ (¬ v16 < (12 : Int32) → Qr (some (.int ((-3)))) (kz_up M6 v10 (.inl (1, fs11.set 1 (.int 0)))))))))))) Qx))) Qx) : kz_C G (d + 9) mc ms mX11_submit [.ref a0, .int p1, .int p2, .int p3] M Qr Qx := by
  refine kz_enter (n := 3) kmX11_submit.1 (Nat.le_of_ble_eq_true rfl) (ls := [(0, .ref a0), (1, .int p1), (2, .int p2), (3, .int p3)]) rfl ?_
  refine kz_aload_n (pc := 0) 0 (v := .ref a0) (i := 0) rfl rfl rfl dX11_submit_0 ?_
  refine kz_iload_n (pc := 1) 1 (i := 1) rfl rfl dX11_submit_1 ?_
  refine kz_iload_n (pc := 2) 2 (i := 2) rfl rfl dX11_submit_2 ?_
  refine kz_iload_n (pc := 3) 3 (i := 3) rfl rfl dX11_submit_3 ?_
  obtain ⟨⟨fs44, he⟩, h⟩ := h
  obtain ⟨mc3, ms3, hc3, hs3, h⟩ := h
  refine kz_callV (pc := 4) (μ' := mX11_checkSubmission) (ci := 10) (q := (RX11, TX11, 10)) (b := a0) (d' := d + 8) (mc' := mc3) (ms' := ms3) (As := [.int p1, .int p2, .int p3]) (st := []) (c := 0) (sl := 0) kmX11_checkSubmission kw_974 (by omega) rfl (Nat.le_of_ble_eq_true rfl) he rfl rfl hc3 hs3 dX11_submit_4 (fun E M9 hx => kz_Tout rfl hc3 hs3 hx) (kz_Cmono (fun v M1 h => ?_) (fun _ _ h => h) h)
  obtain ⟨rfl, h⟩ := h
  show kz_Z G (d + 9) mc ms mX11_submit Qr Qx 7 [(0, .ref a0), (1, .int p1), (2, .int p2), (3, .int p3)] [] M1 (0 + mc3) (0 + ms3)
  refine kz_aload_n (pc := 7) 0 (v := .ref a0) (i := 0) rfl rfl rfl dX11_submit_7 ?_
  obtain ⟨fs4, v5, hM, hv, h⟩ := h
  refine kz_getf (pc := 8) (k := 0) kcX11 hM hv (by decide) kw_275 dX11_submit_8 ?_
  refine kz_iload_n (pc := 11) 2 (i := 2) rfl rfl dX11_submit_11 ?_
  refine kz_iload_n (pc := 12) 3 (i := 3) rfl rfl dX11_submit_12 ?_
  obtain ⟨mc8, ms8, hc8, hs8, h⟩ := h
  refine kz_callS (pc := 13) (μ' := mX6_read) (d' := d + 8) (mc' := mc8) (ms' := ms8) (As := [.ref v5, .int p2, .int p3]) (st := []) (c := 0 + mc3) (sl := 0 + ms3) kmX6_read kw_980 (by omega) rfl (Nat.le_of_ble_eq_true rfl) hc8 hs8 dX11_submit_13 (fun E M9 hx => kz_Tout rfl hc8 hs8 hx) (kz_Cmono (fun v M6 h => ?_) (fun _ _ h => h) h)
  obtain ⟨r7, rfl, h⟩ := h
  show kz_Z G (d + 9) mc ms mX11_submit Qr Qx 16 [(0, .ref a0), (1, .int p1), (2, .int p2), (3, .int p3)] [kz_rf r7] M6 (0 + mc3 + mc8) (0 + ms3 + ms8)
  refine kz_astore (pc := 16) (i := 4) (v := kz_rf r7) (ls' := [(0, .ref a0), (1, .int p1), (2, .int p2), (3, .int p3)]) (kz_isr_rf _) (by decide) rfl dX11_submit_16 ?_
  refine kz_aload_n (pc := 18) 1 (v := .ref a0) (i := 0) rfl rfl rfl dX11_submit_18 ?_
  obtain ⟨fs9, v10, hM, hv, h⟩ := h
  refine kz_getf (pc := 19) (k := 0) kcX11 hM hv (by decide) kw_275 dX11_submit_19 ?_
  refine kz_iconst (pc := 22) (v := 0) (by decide) dX11_submit_22 ?_
  obtain ⟨fs11, hM, hlen, h⟩ := h
  refine kz_putf (pc := 23) (k := 1) kcX1 hM (by decide) hlen kw_45 rfl rfl rfl dX11_submit_23 ?_
  refine kz_aload (pc := 26) 0 (v := kz_rf r7) (i := 4) rfl (kz_isr_rf _) dX11_submit_26 ?_
  rcases r7 with _ | y12
  · replace h := h.1 rfl
    refine kz_ifnonnull (pc := 28) (tgt := 34) rfl (by decide) dX11_submit_28 (fun hn => absurd rfl hn) (fun _ => ?_)
    refine kz_bipush (pc := 31) (v := (-2)) (by decide) dX11_submit_31 ?_
    exact kz_iret (pc := 33) rfl hc8 hs8 dX11_submit_33 h
  · replace h := h.2 y12 rfl
    refine kz_ifnonnull (pc := 28) (tgt := 34) rfl (by decide) dX11_submit_28 (fun _ => ?_) (fun hn => by cases hn)
    refine kz_aload_n (pc := 34) 1 (v := .ref a0) (i := 0) rfl rfl rfl dX11_submit_34 ?_
    obtain ⟨fs13, v14, hM, hv, h⟩ := h
    refine kz_getf (pc := 35) (k := 2) kcX11 hM hv (by decide) kw_277 dX11_submit_35 ?_
    obtain ⟨fs15, v16, hM, hv, h⟩ := h
    refine kz_getf (pc := 38) (k := 3) kcX9 hM hv (by decide) kw_109 dX11_submit_38 ?_
    refine kz_bipush (pc := 41) (v := 12) (by decide) dX11_submit_41 ?_
    refine kz_icmp_lt (pc := 43) (tgt := 49) (by decide) dX11_submit_43 (fun hb => ?_) (fun hb => ?_)
    · replace h := h.1 hb
      refine kz_aload_n (pc := 49) 1 (v := .ref a0) (i := 0) rfl rfl rfl dX11_submit_49 ?_
      obtain ⟨fs17, v18, hM, hv, h⟩ := h
      refine kz_getf (pc := 50) (k := 4) kcX11 hM hv (by decide) kw_279 dX11_submit_50 ?_
      refine kz_aload_n (pc := 53) 1 (v := .ref a0) (i := 0) rfl rfl rfl dX11_submit_53 ?_
      obtain ⟨fs19, v20, hM, hv, h⟩ := h
      refine kz_getf (pc := 54) (k := 2) kcX11 hM hv (by decide) kw_277 dX11_submit_54 ?_
      obtain ⟨⟨fs42, he⟩, h⟩ := h
      refine kz_callV (pc := 57) (μ' := mX0_keep) (ci := 0) (q := (RX0, TX0, 3)) (b := v18) (d' := d + 8) (mc' := 0) (ms' := 0) (As := [.ref v20]) (st := []) (c := 0 + mc3 + mc8) (sl := 0 + ms3 + ms8) kmX0_keep kw_464 (by omega) rfl (Nat.le_of_ble_eq_true rfl) he rfl rfl hc8 hs8 dX11_submit_57 (fun E M9 hx => kz_Tout rfl hc8 hs8 hx) (kz_Cmono (fun v M21 h => ?_) (fun _ _ h => h) h)
      obtain ⟨rfl, h⟩ := h
      show kz_Z G (d + 9) mc ms mX11_submit Qr Qx 60 [(4, .ref y12), (0, .ref a0), (1, .int p1), (2, .int p2), (3, .int p3)] [] M21 (0 + mc3 + mc8) (0 + ms3 + ms8)
      refine kz_aload_n (pc := 60) 1 (v := .ref a0) (i := 0) rfl rfl rfl dX11_submit_60 ?_
      obtain ⟨fs24, v25, hM, hv, h⟩ := h
      refine kz_getf (pc := 61) (k := 2) kcX11 hM hv (by decide) kw_277 dX11_submit_61 ?_
      refine kz_aload_n (pc := 64) 1 (v := .ref a0) (i := 0) rfl rfl rfl dX11_submit_64 ?_
      refine kz_aload (pc := 65) 0 (v := .ref y12) (i := 4) rfl rfl dX11_submit_65 ?_
      refine kz_iload_n (pc := 67) 2 (i := 1) rfl rfl dX11_submit_67 ?_
      refine kz_aload_n (pc := 68) 1 (v := .ref a0) (i := 0) rfl rfl rfl dX11_submit_68 ?_
      obtain ⟨fs26, v27, hM, hv, h⟩ := h
      refine kz_getf (pc := 69) (k := 2) kcX11 hM hv (by decide) kw_277 dX11_submit_69 ?_
      obtain ⟨fs28, v29, hM, hv, h⟩ := h
      refine kz_getf (pc := 72) (k := 4) kcX9 hM hv (by decide) kw_112 dX11_submit_72 ?_
      refine kz_aload_n (pc := 75) 1 (v := .ref a0) (i := 0) rfl rfl rfl dX11_submit_75 ?_
      obtain ⟨fs30, v31, hM, hv, h⟩ := h
      refine kz_getf (pc := 76) (k := 2) kcX11 hM hv (by decide) kw_277 dX11_submit_76 ?_
      obtain ⟨fs32, v33, hM, hv, h⟩ := h
      refine kz_getf (pc := 79) (k := 3) kcX9 hM hv (by decide) kw_109 dX11_submit_79 ?_
      obtain ⟨⟨fs41, he⟩, h⟩ := h
      obtain ⟨mc36, ms36, hc36, hs36, h⟩ := h
      refine kz_callV (pc := 82) (μ' := mX11_judged) (ci := 10) (q := (RX11, TX11, 10)) (b := a0) (d' := d + 8) (mc' := mc36) (ms' := ms36) (As := [.ref y12, .int p1, .ref v29, .int v33]) (st := [.ref v25]) (c := 0 + mc3 + mc8) (sl := 0 + ms3 + ms8) kmX11_judged kw_1011 (by omega) rfl (Nat.le_of_ble_eq_true rfl) he rfl rfl hc36 hs36 dX11_submit_82 (fun E M9 hx => kz_Tout rfl hc36 hs36 hx) (kz_Cmono (fun v M34 h => ?_) (fun _ _ h => h) h)
      obtain ⟨r35, rfl, h⟩ := h
      show kz_Z G (d + 9) mc ms mX11_submit Qr Qx 85 [(4, .ref y12), (0, .ref a0), (1, .int p1), (2, .int p2), (3, .int p3)] [.ref r35, .ref v25] M34 (0 + mc3 + mc8 + mc36) (0 + ms3 + ms8 + ms36)
      obtain ⟨⟨fs40, he⟩, h⟩ := h
      refine kz_callV (pc := 85) (μ' := mX9_handIn) (ci := 8) (q := (RX9, TX9, 10)) (b := v25) (d' := d + 8) (mc' := 0) (ms' := 0) (As := [.ref r35]) (st := []) (c := 0 + mc3 + mc8 + mc36) (sl := 0 + ms3 + ms8 + ms36) kmX9_handIn kw_1193 (by omega) rfl (Nat.le_of_ble_eq_true rfl) he rfl rfl hc36 hs36 dX11_submit_85 (fun E M9 hx => kz_Tout rfl hc36 hs36 hx) (kz_Cmono (fun v M37 h => ?_) (fun _ _ h => h) h)
      obtain ⟨r38, rfl, h⟩ := h
      show kz_Z G (d + 9) mc ms mX11_submit Qr Qx 88 [(4, .ref y12), (0, .ref a0), (1, .int p1), (2, .int p2), (3, .int p3)] [.int r38] M37 (0 + mc3 + mc8 + mc36) (0 + ms3 + ms8 + ms36)
      exact kz_iret (pc := 88) rfl hc36 hs36 dX11_submit_88 h
    · replace h := h.2 hb
      refine kz_bipush (pc := 46) (v := (-3)) (by decide) dX11_submit_46 ?_
      exact kz_iret (pc := 48) rfl hc8 hs8 dX11_submit_48 h
theorem dX11_appeal_0 : decode cX11_appeal 0 = .ok (.aload_n 0, 1) := by decide +kernel
theorem dX11_appeal_1 : decode cX11_appeal 1 = .ok (.iload_n 1, 1) := by decide +kernel
theorem dX11_appeal_2 : decode cX11_appeal 2 = .ok (.invokevirtual 165, 3) := by decide +kernel
theorem dX11_appeal_5 : decode cX11_appeal 5 = .ok (.astore_n 3, 1) := by decide +kernel
theorem dX11_appeal_6 : decode cX11_appeal 6 = .ok (.aload_n 0, 1) := by decide +kernel
theorem dX11_appeal_7 : decode cX11_appeal 7 = .ok (.iload_n 1, 1) := by decide +kernel
theorem dX11_appeal_8 : decode cX11_appeal 8 = .ok (.iload_n 2, 1) := by decide +kernel
theorem dX11_appeal_9 : decode cX11_appeal 9 = .ok (.invokevirtual 197, 3) := by decide +kernel
theorem dX11_appeal_12 : decode cX11_appeal 12 = .ok (.astore 4, 2) := by decide +kernel
theorem dX11_appeal_14 : decode cX11_appeal 14 = .ok (.aload_n 0, 1) := by decide +kernel
theorem dX11_appeal_15 : decode cX11_appeal 15 = .ok (.getfield 26, 3) := by decide +kernel
theorem dX11_appeal_18 : decode cX11_appeal 18 = .ok (.aload_n 3, 1) := by decide +kernel
theorem dX11_appeal_19 : decode cX11_appeal 19 = .ok (.aload 4, 2) := by decide +kernel
theorem dX11_appeal_21 : decode cX11_appeal 21 = .ok (.invokevirtual 339, 3) := by decide +kernel
theorem dX11_appeal_24 : decode cX11_appeal 24 = .ok (.istore 5, 2) := by decide +kernel
theorem dX11_appeal_26 : decode cX11_appeal 26 = .ok (.iload 5, 2) := by decide +kernel
theorem dX11_appeal_28 : decode cX11_appeal 28 = .ok (.ifCond .eq 7, 3) := by decide +kernel
theorem dX11_appeal_31 : decode cX11_appeal 31 = .ok (.iload 5, 2) := by decide +kernel
theorem dX11_appeal_33 : decode cX11_appeal 33 = .ok (.ineg, 1) := by decide +kernel
theorem dX11_appeal_34 : decode cX11_appeal 34 = .ok (.ireturn, 1) := by decide +kernel
theorem dX11_appeal_35 : decode cX11_appeal 35 = .ok (.aload_n 0, 1) := by decide +kernel
theorem dX11_appeal_36 : decode cX11_appeal 36 = .ok (.getfield 36, 3) := by decide +kernel
theorem dX11_appeal_39 : decode cX11_appeal 39 = .ok (.aload_n 0, 1) := by decide +kernel
theorem dX11_appeal_40 : decode cX11_appeal 40 = .ok (.getfield 26, 3) := by decide +kernel
theorem dX11_appeal_43 : decode cX11_appeal 43 = .ok (.invokevirtual 362, 3) := by decide +kernel
theorem dX11_appeal_46 : decode cX11_appeal 46 = .ok (.aload 4, 2) := by decide +kernel
theorem dX11_appeal_48 : decode cX11_appeal 48 = .ok (.invokevirtual 219, 3) := by decide +kernel
theorem dX11_appeal_51 : decode cX11_appeal 51 = .ok (.aload_n 0, 1) := by decide +kernel
theorem dX11_appeal_52 : decode cX11_appeal 52 = .ok (.getfield 26, 3) := by decide +kernel
theorem dX11_appeal_55 : decode cX11_appeal 55 = .ok (.iconst 5, 1) := by decide +kernel
theorem dX11_appeal_56 : decode cX11_appeal 56 = .ok (.invokevirtual 144, 3) := by decide +kernel
theorem dX11_appeal_59 : decode cX11_appeal 59 = .ok (.if_icmp .lt 7, 3) := by decide +kernel
theorem dX11_appeal_62 : decode cX11_appeal 62 = .ok (.iconst 1, 1) := by decide +kernel
theorem dX11_appeal_63 : decode cX11_appeal 63 = .ok (.goto 4, 3) := by decide +kernel
theorem dX11_appeal_66 : decode cX11_appeal 66 = .ok (.iconst 0, 1) := by decide +kernel
theorem dX11_appeal_67 : decode cX11_appeal 67 = .ok (.istore 6, 2) := by decide +kernel
theorem dX11_appeal_69 : decode cX11_appeal 69 = .ok (.aload_n 0, 1) := by decide +kernel
theorem dX11_appeal_70 : decode cX11_appeal 70 = .ok (.getfield 26, 3) := by decide +kernel
theorem dX11_appeal_73 : decode cX11_appeal 73 = .ok (.iload_n 1, 1) := by decide +kernel
theorem dX11_appeal_74 : decode cX11_appeal 74 = .ok (.aload_n 3, 1) := by decide +kernel
theorem dX11_appeal_75 : decode cX11_appeal 75 = .ok (.iload_n 2, 1) := by decide +kernel
theorem dX11_appeal_76 : decode cX11_appeal 76 = .ok (.iload 6, 2) := by decide +kernel
theorem dX11_appeal_78 : decode cX11_appeal 78 = .ok (.ifCond .eq 7, 3) := by decide +kernel
theorem dX11_appeal_81 : decode cX11_appeal 81 = .ok (.iconst 2, 1) := by decide +kernel
theorem dX11_appeal_82 : decode cX11_appeal 82 = .ok (.goto 4, 3) := by decide +kernel
theorem dX11_appeal_85 : decode cX11_appeal 85 = .ok (.iconst 3, 1) := by decide +kernel
theorem dX11_appeal_86 : decode cX11_appeal 86 = .ok (.invokevirtual 368, 3) := by decide +kernel
theorem dX11_appeal_89 : decode cX11_appeal 89 = .ok (.invokevirtual 371, 3) := by decide +kernel
theorem dX11_appeal_92 : decode cX11_appeal 92 = .ok (.iload 6, 2) := by decide +kernel
theorem dX11_appeal_94 : decode cX11_appeal 94 = .ok (.ifCond .eq 32, 3) := by decide +kernel
theorem dX11_appeal_97 : decode cX11_appeal 97 = .ok (.aload_n 0, 1) := by decide +kernel
theorem dX11_appeal_98 : decode cX11_appeal 98 = .ok (.getfield 26, 3) := by decide +kernel
theorem dX11_appeal_101 : decode cX11_appeal 101 = .ok (.aload_n 3, 1) := by decide +kernel
theorem dX11_appeal_102 : decode cX11_appeal 102 = .ok (.getfield 169, 3) := by decide +kernel
theorem dX11_appeal_105 : decode cX11_appeal 105 = .ok (.iconst 2, 1) := by decide +kernel
theorem dX11_appeal_106 : decode cX11_appeal 106 = .ok (.aload 4, 2) := by decide +kernel
theorem dX11_appeal_108 : decode cX11_appeal 108 = .ok (.getfield 216, 3) := by decide +kernel
theorem dX11_appeal_111 : decode cX11_appeal 111 = .ok (.aload_n 0, 1) := by decide +kernel
theorem dX11_appeal_112 : decode cX11_appeal 112 = .ok (.getfield 26, 3) := by decide +kernel
theorem dX11_appeal_115 : decode cX11_appeal 115 = .ok (.iconst 3, 1) := by decide +kernel
theorem dX11_appeal_116 : decode cX11_appeal 116 = .ok (.invokevirtual 144, 3) := by decide +kernel
theorem dX11_appeal_119 : decode cX11_appeal 119 = .ok (.iadd, 1) := by decide +kernel
theorem dX11_appeal_120 : decode cX11_appeal 120 = .ok (.invokevirtual 375, 3) := by decide +kernel
theorem dX11_appeal_123 : decode cX11_appeal 123 = .ok (.goto 25, 3) := by decide +kernel
theorem dX11_appeal_126 : decode cX11_appeal 126 = .ok (.aload_n 0, 1) := by decide +kernel
theorem dX11_appeal_127 : decode cX11_appeal 127 = .ok (.getfield 26, 3) := by decide +kernel
theorem dX11_appeal_130 : decode cX11_appeal 130 = .ok (.aload_n 3, 1) := by decide +kernel
theorem dX11_appeal_131 : decode cX11_appeal 131 = .ok (.getfield 169, 3) := by decide +kernel
theorem dX11_appeal_134 : decode cX11_appeal 134 = .ok (.iconst 3, 1) := by decide +kernel
theorem dX11_appeal_135 : decode cX11_appeal 135 = .ok (.aload_n 0, 1) := by decide +kernel
theorem dX11_appeal_136 : decode cX11_appeal 136 = .ok (.getfield 26, 3) := by decide +kernel
theorem dX11_appeal_139 : decode cX11_appeal 139 = .ok (.bipush 6, 2) := by decide +kernel
theorem dX11_appeal_141 : decode cX11_appeal 141 = .ok (.invokevirtual 144, 3) := by decide +kernel
theorem dX11_appeal_144 : decode cX11_appeal 144 = .ok (.ineg, 1) := by decide +kernel
theorem dX11_appeal_145 : decode cX11_appeal 145 = .ok (.invokevirtual 375, 3) := by decide +kernel
theorem dX11_appeal_148 : decode cX11_appeal 148 = .ok (.iload 6, 2) := by decide +kernel
theorem dX11_appeal_150 : decode cX11_appeal 150 = .ok (.ifCond .eq 7, 3) := by decide +kernel
theorem dX11_appeal_153 : decode cX11_appeal 153 = .ok (.iconst 1, 1) := by decide +kernel
theorem dX11_appeal_154 : decode cX11_appeal 154 = .ok (.goto 4, 3) := by decide +kernel
theorem dX11_appeal_157 : decode cX11_appeal 157 = .ok (.iconst 0, 1) := by decide +kernel
theorem dX11_appeal_158 : decode cX11_appeal 158 = .ok (.ireturn, 1) := by decide +kernel
theorem rX11_appeal_0 {G : kz_G} {d : Nat} {mc ms : Nat} {Qr : Option Value → kz_M → Prop} {Qx : String → kz_M → Prop} {a0 : Nat} {p1 : Int32} {p2 : Int32}  {M : kz_M} (h : (∃ fs188, (M).1 a0 = some (.inl (10, fs188))) ∧ ∃ mc3 ms3, 0 + mc3 ≤ mc ∧ 0 + ms3 ≤ ms ∧ kz_C G (d + 8) mc3 ms3 mX11_workOrThrow [.ref a0, .int p1] M (fun v M1 => ∃ r2 : Nat, v = some (.ref r2) ∧ ((∃ fs187, (M1).1 a0 = some (.inl (10, fs187))) ∧ ∃ mc6 ms6, 0 + mc3 + mc6 ≤ mc ∧ 0 + ms3 + ms6 ≤ ms ∧ kz_C G (d + 8) mc6 ms6 mX11_lineOrThrow [.ref a0, .int p1, .int p2] M1 (fun v M4 => ∃ r5 : Nat, v = some (.ref r5) ∧ (∃ fs7 v8, (M4).1 a0 = some (.inl (10, fs7)) ∧ fs7[2]? = some (.ref v8) ∧ ((∃ fs186, (M4).1 v8 = some (.inl (8, fs186))) ∧ kz_C G (d + 8) 0 0 mX9_objectionTo [.ref v8, .ref r2, .ref r5] M4 (fun v M9 => ∃ r10 : Int32, v = some (.int r10) ∧ ((r10 = 0 → ∃ fs12 v13, (M9).1 a0 = some (.inl (10, fs12)) ∧ fs12[4]? = some (.ref v13) ∧ (∃ fs14 v15, (M9).1 a0 = some (.inl (10, fs14)) ∧ fs14[2]? = some (.ref v15) ∧ ((∃ fs185, (M9).1 v13 = some (.inl (0, fs185))) ∧ kz_C G (d + 8) 0 0 mX0_keep [.ref v13, .ref v15] M9 (fun v M16 => v = none ∧ ((∃ fs184, (M16).1 r5 = some (.inl (3, fs184))) ∧ kz_C G (d + 8) 0 0 mX3_different [.ref r5] M16 (fun v M19 => ∃ r20 : Int32, v = some (.int r20) ∧ (∃ fs22 v23, (M19).1 a0 = some (.inl (10, fs22)) ∧ fs22[2]? = some (.ref v23) ∧ ((∃ fs183, (M19).1 v23 = some (.inl (8, fs183))) ∧ kz_C G (d + 8) 0 0 mX9_rule [.ref v23, .int 5] M19 (fun v M24 => ∃ r25 : Int32, v = some (.int r25) ∧ ((r20 < r25 → ∃ fs27 v28, (M24).1 a0 = some (.inl (10, fs27)) ∧ fs27[2]? = some (.ref v28) ∧ (((0 : Int32) = 0 → (∃ fs66, (M24).1 r2 = some (.inl (9, fs66))) ∧ ∃ mc31 ms31, 0 + mc3 + mc6 + mc31 ≤ mc ∧ 0 + ms3 + ms6 + ms31 ≤ ms ∧ kz_C G (d + 8) mc31 ms31 mX10_withState [.ref r2, .int p2, .int 3] M24 (fun v M29 => ∃ r30 : Nat, v = some (.ref r30) ∧ ((∃ fs65, (M29).1 v28 = some (.inl (8, fs65))) ∧ kz_C G (d + 8) 0 0 mX9_replaceWork [.ref v28, .int p1, .ref r30] M29 (fun v M32 => v = none ∧ (((0 : Int32) = 0 → ∃ fs35 v36, (M32).1 a0 = some (.inl (10, fs35)) ∧ fs35[2]? = some (.ref v36) ∧ (∃ fs37 v38, (M32).1 r2 = some (.inl (9, fs37)) ∧ fs37[0]? = some (.int v38) ∧ (∃ fs39 v40, (M32).1 a0 = some (.inl (10, fs39)) ∧ fs39[2]? = some (.ref v40) ∧ ((∃ fs48, (M32).1 v40 = some (.inl (8, fs48))) ∧ kz_C G (d + 8) 0 0 mX9_rule [.ref v40, .int 6] M32 (fun v M41 => ∃ r42 : Int32, v = some (.int r42) ∧ ((∃ fs47, (M41).1 v36 = some (.inl (8, fs47))) ∧ kz_C G (d + 8) 0 0 mX9_book [.ref v36, .int v38, .int 3, .int (-r42)] M41 (fun v M44 => v = none ∧ (((0 : Int32) = 0 → Qr (some (.int 0)) M44) ∧ (¬ (0 : Int32) = 0 → Qr (some (.int 1)) M44))) Qx)) Qx)))) ∧ (¬ (0 : Int32) = 0 → ∃ fs49 v50, (M32).1 a0 = some (.inl (10, fs49)) ∧ fs49[2]? = some (.ref v50) ∧ (∃ fs51 v52, (M32).1 r2 = some (.inl (9, fs51)) ∧ fs51[0]? = some (.int v52) ∧ (∃ fs53 v54, (M32).1 r5 = some (.inl (3, fs53)) ∧ fs53[4]? = some (.int v54) ∧ (∃ fs55 v56, (M32).1 a0 = some (.inl (10, fs55)) ∧ fs55[2]? = some (.ref v56) ∧ ((∃ fs64, (M32).1 v56 = some (.inl (8, fs64))) ∧ kz_C G (d + 8) 0 0 mX9_rule [.ref v56, .int 3] M32 (fun v M57 => ∃ r58 : Int32, v = some (.int r58) ∧ ((∃ fs63, (M57).1 v50 = some (.inl (8, fs63))) ∧ kz_C G (d + 8) 0 0 mX9_book [.ref v50, .int v52, .int 2, .int (v54 + r58)] M57 (fun v M60 => v = none ∧ (((0 : Int32) = 0 → Qr (some (.int 0)) M60) ∧ (¬ (0 : Int32) = 0 → Qr (some (.int 1)) M60))) Qx)) Qx))))))) Qx)) Qx) ∧ (¬ (0 : Int32) = 0 → (∃ fs104, (M24).1 r2 = some (.inl (9, fs104))) ∧ ∃ mc69 ms69, 0 + mc3 + mc6 + mc69 ≤ mc ∧ 0 + ms3 + ms6 + ms69 ≤ ms ∧ kz_C G (d + 8) mc69 ms69 mX10_withState [.ref r2, .int p2, .int 2] M24 (fun v M67 => ∃ r68 : Nat, v = some (.ref r68) ∧ ((∃ fs103, (M67).1 v28 = some (.inl (8, fs103))) ∧ kz_C G (d + 8) 0 0 mX9_replaceWork [.ref v28, .int p1, .ref r68] M67 (fun v M70 => v = none ∧ (((0 : Int32) = 0 → ∃ fs73 v74, (M70).1 a0 = some (.inl (10, fs73)) ∧ fs73[2]? = some (.ref v74) ∧ (∃ fs75 v76, (M70).1 r2 = some (.inl (9, fs75)) ∧ fs75[0]? = some (.int v76) ∧ (∃ fs77 v78, (M70).1 a0 = some (.inl (10, fs77)) ∧ fs77[2]? = some (.ref v78) ∧ ((∃ fs86, (M70).1 v78 = some (.inl (8, fs86))) ∧ kz_C G (d + 8) 0 0 mX9_rule [.ref v78, .int 6] M70 (fun v M79 => ∃ r80 : Int32, v = some (.int r80) ∧ ((∃ fs85, (M79).1 v74 = some (.inl (8, fs85))) ∧ kz_C G (d + 8) 0 0 mX9_book [.ref v74, .int v76, .int 3, .int (-r80)] M79 (fun v M82 => v = none ∧ (((0 : Int32) = 0 → Qr (some (.int 0)) M82) ∧ (¬ (0 : Int32) = 0 → Qr (some (.int 1)) M82))) Qx)) Qx)))) ∧ (¬ (0 : Int32) = 0 → ∃ fs87 v88, (M70).1 a0 = some (.inl (10, fs87)) ∧ fs87[2]? = some (.ref v88) ∧ (∃ fs89 v90, (M70).1 r2 = some (.inl (9, fs89)) ∧ fs89[0]? = some (.int v90) ∧ (∃ fs91 v92, (M70).1 r5 = some (.inl (3, fs91)) ∧ fs91[4]? = some (.int v92) ∧ (∃ fs93 v94, (M70).1 a0 = some (.inl (10, fs93)) ∧ fs93[2]? = some (.ref v94) ∧ ((∃ fs102, (M70).1 v94 = some (.inl (8, fs102))) ∧ kz_C G (d + 8) 0 0 mX9_rule [.ref v94, .int 3] M70 (fun v M95 => ∃ r96 : Int32, v = some (.int r96) ∧ ((∃ fs101, (M95).1 v88 = some (.inl (8, fs101))) ∧ kz_C G (d + 8) 0 0 mX9_book [.ref v88, .int v90, .int 2, .int (v92 + r96)] M95 (fun v M98 => v = none ∧ (((0 : Int32) = 0 → Qr (some (.int 0)) M98) ∧ (¬ (0 : Int32) = 0 → Qr (some (.int 1)) M98))) Qx)) Qx))))))) Qx)) Qx))) ∧ (¬ r20 < r25 → ∃ fs105 v106, (M24).1 a0 = some (.inl (10, fs105)) ∧ fs105[2]? = some (.ref v106) ∧ (((1 : Int32) = 0 → (∃ fs144, (M24).1 r2 = some (.inl (9, fs144))) ∧ ∃ mc109 ms109, 0 + mc3 + mc6 + mc109 ≤ mc ∧ 0 + ms3 + ms6 + ms109 ≤ ms ∧ kz_C G (d + 8) mc109 ms109 mX10_withState [.ref r2, .int p2, .int 3] M24 (fun v M107 => ∃ r108 : Nat, v = some (.ref r108) ∧ ((∃ fs143, (M107).1 v106 = some (.inl (8, fs143))) ∧ kz_C G (d + 8) 0 0 mX9_replaceWork [.ref v106, .int p1, .ref r108] M107 (fun v M110 => v = none ∧ (((1 : Int32) = 0 → ∃ fs113 v114, (M110).1 a0 = some (.inl (10, fs113)) ∧ fs113[2]? = some (.ref v114) ∧ (∃ fs115 v116, (M110).1 r2 = some (.inl (9, fs115)) ∧ fs115[0]? = some (.int v116) ∧ (∃ fs117 v118, (M110).1 a0 = some (.inl (10, fs117)) ∧ fs117[2]? = some (.ref v118) ∧ ((∃ fs126, (M110).1 v118 = some (.inl (8, fs126))) ∧ kz_C G (d + 8) 0 0 mX9_rule [.ref v118, .int 6] M110 (fun v M119 => ∃ r120 : Int32, v = some (.int r120) ∧ ((∃ fs125, (M119).1 v114 = some (.inl (8, fs125))) ∧ kz_C G (d + 8) 0 0 mX9_book [.ref v114, .int v116, .int 3, .int (-r120)] M119 (fun v M122 => v = none ∧ (((1 : Int32) = 0 → Qr (some (.int 0)) M122) ∧ (¬ (1 : Int32) = 0 → Qr (some (.int 1)) M122))) Qx)) Qx)))) ∧ (¬ (1 : Int32) = 0 → ∃ fs127 v128, (M110).1 a0 = some (.inl (10, fs127)) ∧ fs127[2]? = some (.ref v128) ∧ (∃ fs129 v130, (M110).1 r2 = some (.inl (9, fs129)) ∧ fs129[0]? = some (.int v130) ∧ (∃ fs131 v132, (M110).1 r5 = some (.inl (3, fs131)) ∧ fs131[4]? = some (.int v132) ∧ (∃ fs133 v134, (M110).1 a0 = some (.inl (10, fs133)) ∧ fs133[2]? = some (.ref v134) ∧ ((∃ fs142, (M110).1 v134 = some (.inl (8, fs142))) ∧ kz_C G (d + 8) 0 0 mX9_rule [.ref v134, .int 3] M110 (fun v M135 => ∃ r136 : Int32, v = some (.int r136) ∧ ((∃ fs141, (M135).1 v128 = some (.inl (8, fs141))) ∧ kz_C G (d + 8) 0 0 mX9_book [.ref v128, .int v130, .int 2, .int (v132 + r136)] M135 (fun v M138 => v = none ∧ (((1 : Int32) = 0 → Qr (some (.int 0)) M138) ∧ (¬ (1 : Int32) = 0 → Qr (some (.int 1)) M138))) Qx)) Qx))))))) Qx)) Qx) ∧ (¬ (1 : Int32) = 0 → (∃ fs182, (M24).1 r2 = some (.inl (9, fs182))) ∧ ∃ mc147 ms147, 0 + mc3 + mc6 + mc147 ≤ mc ∧ 0 + ms3 + ms6 + ms147 ≤ ms ∧ kz_C G (d + 8) mc147 ms147 mX10_withState [.ref r2, .int p2, .int 2] M24 (fun v M145 => ∃ r146 : Nat, v = some (.ref r146) ∧ ((∃ fs181, (M145).1 v106 = some (.inl (8, fs181))) ∧ kz_C G (d + 8) 0 0 mX9_replaceWork [.ref v106, .int p1, .ref r146] M145 (fun v M148 => v = none ∧ (((1 : Int32) = 0 → ∃ fs151 v152, (M148).1 a0 = some (.inl (10, fs151)) ∧ fs151[2]? = some (.ref v152) ∧ (∃ fs153 v154, (M148).1 r2 = some (.inl (9, fs153)) ∧ fs153[0]? = some (.int v154) ∧ (∃ fs155 v156, (M148).1 a0 = some (.inl (10, fs155)) ∧ fs155[2]? = some (.ref v156) ∧ ((∃ fs164, (M148).1 v156 = some (.inl (8, fs164))) ∧ kz_C G (d + 8) 0 0 mX9_rule [.ref v156, .int 6] M148 (fun v M157 => ∃ r158 : Int32, v = some (.int r158) ∧ ((∃ fs163, (M157).1 v152 = some (.inl (8, fs163))) ∧ kz_C G (d + 8) 0 0 mX9_book [.ref v152, .int v154, .int 3, .int (-r158)] M157 (fun v M160 => v = none ∧ (((1 : Int32) = 0 → Qr (some (.int 0)) M160) ∧ (¬ (1 : Int32) = 0 → Qr (some (.int 1)) M160))) Qx)) Qx)))) ∧ (¬ (1 : Int32) = 0 → ∃ fs165 v166, (M148).1 a0 = some (.inl (10, fs165)) ∧ fs165[2]? = some (.ref v166) ∧ (∃ fs167 v168, (M148).1 r2 = some (.inl (9, fs167)) ∧ fs167[0]? = some (.int v168) ∧ (∃ fs169 v170, (M148).1 r5 = some (.inl (3, fs169)) ∧ fs169[4]? = some (.int v170) ∧ (∃ fs171 v172, (M148).1 a0 = some (.inl (10, fs171)) ∧ fs171[2]? = some (.ref v172) ∧ ((∃ fs180, (M148).1 v172 = some (.inl (8, fs180))) ∧ kz_C G (d + 8) 0 0 mX9_rule [.ref v172, .int 3] M148 (fun v M173 => ∃ r174 : Int32, v = some (.int r174) ∧ ((∃ fs179, (M173).1 v166 = some (.inl (8, fs179))) ∧ kz_C G (d + 8) 0 0 mX9_book [.ref v166, .int v168, .int 2, .int (v170 + r174)] M173 (fun v M176 => v = none ∧ (((1 : Int32) = 0 → Qr (some (.int 0)) M176) ∧ (¬ (1 : Int32) = 0 → Qr (some (.int 1)) M176))) Qx)) Qx))))))) Qx)) Qx))))) Qx))) Qx)) Qx))) ∧ (¬ r10 = 0 → Qr (some (.int (-r10))) M9))) Qx))) Qx)) Qx) : kz_C G (d + 9) mc ms mX11_appeal [.ref a0, .int p1, .int p2] M Qr Qx := by
  refine kz_enter (n := 2) kmX11_appeal.1 (Nat.le_of_ble_eq_true rfl) (ls := [(0, .ref a0), (1, .int p1), (2, .int p2)]) rfl ?_
  refine kz_aload_n (pc := 0) 0 (v := .ref a0) (i := 0) rfl rfl rfl dX11_appeal_0 ?_
  refine kz_iload_n (pc := 1) 1 (i := 1) rfl rfl dX11_appeal_1 ?_
  obtain ⟨⟨fs188, he⟩, h⟩ := h
  obtain ⟨mc3, ms3, hc3, hs3, h⟩ := h
  refine kz_callV (pc := 2) (μ' := mX11_workOrThrow) (ci := 10) (q := (RX11, TX11, 10)) (b := a0) (d' := d + 8) (mc' := mc3) (ms' := ms3) (As := [.int p1]) (st := []) (c := 0) (sl := 0) kmX11_workOrThrow kw_744 (by omega) rfl (Nat.le_of_ble_eq_true rfl) he rfl rfl hc3 hs3 dX11_appeal_2 (fun E M9 hx => kz_Tout rfl hc3 hs3 hx) (kz_Cmono (fun v M1 h => ?_) (fun _ _ h => h) h)
  obtain ⟨r2, rfl, h⟩ := h
  show kz_Z G (d + 9) mc ms mX11_appeal Qr Qx 5 [(0, .ref a0), (1, .int p1), (2, .int p2)] [.ref r2] M1 (0 + mc3) (0 + ms3)
  refine kz_astore_n (pc := 5) (i := 3) (v := .ref r2) (ls' := [(0, .ref a0), (1, .int p1), (2, .int p2)]) rfl rfl (by decide) rfl dX11_appeal_5 ?_
  refine kz_aload_n (pc := 6) 1 (v := .ref a0) (i := 0) rfl rfl rfl dX11_appeal_6 ?_
  refine kz_iload_n (pc := 7) 2 (i := 1) rfl rfl dX11_appeal_7 ?_
  refine kz_iload_n (pc := 8) 3 (i := 2) rfl rfl dX11_appeal_8 ?_
  obtain ⟨⟨fs187, he⟩, h⟩ := h
  obtain ⟨mc6, ms6, hc6, hs6, h⟩ := h
  refine kz_callV (pc := 9) (μ' := mX11_lineOrThrow) (ci := 10) (q := (RX11, TX11, 10)) (b := a0) (d' := d + 8) (mc' := mc6) (ms' := ms6) (As := [.int p1, .int p2]) (st := []) (c := 0 + mc3) (sl := 0 + ms3) kmX11_lineOrThrow kw_770 (by omega) rfl (Nat.le_of_ble_eq_true rfl) he rfl rfl hc6 hs6 dX11_appeal_9 (fun E M9 hx => kz_Tout rfl hc6 hs6 hx) (kz_Cmono (fun v M4 h => ?_) (fun _ _ h => h) h)
  obtain ⟨r5, rfl, h⟩ := h
  show kz_Z G (d + 9) mc ms mX11_appeal Qr Qx 12 [(3, .ref r2), (0, .ref a0), (1, .int p1), (2, .int p2)] [.ref r5] M4 (0 + mc3 + mc6) (0 + ms3 + ms6)
  refine kz_astore (pc := 12) (i := 4) (v := .ref r5) (ls' := [(3, .ref r2), (0, .ref a0), (1, .int p1), (2, .int p2)]) rfl (by decide) rfl dX11_appeal_12 ?_
  refine kz_aload_n (pc := 14) 2 (v := .ref a0) (i := 0) rfl rfl rfl dX11_appeal_14 ?_
  obtain ⟨fs7, v8, hM, hv, h⟩ := h
  refine kz_getf (pc := 15) (k := 2) kcX11 hM hv (by decide) kw_277 dX11_appeal_15 ?_
  refine kz_aload_n (pc := 18) 1 (v := .ref r2) (i := 3) rfl rfl rfl dX11_appeal_18 ?_
  refine kz_aload (pc := 19) 0 (v := .ref r5) (i := 4) rfl rfl dX11_appeal_19 ?_
  obtain ⟨⟨fs186, he⟩, h⟩ := h
  refine kz_callV (pc := 21) (μ' := mX9_objectionTo) (ci := 8) (q := (RX9, TX9, 10)) (b := v8) (d' := d + 8) (mc' := 0) (ms' := 0) (As := [.ref r2, .ref r5]) (st := []) (c := 0 + mc3 + mc6) (sl := 0 + ms3 + ms6) kmX9_objectionTo kw_1147 (by omega) rfl (Nat.le_of_ble_eq_true rfl) he rfl rfl hc6 hs6 dX11_appeal_21 (fun E M9 hx => kz_Tout rfl hc6 hs6 hx) (kz_Cmono (fun v M9 h => ?_) (fun _ _ h => h) h)
  obtain ⟨r10, rfl, h⟩ := h
  show kz_Z G (d + 9) mc ms mX11_appeal Qr Qx 24 [(4, .ref r5), (3, .ref r2), (0, .ref a0), (1, .int p1), (2, .int p2)] [.int r10] M9 (0 + mc3 + mc6) (0 + ms3 + ms6)
  refine kz_istore (pc := 24) (i := 5) (ls' := [(4, .ref r5), (3, .ref r2), (0, .ref a0), (1, .int p1), (2, .int p2)]) (by decide) rfl dX11_appeal_24 ?_
  refine kz_iload (pc := 26) 0 (i := 5) rfl dX11_appeal_26 ?_
  refine kz_if_eq (pc := 28) (tgt := 35) (by decide) dX11_appeal_28 (fun hb => ?_) (fun hb => ?_)
  · replace h := h.1 hb
    refine kz_aload_n (pc := 35) 3 (v := .ref a0) (i := 0) rfl rfl rfl dX11_appeal_35 ?_
    obtain ⟨fs12, v13, hM, hv, h⟩ := h
    refine kz_getf (pc := 36) (k := 4) kcX11 hM hv (by decide) kw_279 dX11_appeal_36 ?_
    refine kz_aload_n (pc := 39) 3 (v := .ref a0) (i := 0) rfl rfl rfl dX11_appeal_39 ?_
    obtain ⟨fs14, v15, hM, hv, h⟩ := h
    refine kz_getf (pc := 40) (k := 2) kcX11 hM hv (by decide) kw_277 dX11_appeal_40 ?_
    obtain ⟨⟨fs185, he⟩, h⟩ := h
    refine kz_callV (pc := 43) (μ' := mX0_keep) (ci := 0) (q := (RX0, TX0, 3)) (b := v13) (d' := d + 8) (mc' := 0) (ms' := 0) (As := [.ref v15]) (st := []) (c := 0 + mc3 + mc6) (sl := 0 + ms3 + ms6) kmX0_keep kw_464 (by omega) rfl (Nat.le_of_ble_eq_true rfl) he rfl rfl hc6 hs6 dX11_appeal_43 (fun E M9 hx => kz_Tout rfl hc6 hs6 hx) (kz_Cmono (fun v M16 h => ?_) (fun _ _ h => h) h)
    obtain ⟨rfl, h⟩ := h
    show kz_Z G (d + 9) mc ms mX11_appeal Qr Qx 46 [(5, .int r10), (4, .ref r5), (3, .ref r2), (0, .ref a0), (1, .int p1), (2, .int p2)] [] M16 (0 + mc3 + mc6) (0 + ms3 + ms6)
    refine kz_aload (pc := 46) 1 (v := .ref r5) (i := 4) rfl rfl dX11_appeal_46 ?_
    obtain ⟨⟨fs184, he⟩, h⟩ := h
    refine kz_callV (pc := 48) (μ' := mX3_different) (ci := 3) (q := (RX3, TX3, 7)) (b := r5) (d' := d + 8) (mc' := 0) (ms' := 0) (As := []) (st := []) (c := 0 + mc3 + mc6) (sl := 0 + ms3 + ms6) kmX3_different kw_776 (by omega) rfl (Nat.le_of_ble_eq_true rfl) he rfl rfl hc6 hs6 dX11_appeal_48 (fun E M9 hx => kz_Tout rfl hc6 hs6 hx) (kz_Cmono (fun v M19 h => ?_) (fun _ _ h => h) h)
    obtain ⟨r20, rfl, h⟩ := h
    show kz_Z G (d + 9) mc ms mX11_appeal Qr Qx 51 [(5, .int r10), (4, .ref r5), (3, .ref r2), (0, .ref a0), (1, .int p1), (2, .int p2)] [.int r20] M19 (0 + mc3 + mc6) (0 + ms3 + ms6)
    refine kz_aload_n (pc := 51) 3 (v := .ref a0) (i := 0) rfl rfl rfl dX11_appeal_51 ?_
    obtain ⟨fs22, v23, hM, hv, h⟩ := h
    refine kz_getf (pc := 52) (k := 2) kcX11 hM hv (by decide) kw_277 dX11_appeal_52 ?_
    refine kz_iconst (pc := 55) (v := 5) (by decide) dX11_appeal_55 ?_
    obtain ⟨⟨fs183, he⟩, h⟩ := h
    refine kz_callV (pc := 56) (μ' := mX9_rule) (ci := 8) (q := (RX9, TX9, 10)) (b := v23) (d' := d + 8) (mc' := 0) (ms' := 0) (As := [.int 5]) (st := [.int r20]) (c := 0 + mc3 + mc6) (sl := 0 + ms3 + ms6) kmX9_rule kw_629 (by omega) rfl (Nat.le_of_ble_eq_true rfl) he rfl rfl hc6 hs6 dX11_appeal_56 (fun E M9 hx => kz_Tout rfl hc6 hs6 hx) (kz_Cmono (fun v M24 h => ?_) (fun _ _ h => h) h)
    obtain ⟨r25, rfl, h⟩ := h
    show kz_Z G (d + 9) mc ms mX11_appeal Qr Qx 59 [(5, .int r10), (4, .ref r5), (3, .ref r2), (0, .ref a0), (1, .int p1), (2, .int p2)] [.int r25, .int r20] M24 (0 + mc3 + mc6) (0 + ms3 + ms6)
    refine kz_icmp_lt (pc := 59) (tgt := 66) (by decide) dX11_appeal_59 (fun hb => ?_) (fun hb => ?_)
    · replace h := h.1 hb
      refine kz_iconst (pc := 66) (v := 0) (by decide) dX11_appeal_66 ?_
      refine kz_istore (pc := 67) (i := 6) (ls' := [(5, .int r10), (4, .ref r5), (3, .ref r2), (0, .ref a0), (1, .int p1), (2, .int p2)]) (by decide) rfl dX11_appeal_67 ?_
      refine kz_aload_n (pc := 69) 4 (v := .ref a0) (i := 0) rfl rfl rfl dX11_appeal_69 ?_
      obtain ⟨fs27, v28, hM, hv, h⟩ := h
      refine kz_getf (pc := 70) (k := 2) kcX11 hM hv (by decide) kw_277 dX11_appeal_70 ?_
      refine kz_iload_n (pc := 73) 5 (i := 1) rfl rfl dX11_appeal_73 ?_
      refine kz_aload_n (pc := 74) 3 (v := .ref r2) (i := 3) rfl rfl rfl dX11_appeal_74 ?_
      refine kz_iload_n (pc := 75) 6 (i := 2) rfl rfl dX11_appeal_75 ?_
      refine kz_iload (pc := 76) 0 (i := 6) rfl dX11_appeal_76 ?_
      refine kz_if_eq (pc := 78) (tgt := 85) (by decide) dX11_appeal_78 (fun hb => ?_) (fun hb => ?_)
      · replace h := h.1 hb
        refine kz_iconst (pc := 85) (v := 3) (by decide) dX11_appeal_85 ?_
        obtain ⟨⟨fs66, he⟩, h⟩ := h
        obtain ⟨mc31, ms31, hc31, hs31, h⟩ := h
        refine kz_callV (pc := 86) (μ' := mX10_withState) (ci := 9) (q := (RX10, TX10, 4)) (b := r2) (d' := d + 8) (mc' := mc31) (ms' := ms31) (As := [.int p2, .int 3]) (st := [.int p1, .ref v28]) (c := 0 + mc3 + mc6) (sl := 0 + ms3 + ms6) kmX10_withState kw_1219 (by omega) rfl (Nat.le_of_ble_eq_true rfl) he rfl rfl hc31 hs31 dX11_appeal_86 (fun E M9 hx => kz_Tout rfl hc31 hs31 hx) (kz_Cmono (fun v M29 h => ?_) (fun _ _ h => h) h)
        obtain ⟨r30, rfl, h⟩ := h
        show kz_Z G (d + 9) mc ms mX11_appeal Qr Qx 89 [(6, .int 0), (5, .int r10), (4, .ref r5), (3, .ref r2), (0, .ref a0), (1, .int p1), (2, .int p2)] [.ref r30, .int p1, .ref v28] M29 (0 + mc3 + mc6 + mc31) (0 + ms3 + ms6 + ms31)
        obtain ⟨⟨fs65, he⟩, h⟩ := h
        refine kz_callV (pc := 89) (μ' := mX9_replaceWork) (ci := 8) (q := (RX9, TX9, 10)) (b := v28) (d' := d + 8) (mc' := 0) (ms' := 0) (As := [.int p1, .ref r30]) (st := []) (c := 0 + mc3 + mc6 + mc31) (sl := 0 + ms3 + ms6 + ms31) kmX9_replaceWork kw_1240 (by omega) rfl (Nat.le_of_ble_eq_true rfl) he rfl rfl hc31 hs31 dX11_appeal_89 (fun E M9 hx => kz_Tout rfl hc31 hs31 hx) (kz_Cmono (fun v M32 h => ?_) (fun _ _ h => h) h)
        obtain ⟨rfl, h⟩ := h
        show kz_Z G (d + 9) mc ms mX11_appeal Qr Qx 92 [(6, .int 0), (5, .int r10), (4, .ref r5), (3, .ref r2), (0, .ref a0), (1, .int p1), (2, .int p2)] [] M32 (0 + mc3 + mc6 + mc31) (0 + ms3 + ms6 + ms31)
        refine kz_iload (pc := 92) 0 (i := 6) rfl dX11_appeal_92 ?_
        refine kz_if_eq (pc := 94) (tgt := 126) (by decide) dX11_appeal_94 (fun hb => ?_) (fun hb => ?_)
        · replace h := h.1 hb
          refine kz_aload_n (pc := 126) 4 (v := .ref a0) (i := 0) rfl rfl rfl dX11_appeal_126 ?_
          obtain ⟨fs35, v36, hM, hv, h⟩ := h
          refine kz_getf (pc := 127) (k := 2) kcX11 hM hv (by decide) kw_277 dX11_appeal_127 ?_
          refine kz_aload_n (pc := 130) 3 (v := .ref r2) (i := 3) rfl rfl rfl dX11_appeal_130 ?_
          obtain ⟨fs37, v38, hM, hv, h⟩ := h
          refine kz_getf (pc := 131) (k := 0) kcX10 hM hv (by decide) kw_1070 dX11_appeal_131 ?_
          refine kz_iconst (pc := 134) (v := 3) (by decide) dX11_appeal_134 ?_
          refine kz_aload_n (pc := 135) 4 (v := .ref a0) (i := 0) rfl rfl rfl dX11_appeal_135 ?_
          obtain ⟨fs39, v40, hM, hv, h⟩ := h
          refine kz_getf (pc := 136) (k := 2) kcX11 hM hv (by decide) kw_277 dX11_appeal_136 ?_
          refine kz_bipush (pc := 139) (v := 6) (by decide) dX11_appeal_139 ?_
          obtain ⟨⟨fs48, he⟩, h⟩ := h
          refine kz_callV (pc := 141) (μ' := mX9_rule) (ci := 8) (q := (RX9, TX9, 10)) (b := v40) (d' := d + 8) (mc' := 0) (ms' := 0) (As := [.int 6]) (st := [.int 3, .int v38, .ref v36]) (c := 0 + mc3 + mc6 + mc31) (sl := 0 + ms3 + ms6 + ms31) kmX9_rule kw_629 (by omega) rfl (Nat.le_of_ble_eq_true rfl) he rfl rfl hc31 hs31 dX11_appeal_141 (fun E M9 hx => kz_Tout rfl hc31 hs31 hx) (kz_Cmono (fun v M41 h => ?_) (fun _ _ h => h) h)
          obtain ⟨r42, rfl, h⟩ := h
          show kz_Z G (d + 9) mc ms mX11_appeal Qr Qx 144 [(6, .int 0), (5, .int r10), (4, .ref r5), (3, .ref r2), (0, .ref a0), (1, .int p1), (2, .int p2)] [.int r42, .int 3, .int v38, .ref v36] M41 (0 + mc3 + mc6 + mc31) (0 + ms3 + ms6 + ms31)
          refine kz_ineg (pc := 144) dX11_appeal_144 ?_
          obtain ⟨⟨fs47, he⟩, h⟩ := h
          refine kz_callV (pc := 145) (μ' := mX9_book) (ci := 8) (q := (RX9, TX9, 10)) (b := v36) (d' := d + 8) (mc' := 0) (ms' := 0) (As := [.int v38, .int 3, .int (-r42)]) (st := []) (c := 0 + mc3 + mc6 + mc31) (sl := 0 + ms3 + ms6 + ms31) kmX9_book kw_1241 (by omega) rfl (Nat.le_of_ble_eq_true rfl) he rfl rfl hc31 hs31 dX11_appeal_145 (fun E M9 hx => kz_Tout rfl hc31 hs31 hx) (kz_Cmono (fun v M44 h => ?_) (fun _ _ h => h) h)
          obtain ⟨rfl, h⟩ := h
          show kz_Z G (d + 9) mc ms mX11_appeal Qr Qx 148 [(6, .int 0), (5, .int r10), (4, .ref r5), (3, .ref r2), (0, .ref a0), (1, .int p1), (2, .int p2)] [] M44 (0 + mc3 + mc6 + mc31) (0 + ms3 + ms6 + ms31)
          refine kz_iload (pc := 148) 0 (i := 6) rfl dX11_appeal_148 ?_
          refine kz_if_eq (pc := 150) (tgt := 157) (by decide) dX11_appeal_150 (fun hb => ?_) (fun hb => ?_)
          · replace h := h.1 hb
            refine kz_iconst (pc := 157) (v := 0) (by decide) dX11_appeal_157 ?_
            exact kz_iret (pc := 158) rfl hc31 hs31 dX11_appeal_158 h
          · replace h := h.2 hb
            refine kz_iconst (pc := 153) (v := 1) (by decide) dX11_appeal_153 ?_
            refine kz_goto (pc := 154) (tgt := 158) (by decide) dX11_appeal_154 ?_
            exact kz_iret (pc := 158) rfl hc31 hs31 dX11_appeal_158 h
        · replace h := h.2 hb
          refine kz_aload_n (pc := 97) 4 (v := .ref a0) (i := 0) rfl rfl rfl dX11_appeal_97 ?_
          obtain ⟨fs49, v50, hM, hv, h⟩ := h
          refine kz_getf (pc := 98) (k := 2) kcX11 hM hv (by decide) kw_277 dX11_appeal_98 ?_
          refine kz_aload_n (pc := 101) 3 (v := .ref r2) (i := 3) rfl rfl rfl dX11_appeal_101 ?_
          obtain ⟨fs51, v52, hM, hv, h⟩ := h
          refine kz_getf (pc := 102) (k := 0) kcX10 hM hv (by decide) kw_1070 dX11_appeal_102 ?_
          refine kz_iconst (pc := 105) (v := 2) (by decide) dX11_appeal_105 ?_
          refine kz_aload (pc := 106) 2 (v := .ref r5) (i := 4) rfl rfl dX11_appeal_106 ?_
          obtain ⟨fs53, v54, hM, hv, h⟩ := h
          refine kz_getf (pc := 108) (k := 4) kcX3 hM hv (by decide) kw_1047 dX11_appeal_108 ?_
          refine kz_aload_n (pc := 111) 4 (v := .ref a0) (i := 0) rfl rfl rfl dX11_appeal_111 ?_
          obtain ⟨fs55, v56, hM, hv, h⟩ := h
          refine kz_getf (pc := 112) (k := 2) kcX11 hM hv (by decide) kw_277 dX11_appeal_112 ?_
          refine kz_iconst (pc := 115) (v := 3) (by decide) dX11_appeal_115 ?_
          obtain ⟨⟨fs64, he⟩, h⟩ := h
          refine kz_callV (pc := 116) (μ' := mX9_rule) (ci := 8) (q := (RX9, TX9, 10)) (b := v56) (d' := d + 8) (mc' := 0) (ms' := 0) (As := [.int 3]) (st := [.int v54, .int 2, .int v52, .ref v50]) (c := 0 + mc3 + mc6 + mc31) (sl := 0 + ms3 + ms6 + ms31) kmX9_rule kw_629 (by omega) rfl (Nat.le_of_ble_eq_true rfl) he rfl rfl hc31 hs31 dX11_appeal_116 (fun E M9 hx => kz_Tout rfl hc31 hs31 hx) (kz_Cmono (fun v M57 h => ?_) (fun _ _ h => h) h)
          obtain ⟨r58, rfl, h⟩ := h
          show kz_Z G (d + 9) mc ms mX11_appeal Qr Qx 119 [(6, .int 0), (5, .int r10), (4, .ref r5), (3, .ref r2), (0, .ref a0), (1, .int p1), (2, .int p2)] [.int r58, .int v54, .int 2, .int v52, .ref v50] M57 (0 + mc3 + mc6 + mc31) (0 + ms3 + ms6 + ms31)
          refine kz_iadd (pc := 119) dX11_appeal_119 ?_
          obtain ⟨⟨fs63, he⟩, h⟩ := h
          refine kz_callV (pc := 120) (μ' := mX9_book) (ci := 8) (q := (RX9, TX9, 10)) (b := v50) (d' := d + 8) (mc' := 0) (ms' := 0) (As := [.int v52, .int 2, .int (v54 + r58)]) (st := []) (c := 0 + mc3 + mc6 + mc31) (sl := 0 + ms3 + ms6 + ms31) kmX9_book kw_1241 (by omega) rfl (Nat.le_of_ble_eq_true rfl) he rfl rfl hc31 hs31 dX11_appeal_120 (fun E M9 hx => kz_Tout rfl hc31 hs31 hx) (kz_Cmono (fun v M60 h => ?_) (fun _ _ h => h) h)
          obtain ⟨rfl, h⟩ := h
          show kz_Z G (d + 9) mc ms mX11_appeal Qr Qx 123 [(6, .int 0), (5, .int r10), (4, .ref r5), (3, .ref r2), (0, .ref a0), (1, .int p1), (2, .int p2)] [] M60 (0 + mc3 + mc6 + mc31) (0 + ms3 + ms6 + ms31)
          refine kz_goto (pc := 123) (tgt := 148) (by decide) dX11_appeal_123 ?_
          refine kz_iload (pc := 148) 0 (i := 6) rfl dX11_appeal_148 ?_
          refine kz_if_eq (pc := 150) (tgt := 157) (by decide) dX11_appeal_150 (fun hb => ?_) (fun hb => ?_)
          · replace h := h.1 hb
            refine kz_iconst (pc := 157) (v := 0) (by decide) dX11_appeal_157 ?_
            exact kz_iret (pc := 158) rfl hc31 hs31 dX11_appeal_158 h
          · replace h := h.2 hb
            refine kz_iconst (pc := 153) (v := 1) (by decide) dX11_appeal_153 ?_
            refine kz_goto (pc := 154) (tgt := 158) (by decide) dX11_appeal_154 ?_
            exact kz_iret (pc := 158) rfl hc31 hs31 dX11_appeal_158 h
      · replace h := h.2 hb
        refine kz_iconst (pc := 81) (v := 2) (by decide) dX11_appeal_81 ?_
        refine kz_goto (pc := 82) (tgt := 86) (by decide) dX11_appeal_82 ?_
        obtain ⟨⟨fs104, he⟩, h⟩ := h
        obtain ⟨mc69, ms69, hc69, hs69, h⟩ := h
        refine kz_callV (pc := 86) (μ' := mX10_withState) (ci := 9) (q := (RX10, TX10, 4)) (b := r2) (d' := d + 8) (mc' := mc69) (ms' := ms69) (As := [.int p2, .int 2]) (st := [.int p1, .ref v28]) (c := 0 + mc3 + mc6) (sl := 0 + ms3 + ms6) kmX10_withState kw_1219 (by omega) rfl (Nat.le_of_ble_eq_true rfl) he rfl rfl hc69 hs69 dX11_appeal_86 (fun E M9 hx => kz_Tout rfl hc69 hs69 hx) (kz_Cmono (fun v M67 h => ?_) (fun _ _ h => h) h)
        obtain ⟨r68, rfl, h⟩ := h
        show kz_Z G (d + 9) mc ms mX11_appeal Qr Qx 89 [(6, .int 0), (5, .int r10), (4, .ref r5), (3, .ref r2), (0, .ref a0), (1, .int p1), (2, .int p2)] [.ref r68, .int p1, .ref v28] M67 (0 + mc3 + mc6 + mc69) (0 + ms3 + ms6 + ms69)
        obtain ⟨⟨fs103, he⟩, h⟩ := h
        refine kz_callV (pc := 89) (μ' := mX9_replaceWork) (ci := 8) (q := (RX9, TX9, 10)) (b := v28) (d' := d + 8) (mc' := 0) (ms' := 0) (As := [.int p1, .ref r68]) (st := []) (c := 0 + mc3 + mc6 + mc69) (sl := 0 + ms3 + ms6 + ms69) kmX9_replaceWork kw_1240 (by omega) rfl (Nat.le_of_ble_eq_true rfl) he rfl rfl hc69 hs69 dX11_appeal_89 (fun E M9 hx => kz_Tout rfl hc69 hs69 hx) (kz_Cmono (fun v M70 h => ?_) (fun _ _ h => h) h)
        obtain ⟨rfl, h⟩ := h
        show kz_Z G (d + 9) mc ms mX11_appeal Qr Qx 92 [(6, .int 0), (5, .int r10), (4, .ref r5), (3, .ref r2), (0, .ref a0), (1, .int p1), (2, .int p2)] [] M70 (0 + mc3 + mc6 + mc69) (0 + ms3 + ms6 + ms69)
        refine kz_iload (pc := 92) 0 (i := 6) rfl dX11_appeal_92 ?_
        refine kz_if_eq (pc := 94) (tgt := 126) (by decide) dX11_appeal_94 (fun hb => ?_) (fun hb => ?_)
        · replace h := h.1 hb
          refine kz_aload_n (pc := 126) 4 (v := .ref a0) (i := 0) rfl rfl rfl dX11_appeal_126 ?_
          obtain ⟨fs73, v74, hM, hv, h⟩ := h
          refine kz_getf (pc := 127) (k := 2) kcX11 hM hv (by decide) kw_277 dX11_appeal_127 ?_
          refine kz_aload_n (pc := 130) 3 (v := .ref r2) (i := 3) rfl rfl rfl dX11_appeal_130 ?_
          obtain ⟨fs75, v76, hM, hv, h⟩ := h
          refine kz_getf (pc := 131) (k := 0) kcX10 hM hv (by decide) kw_1070 dX11_appeal_131 ?_
          refine kz_iconst (pc := 134) (v := 3) (by decide) dX11_appeal_134 ?_
          refine kz_aload_n (pc := 135) 4 (v := .ref a0) (i := 0) rfl rfl rfl dX11_appeal_135 ?_
          obtain ⟨fs77, v78, hM, hv, h⟩ := h
          refine kz_getf (pc := 136) (k := 2) kcX11 hM hv (by decide) kw_277 dX11_appeal_136 ?_
          refine kz_bipush (pc := 139) (v := 6) (by decide) dX11_appeal_139 ?_
          obtain ⟨⟨fs86, he⟩, h⟩ := h
          refine kz_callV (pc := 141) (μ' := mX9_rule) (ci := 8) (q := (RX9, TX9, 10)) (b := v78) (d' := d + 8) (mc' := 0) (ms' := 0) (As := [.int 6]) (st := [.int 3, .int v76, .ref v74]) (c := 0 + mc3 + mc6 + mc69) (sl := 0 + ms3 + ms6 + ms69) kmX9_rule kw_629 (by omega) rfl (Nat.le_of_ble_eq_true rfl) he rfl rfl hc69 hs69 dX11_appeal_141 (fun E M9 hx => kz_Tout rfl hc69 hs69 hx) (kz_Cmono (fun v M79 h => ?_) (fun _ _ h => h) h)
          obtain ⟨r80, rfl, h⟩ := h
          show kz_Z G (d + 9) mc ms mX11_appeal Qr Qx 144 [(6, .int 0), (5, .int r10), (4, .ref r5), (3, .ref r2), (0, .ref a0), (1, .int p1), (2, .int p2)] [.int r80, .int 3, .int v76, .ref v74] M79 (0 + mc3 + mc6 + mc69) (0 + ms3 + ms6 + ms69)
          refine kz_ineg (pc := 144) dX11_appeal_144 ?_
          obtain ⟨⟨fs85, he⟩, h⟩ := h
          refine kz_callV (pc := 145) (μ' := mX9_book) (ci := 8) (q := (RX9, TX9, 10)) (b := v74) (d' := d + 8) (mc' := 0) (ms' := 0) (As := [.int v76, .int 3, .int (-r80)]) (st := []) (c := 0 + mc3 + mc6 + mc69) (sl := 0 + ms3 + ms6 + ms69) kmX9_book kw_1241 (by omega) rfl (Nat.le_of_ble_eq_true rfl) he rfl rfl hc69 hs69 dX11_appeal_145 (fun E M9 hx => kz_Tout rfl hc69 hs69 hx) (kz_Cmono (fun v M82 h => ?_) (fun _ _ h => h) h)
          obtain ⟨rfl, h⟩ := h
          show kz_Z G (d + 9) mc ms mX11_appeal Qr Qx 148 [(6, .int 0), (5, .int r10), (4, .ref r5), (3, .ref r2), (0, .ref a0), (1, .int p1), (2, .int p2)] [] M82 (0 + mc3 + mc6 + mc69) (0 + ms3 + ms6 + ms69)
          refine kz_iload (pc := 148) 0 (i := 6) rfl dX11_appeal_148 ?_
          refine kz_if_eq (pc := 150) (tgt := 157) (by decide) dX11_appeal_150 (fun hb => ?_) (fun hb => ?_)
          · replace h := h.1 hb
            refine kz_iconst (pc := 157) (v := 0) (by decide) dX11_appeal_157 ?_
            exact kz_iret (pc := 158) rfl hc69 hs69 dX11_appeal_158 h
          · replace h := h.2 hb
            refine kz_iconst (pc := 153) (v := 1) (by decide) dX11_appeal_153 ?_
            refine kz_goto (pc := 154) (tgt := 158) (by decide) dX11_appeal_154 ?_
            exact kz_iret (pc := 158) rfl hc69 hs69 dX11_appeal_158 h
        · replace h := h.2 hb
          refine kz_aload_n (pc := 97) 4 (v := .ref a0) (i := 0) rfl rfl rfl dX11_appeal_97 ?_
          obtain ⟨fs87, v88, hM, hv, h⟩ := h
          refine kz_getf (pc := 98) (k := 2) kcX11 hM hv (by decide) kw_277 dX11_appeal_98 ?_
          refine kz_aload_n (pc := 101) 3 (v := .ref r2) (i := 3) rfl rfl rfl dX11_appeal_101 ?_
          obtain ⟨fs89, v90, hM, hv, h⟩ := h
          refine kz_getf (pc := 102) (k := 0) kcX10 hM hv (by decide) kw_1070 dX11_appeal_102 ?_
          refine kz_iconst (pc := 105) (v := 2) (by decide) dX11_appeal_105 ?_
          refine kz_aload (pc := 106) 2 (v := .ref r5) (i := 4) rfl rfl dX11_appeal_106 ?_
          obtain ⟨fs91, v92, hM, hv, h⟩ := h
          refine kz_getf (pc := 108) (k := 4) kcX3 hM hv (by decide) kw_1047 dX11_appeal_108 ?_
          refine kz_aload_n (pc := 111) 4 (v := .ref a0) (i := 0) rfl rfl rfl dX11_appeal_111 ?_
          obtain ⟨fs93, v94, hM, hv, h⟩ := h
          refine kz_getf (pc := 112) (k := 2) kcX11 hM hv (by decide) kw_277 dX11_appeal_112 ?_
          refine kz_iconst (pc := 115) (v := 3) (by decide) dX11_appeal_115 ?_
          obtain ⟨⟨fs102, he⟩, h⟩ := h
          refine kz_callV (pc := 116) (μ' := mX9_rule) (ci := 8) (q := (RX9, TX9, 10)) (b := v94) (d' := d + 8) (mc' := 0) (ms' := 0) (As := [.int 3]) (st := [.int v92, .int 2, .int v90, .ref v88]) (c := 0 + mc3 + mc6 + mc69) (sl := 0 + ms3 + ms6 + ms69) kmX9_rule kw_629 (by omega) rfl (Nat.le_of_ble_eq_true rfl) he rfl rfl hc69 hs69 dX11_appeal_116 (fun E M9 hx => kz_Tout rfl hc69 hs69 hx) (kz_Cmono (fun v M95 h => ?_) (fun _ _ h => h) h)
          obtain ⟨r96, rfl, h⟩ := h
          show kz_Z G (d + 9) mc ms mX11_appeal Qr Qx 119 [(6, .int 0), (5, .int r10), (4, .ref r5), (3, .ref r2), (0, .ref a0), (1, .int p1), (2, .int p2)] [.int r96, .int v92, .int 2, .int v90, .ref v88] M95 (0 + mc3 + mc6 + mc69) (0 + ms3 + ms6 + ms69)
          refine kz_iadd (pc := 119) dX11_appeal_119 ?_
          obtain ⟨⟨fs101, he⟩, h⟩ := h
          refine kz_callV (pc := 120) (μ' := mX9_book) (ci := 8) (q := (RX9, TX9, 10)) (b := v88) (d' := d + 8) (mc' := 0) (ms' := 0) (As := [.int v90, .int 2, .int (v92 + r96)]) (st := []) (c := 0 + mc3 + mc6 + mc69) (sl := 0 + ms3 + ms6 + ms69) kmX9_book kw_1241 (by omega) rfl (Nat.le_of_ble_eq_true rfl) he rfl rfl hc69 hs69 dX11_appeal_120 (fun E M9 hx => kz_Tout rfl hc69 hs69 hx) (kz_Cmono (fun v M98 h => ?_) (fun _ _ h => h) h)
          obtain ⟨rfl, h⟩ := h
          show kz_Z G (d + 9) mc ms mX11_appeal Qr Qx 123 [(6, .int 0), (5, .int r10), (4, .ref r5), (3, .ref r2), (0, .ref a0), (1, .int p1), (2, .int p2)] [] M98 (0 + mc3 + mc6 + mc69) (0 + ms3 + ms6 + ms69)
          refine kz_goto (pc := 123) (tgt := 148) (by decide) dX11_appeal_123 ?_
          refine kz_iload (pc := 148) 0 (i := 6) rfl dX11_appeal_148 ?_
          refine kz_if_eq (pc := 150) (tgt := 157) (by decide) dX11_appeal_150 (fun hb => ?_) (fun hb => ?_)
          · replace h := h.1 hb
            refine kz_iconst (pc := 157) (v := 0) (by decide) dX11_appeal_157 ?_
            exact kz_iret (pc := 158) rfl hc69 hs69 dX11_appeal_158 h
          · replace h := h.2 hb
            refine kz_iconst (pc := 153) (v := 1) (by decide) dX11_appeal_153 ?_
            refine kz_goto (pc := 154) (tgt := 158) (by decide) dX11_appeal_154 ?_
            exact kz_iret (pc := 158) rfl hc69 hs69 dX11_appeal_158 h
    · replace h := h.2 hb
      refine kz_iconst (pc := 62) (v := 1) (by decide) dX11_appeal_62 ?_
      refine kz_goto (pc := 63) (tgt := 67) (by decide) dX11_appeal_63 ?_
      refine kz_istore (pc := 67) (i := 6) (ls' := [(5, .int r10), (4, .ref r5), (3, .ref r2), (0, .ref a0), (1, .int p1), (2, .int p2)]) (by decide) rfl dX11_appeal_67 ?_
      refine kz_aload_n (pc := 69) 4 (v := .ref a0) (i := 0) rfl rfl rfl dX11_appeal_69 ?_
      obtain ⟨fs105, v106, hM, hv, h⟩ := h
      refine kz_getf (pc := 70) (k := 2) kcX11 hM hv (by decide) kw_277 dX11_appeal_70 ?_
      refine kz_iload_n (pc := 73) 5 (i := 1) rfl rfl dX11_appeal_73 ?_
      refine kz_aload_n (pc := 74) 3 (v := .ref r2) (i := 3) rfl rfl rfl dX11_appeal_74 ?_
      refine kz_iload_n (pc := 75) 6 (i := 2) rfl rfl dX11_appeal_75 ?_
      refine kz_iload (pc := 76) 0 (i := 6) rfl dX11_appeal_76 ?_
      refine kz_if_eq (pc := 78) (tgt := 85) (by decide) dX11_appeal_78 (fun hb => ?_) (fun hb => ?_)
      · replace h := h.1 hb
        refine kz_iconst (pc := 85) (v := 3) (by decide) dX11_appeal_85 ?_
        obtain ⟨⟨fs144, he⟩, h⟩ := h
        obtain ⟨mc109, ms109, hc109, hs109, h⟩ := h
        refine kz_callV (pc := 86) (μ' := mX10_withState) (ci := 9) (q := (RX10, TX10, 4)) (b := r2) (d' := d + 8) (mc' := mc109) (ms' := ms109) (As := [.int p2, .int 3]) (st := [.int p1, .ref v106]) (c := 0 + mc3 + mc6) (sl := 0 + ms3 + ms6) kmX10_withState kw_1219 (by omega) rfl (Nat.le_of_ble_eq_true rfl) he rfl rfl hc109 hs109 dX11_appeal_86 (fun E M9 hx => kz_Tout rfl hc109 hs109 hx) (kz_Cmono (fun v M107 h => ?_) (fun _ _ h => h) h)
        obtain ⟨r108, rfl, h⟩ := h
        show kz_Z G (d + 9) mc ms mX11_appeal Qr Qx 89 [(6, .int 1), (5, .int r10), (4, .ref r5), (3, .ref r2), (0, .ref a0), (1, .int p1), (2, .int p2)] [.ref r108, .int p1, .ref v106] M107 (0 + mc3 + mc6 + mc109) (0 + ms3 + ms6 + ms109)
        obtain ⟨⟨fs143, he⟩, h⟩ := h
        refine kz_callV (pc := 89) (μ' := mX9_replaceWork) (ci := 8) (q := (RX9, TX9, 10)) (b := v106) (d' := d + 8) (mc' := 0) (ms' := 0) (As := [.int p1, .ref r108]) (st := []) (c := 0 + mc3 + mc6 + mc109) (sl := 0 + ms3 + ms6 + ms109) kmX9_replaceWork kw_1240 (by omega) rfl (Nat.le_of_ble_eq_true rfl) he rfl rfl hc109 hs109 dX11_appeal_89 (fun E M9 hx => kz_Tout rfl hc109 hs109 hx) (kz_Cmono (fun v M110 h => ?_) (fun _ _ h => h) h)
        obtain ⟨rfl, h⟩ := h
        show kz_Z G (d + 9) mc ms mX11_appeal Qr Qx 92 [(6, .int 1), (5, .int r10), (4, .ref r5), (3, .ref r2), (0, .ref a0), (1, .int p1), (2, .int p2)] [] M110 (0 + mc3 + mc6 + mc109) (0 + ms3 + ms6 + ms109)
        refine kz_iload (pc := 92) 0 (i := 6) rfl dX11_appeal_92 ?_
        refine kz_if_eq (pc := 94) (tgt := 126) (by decide) dX11_appeal_94 (fun hb => ?_) (fun hb => ?_)
        · replace h := h.1 hb
          refine kz_aload_n (pc := 126) 4 (v := .ref a0) (i := 0) rfl rfl rfl dX11_appeal_126 ?_
          obtain ⟨fs113, v114, hM, hv, h⟩ := h
          refine kz_getf (pc := 127) (k := 2) kcX11 hM hv (by decide) kw_277 dX11_appeal_127 ?_
          refine kz_aload_n (pc := 130) 3 (v := .ref r2) (i := 3) rfl rfl rfl dX11_appeal_130 ?_
          obtain ⟨fs115, v116, hM, hv, h⟩ := h
          refine kz_getf (pc := 131) (k := 0) kcX10 hM hv (by decide) kw_1070 dX11_appeal_131 ?_
          refine kz_iconst (pc := 134) (v := 3) (by decide) dX11_appeal_134 ?_
          refine kz_aload_n (pc := 135) 4 (v := .ref a0) (i := 0) rfl rfl rfl dX11_appeal_135 ?_
          obtain ⟨fs117, v118, hM, hv, h⟩ := h
          refine kz_getf (pc := 136) (k := 2) kcX11 hM hv (by decide) kw_277 dX11_appeal_136 ?_
          refine kz_bipush (pc := 139) (v := 6) (by decide) dX11_appeal_139 ?_
          obtain ⟨⟨fs126, he⟩, h⟩ := h
          refine kz_callV (pc := 141) (μ' := mX9_rule) (ci := 8) (q := (RX9, TX9, 10)) (b := v118) (d' := d + 8) (mc' := 0) (ms' := 0) (As := [.int 6]) (st := [.int 3, .int v116, .ref v114]) (c := 0 + mc3 + mc6 + mc109) (sl := 0 + ms3 + ms6 + ms109) kmX9_rule kw_629 (by omega) rfl (Nat.le_of_ble_eq_true rfl) he rfl rfl hc109 hs109 dX11_appeal_141 (fun E M9 hx => kz_Tout rfl hc109 hs109 hx) (kz_Cmono (fun v M119 h => ?_) (fun _ _ h => h) h)
          obtain ⟨r120, rfl, h⟩ := h
          show kz_Z G (d + 9) mc ms mX11_appeal Qr Qx 144 [(6, .int 1), (5, .int r10), (4, .ref r5), (3, .ref r2), (0, .ref a0), (1, .int p1), (2, .int p2)] [.int r120, .int 3, .int v116, .ref v114] M119 (0 + mc3 + mc6 + mc109) (0 + ms3 + ms6 + ms109)
          refine kz_ineg (pc := 144) dX11_appeal_144 ?_
          obtain ⟨⟨fs125, he⟩, h⟩ := h
          refine kz_callV (pc := 145) (μ' := mX9_book) (ci := 8) (q := (RX9, TX9, 10)) (b := v114) (d' := d + 8) (mc' := 0) (ms' := 0) (As := [.int v116, .int 3, .int (-r120)]) (st := []) (c := 0 + mc3 + mc6 + mc109) (sl := 0 + ms3 + ms6 + ms109) kmX9_book kw_1241 (by omega) rfl (Nat.le_of_ble_eq_true rfl) he rfl rfl hc109 hs109 dX11_appeal_145 (fun E M9 hx => kz_Tout rfl hc109 hs109 hx) (kz_Cmono (fun v M122 h => ?_) (fun _ _ h => h) h)
          obtain ⟨rfl, h⟩ := h
          show kz_Z G (d + 9) mc ms mX11_appeal Qr Qx 148 [(6, .int 1), (5, .int r10), (4, .ref r5), (3, .ref r2), (0, .ref a0), (1, .int p1), (2, .int p2)] [] M122 (0 + mc3 + mc6 + mc109) (0 + ms3 + ms6 + ms109)
          refine kz_iload (pc := 148) 0 (i := 6) rfl dX11_appeal_148 ?_
          refine kz_if_eq (pc := 150) (tgt := 157) (by decide) dX11_appeal_150 (fun hb => ?_) (fun hb => ?_)
          · replace h := h.1 hb
            refine kz_iconst (pc := 157) (v := 0) (by decide) dX11_appeal_157 ?_
            exact kz_iret (pc := 158) rfl hc109 hs109 dX11_appeal_158 h
          · replace h := h.2 hb
            refine kz_iconst (pc := 153) (v := 1) (by decide) dX11_appeal_153 ?_
            refine kz_goto (pc := 154) (tgt := 158) (by decide) dX11_appeal_154 ?_
            exact kz_iret (pc := 158) rfl hc109 hs109 dX11_appeal_158 h
        · replace h := h.2 hb
          refine kz_aload_n (pc := 97) 4 (v := .ref a0) (i := 0) rfl rfl rfl dX11_appeal_97 ?_
          obtain ⟨fs127, v128, hM, hv, h⟩ := h
          refine kz_getf (pc := 98) (k := 2) kcX11 hM hv (by decide) kw_277 dX11_appeal_98 ?_
          refine kz_aload_n (pc := 101) 3 (v := .ref r2) (i := 3) rfl rfl rfl dX11_appeal_101 ?_
          obtain ⟨fs129, v130, hM, hv, h⟩ := h
          refine kz_getf (pc := 102) (k := 0) kcX10 hM hv (by decide) kw_1070 dX11_appeal_102 ?_
          refine kz_iconst (pc := 105) (v := 2) (by decide) dX11_appeal_105 ?_
          refine kz_aload (pc := 106) 2 (v := .ref r5) (i := 4) rfl rfl dX11_appeal_106 ?_
          obtain ⟨fs131, v132, hM, hv, h⟩ := h
          refine kz_getf (pc := 108) (k := 4) kcX3 hM hv (by decide) kw_1047 dX11_appeal_108 ?_
          refine kz_aload_n (pc := 111) 4 (v := .ref a0) (i := 0) rfl rfl rfl dX11_appeal_111 ?_
          obtain ⟨fs133, v134, hM, hv, h⟩ := h
          refine kz_getf (pc := 112) (k := 2) kcX11 hM hv (by decide) kw_277 dX11_appeal_112 ?_
          refine kz_iconst (pc := 115) (v := 3) (by decide) dX11_appeal_115 ?_
          obtain ⟨⟨fs142, he⟩, h⟩ := h
          refine kz_callV (pc := 116) (μ' := mX9_rule) (ci := 8) (q := (RX9, TX9, 10)) (b := v134) (d' := d + 8) (mc' := 0) (ms' := 0) (As := [.int 3]) (st := [.int v132, .int 2, .int v130, .ref v128]) (c := 0 + mc3 + mc6 + mc109) (sl := 0 + ms3 + ms6 + ms109) kmX9_rule kw_629 (by omega) rfl (Nat.le_of_ble_eq_true rfl) he rfl rfl hc109 hs109 dX11_appeal_116 (fun E M9 hx => kz_Tout rfl hc109 hs109 hx) (kz_Cmono (fun v M135 h => ?_) (fun _ _ h => h) h)
          obtain ⟨r136, rfl, h⟩ := h
          show kz_Z G (d + 9) mc ms mX11_appeal Qr Qx 119 [(6, .int 1), (5, .int r10), (4, .ref r5), (3, .ref r2), (0, .ref a0), (1, .int p1), (2, .int p2)] [.int r136, .int v132, .int 2, .int v130, .ref v128] M135 (0 + mc3 + mc6 + mc109) (0 + ms3 + ms6 + ms109)
          refine kz_iadd (pc := 119) dX11_appeal_119 ?_
          obtain ⟨⟨fs141, he⟩, h⟩ := h
          refine kz_callV (pc := 120) (μ' := mX9_book) (ci := 8) (q := (RX9, TX9, 10)) (b := v128) (d' := d + 8) (mc' := 0) (ms' := 0) (As := [.int v130, .int 2, .int (v132 + r136)]) (st := []) (c := 0 + mc3 + mc6 + mc109) (sl := 0 + ms3 + ms6 + ms109) kmX9_book kw_1241 (by omega) rfl (Nat.le_of_ble_eq_true rfl) he rfl rfl hc109 hs109 dX11_appeal_120 (fun E M9 hx => kz_Tout rfl hc109 hs109 hx) (kz_Cmono (fun v M138 h => ?_) (fun _ _ h => h) h)
          obtain ⟨rfl, h⟩ := h
          show kz_Z G (d + 9) mc ms mX11_appeal Qr Qx 123 [(6, .int 1), (5, .int r10), (4, .ref r5), (3, .ref r2), (0, .ref a0), (1, .int p1), (2, .int p2)] [] M138 (0 + mc3 + mc6 + mc109) (0 + ms3 + ms6 + ms109)
          refine kz_goto (pc := 123) (tgt := 148) (by decide) dX11_appeal_123 ?_
          refine kz_iload (pc := 148) 0 (i := 6) rfl dX11_appeal_148 ?_
          refine kz_if_eq (pc := 150) (tgt := 157) (by decide) dX11_appeal_150 (fun hb => ?_) (fun hb => ?_)
          · replace h := h.1 hb
            refine kz_iconst (pc := 157) (v := 0) (by decide) dX11_appeal_157 ?_
            exact kz_iret (pc := 158) rfl hc109 hs109 dX11_appeal_158 h
          · replace h := h.2 hb
            refine kz_iconst (pc := 153) (v := 1) (by decide) dX11_appeal_153 ?_
            refine kz_goto (pc := 154) (tgt := 158) (by decide) dX11_appeal_154 ?_
            exact kz_iret (pc := 158) rfl hc109 hs109 dX11_appeal_158 h
      · replace h := h.2 hb
        refine kz_iconst (pc := 81) (v := 2) (by decide) dX11_appeal_81 ?_
        refine kz_goto (pc := 82) (tgt := 86) (by decide) dX11_appeal_82 ?_
        obtain ⟨⟨fs182, he⟩, h⟩ := h
        obtain ⟨mc147, ms147, hc147, hs147, h⟩ := h
        refine kz_callV (pc := 86) (μ' := mX10_withState) (ci := 9) (q := (RX10, TX10, 4)) (b := r2) (d' := d + 8) (mc' := mc147) (ms' := ms147) (As := [.int p2, .int 2]) (st := [.int p1, .ref v106]) (c := 0 + mc3 + mc6) (sl := 0 + ms3 + ms6) kmX10_withState kw_1219 (by omega) rfl (Nat.le_of_ble_eq_true rfl) he rfl rfl hc147 hs147 dX11_appeal_86 (fun E M9 hx => kz_Tout rfl hc147 hs147 hx) (kz_Cmono (fun v M145 h => ?_) (fun _ _ h => h) h)
        obtain ⟨r146, rfl, h⟩ := h
        show kz_Z G (d + 9) mc ms mX11_appeal Qr Qx 89 [(6, .int 1), (5, .int r10), (4, .ref r5), (3, .ref r2), (0, .ref a0), (1, .int p1), (2, .int p2)] [.ref r146, .int p1, .ref v106] M145 (0 + mc3 + mc6 + mc147) (0 + ms3 + ms6 + ms147)
        obtain ⟨⟨fs181, he⟩, h⟩ := h
        refine kz_callV (pc := 89) (μ' := mX9_replaceWork) (ci := 8) (q := (RX9, TX9, 10)) (b := v106) (d' := d + 8) (mc' := 0) (ms' := 0) (As := [.int p1, .ref r146]) (st := []) (c := 0 + mc3 + mc6 + mc147) (sl := 0 + ms3 + ms6 + ms147) kmX9_replaceWork kw_1240 (by omega) rfl (Nat.le_of_ble_eq_true rfl) he rfl rfl hc147 hs147 dX11_appeal_89 (fun E M9 hx => kz_Tout rfl hc147 hs147 hx) (kz_Cmono (fun v M148 h => ?_) (fun _ _ h => h) h)
        obtain ⟨rfl, h⟩ := h
        show kz_Z G (d + 9) mc ms mX11_appeal Qr Qx 92 [(6, .int 1), (5, .int r10), (4, .ref r5), (3, .ref r2), (0, .ref a0), (1, .int p1), (2, .int p2)] [] M148 (0 + mc3 + mc6 + mc147) (0 + ms3 + ms6 + ms147)
        refine kz_iload (pc := 92) 0 (i := 6) rfl dX11_appeal_92 ?_
        refine kz_if_eq (pc := 94) (tgt := 126) (by decide) dX11_appeal_94 (fun hb => ?_) (fun hb => ?_)
        · replace h := h.1 hb
          refine kz_aload_n (pc := 126) 4 (v := .ref a0) (i := 0) rfl rfl rfl dX11_appeal_126 ?_
          obtain ⟨fs151, v152, hM, hv, h⟩ := h
          refine kz_getf (pc := 127) (k := 2) kcX11 hM hv (by decide) kw_277 dX11_appeal_127 ?_
          refine kz_aload_n (pc := 130) 3 (v := .ref r2) (i := 3) rfl rfl rfl dX11_appeal_130 ?_
          obtain ⟨fs153, v154, hM, hv, h⟩ := h
          refine kz_getf (pc := 131) (k := 0) kcX10 hM hv (by decide) kw_1070 dX11_appeal_131 ?_
          refine kz_iconst (pc := 134) (v := 3) (by decide) dX11_appeal_134 ?_
          refine kz_aload_n (pc := 135) 4 (v := .ref a0) (i := 0) rfl rfl rfl dX11_appeal_135 ?_
          obtain ⟨fs155, v156, hM, hv, h⟩ := h
          refine kz_getf (pc := 136) (k := 2) kcX11 hM hv (by decide) kw_277 dX11_appeal_136 ?_
          refine kz_bipush (pc := 139) (v := 6) (by decide) dX11_appeal_139 ?_
          obtain ⟨⟨fs164, he⟩, h⟩ := h
          refine kz_callV (pc := 141) (μ' := mX9_rule) (ci := 8) (q := (RX9, TX9, 10)) (b := v156) (d' := d + 8) (mc' := 0) (ms' := 0) (As := [.int 6]) (st := [.int 3, .int v154, .ref v152]) (c := 0 + mc3 + mc6 + mc147) (sl := 0 + ms3 + ms6 + ms147) kmX9_rule kw_629 (by omega) rfl (Nat.le_of_ble_eq_true rfl) he rfl rfl hc147 hs147 dX11_appeal_141 (fun E M9 hx => kz_Tout rfl hc147 hs147 hx) (kz_Cmono (fun v M157 h => ?_) (fun _ _ h => h) h)
          obtain ⟨r158, rfl, h⟩ := h
          show kz_Z G (d + 9) mc ms mX11_appeal Qr Qx 144 [(6, .int 1), (5, .int r10), (4, .ref r5), (3, .ref r2), (0, .ref a0), (1, .int p1), (2, .int p2)] [.int r158, .int 3, .int v154, .ref v152] M157 (0 + mc3 + mc6 + mc147) (0 + ms3 + ms6 + ms147)
          refine kz_ineg (pc := 144) dX11_appeal_144 ?_
          obtain ⟨⟨fs163, he⟩, h⟩ := h
          refine kz_callV (pc := 145) (μ' := mX9_book) (ci := 8) (q := (RX9, TX9, 10)) (b := v152) (d' := d + 8) (mc' := 0) (ms' := 0) (As := [.int v154, .int 3, .int (-r158)]) (st := []) (c := 0 + mc3 + mc6 + mc147) (sl := 0 + ms3 + ms6 + ms147) kmX9_book kw_1241 (by omega) rfl (Nat.le_of_ble_eq_true rfl) he rfl rfl hc147 hs147 dX11_appeal_145 (fun E M9 hx => kz_Tout rfl hc147 hs147 hx) (kz_Cmono (fun v M160 h => ?_) (fun _ _ h => h) h)
          obtain ⟨rfl, h⟩ := h
          show kz_Z G (d + 9) mc ms mX11_appeal Qr Qx 148 [(6, .int 1), (5, .int r10), (4, .ref r5), (3, .ref r2), (0, .ref a0), (1, .int p1), (2, .int p2)] [] M160 (0 + mc3 + mc6 + mc147) (0 + ms3 + ms6 + ms147)
          refine kz_iload (pc := 148) 0 (i := 6) rfl dX11_appeal_148 ?_
          refine kz_if_eq (pc := 150) (tgt := 157) (by decide) dX11_appeal_150 (fun hb => ?_) (fun hb => ?_)
          · replace h := h.1 hb
            refine kz_iconst (pc := 157) (v := 0) (by decide) dX11_appeal_157 ?_
            exact kz_iret (pc := 158) rfl hc147 hs147 dX11_appeal_158 h
          · replace h := h.2 hb
            refine kz_iconst (pc := 153) (v := 1) (by decide) dX11_appeal_153 ?_
            refine kz_goto (pc := 154) (tgt := 158) (by decide) dX11_appeal_154 ?_
            exact kz_iret (pc := 158) rfl hc147 hs147 dX11_appeal_158 h
        · replace h := h.2 hb
          refine kz_aload_n (pc := 97) 4 (v := .ref a0) (i := 0) rfl rfl rfl dX11_appeal_97 ?_
          obtain ⟨fs165, v166, hM, hv, h⟩ := h
          refine kz_getf (pc := 98) (k := 2) kcX11 hM hv (by decide) kw_277 dX11_appeal_98 ?_
          refine kz_aload_n (pc := 101) 3 (v := .ref r2) (i := 3) rfl rfl rfl dX11_appeal_101 ?_
          obtain ⟨fs167, v168, hM, hv, h⟩ := h
          refine kz_getf (pc := 102) (k := 0) kcX10 hM hv (by decide) kw_1070 dX11_appeal_102 ?_
          refine kz_iconst (pc := 105) (v := 2) (by decide) dX11_appeal_105 ?_
          refine kz_aload (pc := 106) 2 (v := .ref r5) (i := 4) rfl rfl dX11_appeal_106 ?_
          obtain ⟨fs169, v170, hM, hv, h⟩ := h
          refine kz_getf (pc := 108) (k := 4) kcX3 hM hv (by decide) kw_1047 dX11_appeal_108 ?_
          refine kz_aload_n (pc := 111) 4 (v := .ref a0) (i := 0) rfl rfl rfl dX11_appeal_111 ?_
          obtain ⟨fs171, v172, hM, hv, h⟩ := h
          refine kz_getf (pc := 112) (k := 2) kcX11 hM hv (by decide) kw_277 dX11_appeal_112 ?_
          refine kz_iconst (pc := 115) (v := 3) (by decide) dX11_appeal_115 ?_
          obtain ⟨⟨fs180, he⟩, h⟩ := h
          refine kz_callV (pc := 116) (μ' := mX9_rule) (ci := 8) (q := (RX9, TX9, 10)) (b := v172) (d' := d + 8) (mc' := 0) (ms' := 0) (As := [.int 3]) (st := [.int v170, .int 2, .int v168, .ref v166]) (c := 0 + mc3 + mc6 + mc147) (sl := 0 + ms3 + ms6 + ms147) kmX9_rule kw_629 (by omega) rfl (Nat.le_of_ble_eq_true rfl) he rfl rfl hc147 hs147 dX11_appeal_116 (fun E M9 hx => kz_Tout rfl hc147 hs147 hx) (kz_Cmono (fun v M173 h => ?_) (fun _ _ h => h) h)
          obtain ⟨r174, rfl, h⟩ := h
          show kz_Z G (d + 9) mc ms mX11_appeal Qr Qx 119 [(6, .int 1), (5, .int r10), (4, .ref r5), (3, .ref r2), (0, .ref a0), (1, .int p1), (2, .int p2)] [.int r174, .int v170, .int 2, .int v168, .ref v166] M173 (0 + mc3 + mc6 + mc147) (0 + ms3 + ms6 + ms147)
          refine kz_iadd (pc := 119) dX11_appeal_119 ?_
          obtain ⟨⟨fs179, he⟩, h⟩ := h
          refine kz_callV (pc := 120) (μ' := mX9_book) (ci := 8) (q := (RX9, TX9, 10)) (b := v166) (d' := d + 8) (mc' := 0) (ms' := 0) (As := [.int v168, .int 2, .int (v170 + r174)]) (st := []) (c := 0 + mc3 + mc6 + mc147) (sl := 0 + ms3 + ms6 + ms147) kmX9_book kw_1241 (by omega) rfl (Nat.le_of_ble_eq_true rfl) he rfl rfl hc147 hs147 dX11_appeal_120 (fun E M9 hx => kz_Tout rfl hc147 hs147 hx) (kz_Cmono (fun v M176 h => ?_) (fun _ _ h => h) h)
          obtain ⟨rfl, h⟩ := h
          show kz_Z G (d + 9) mc ms mX11_appeal Qr Qx 123 [(6, .int 1), (5, .int r10), (4, .ref r5), (3, .ref r2), (0, .ref a0), (1, .int p1), (2, .int p2)] [] M176 (0 + mc3 + mc6 + mc147) (0 + ms3 + ms6 + ms147)
          refine kz_goto (pc := 123) (tgt := 148) (by decide) dX11_appeal_123 ?_
          refine kz_iload (pc := 148) 0 (i := 6) rfl dX11_appeal_148 ?_
          refine kz_if_eq (pc := 150) (tgt := 157) (by decide) dX11_appeal_150 (fun hb => ?_) (fun hb => ?_)
          · replace h := h.1 hb
            refine kz_iconst (pc := 157) (v := 0) (by decide) dX11_appeal_157 ?_
            exact kz_iret (pc := 158) rfl hc147 hs147 dX11_appeal_158 h
          · replace h := h.2 hb
            refine kz_iconst (pc := 153) (v := 1) (by decide) dX11_appeal_153 ?_
            refine kz_goto (pc := 154) (tgt := 158) (by decide) dX11_appeal_154 ?_
            exact kz_iret (pc := 158) rfl hc147 hs147 dX11_appeal_158 h
  · replace h := h.2 hb
    refine kz_iload (pc := 31) 0 (i := 5) rfl dX11_appeal_31 ?_
    refine kz_ineg (pc := 33) dX11_appeal_33 ?_
    exact kz_iret (pc := 34) rfl hc6 hs6 dX11_appeal_34 h
theorem dX11_payOut_0 : decode cX11_payOut 0 = .ok (.aload_n 0, 1) := by decide +kernel
theorem dX11_payOut_1 : decode cX11_payOut 1 = .ok (.iload_n 1, 1) := by decide +kernel
theorem dX11_payOut_2 : decode cX11_payOut 2 = .ok (.invokevirtual 148, 3) := by decide +kernel
theorem dX11_payOut_5 : decode cX11_payOut 5 = .ok (.aload_n 0, 1) := by decide +kernel
theorem dX11_payOut_6 : decode cX11_payOut 6 = .ok (.getfield 36, 3) := by decide +kernel
theorem dX11_payOut_9 : decode cX11_payOut 9 = .ok (.aload_n 0, 1) := by decide +kernel
theorem dX11_payOut_10 : decode cX11_payOut 10 = .ok (.getfield 26, 3) := by decide +kernel
theorem dX11_payOut_13 : decode cX11_payOut 13 = .ok (.invokevirtual 362, 3) := by decide +kernel
theorem dX11_payOut_16 : decode cX11_payOut 16 = .ok (.iconst 0, 1) := by decide +kernel
theorem dX11_payOut_17 : decode cX11_payOut 17 = .ok (.aload_n 0, 1) := by decide +kernel
theorem dX11_payOut_18 : decode cX11_payOut 18 = .ok (.getfield 26, 3) := by decide +kernel
theorem dX11_payOut_21 : decode cX11_payOut 21 = .ok (.iload_n 1, 1) := by decide +kernel
theorem dX11_payOut_22 : decode cX11_payOut 22 = .ok (.invokevirtual 151, 3) := by decide +kernel
theorem dX11_payOut_25 : decode cX11_payOut 25 = .ok (.aload_n 0, 1) := by decide +kernel
theorem dX11_payOut_26 : decode cX11_payOut 26 = .ok (.getfield 26, 3) := by decide +kernel
theorem dX11_payOut_29 : decode cX11_payOut 29 = .ok (.getfield 117, 3) := by decide +kernel
theorem dX11_payOut_32 : decode cX11_payOut 32 = .ok (.invokestatic 378, 3) := by decide +kernel
theorem dX11_payOut_35 : decode cX11_payOut 35 = .ok (.invokestatic 357, 3) := by decide +kernel
theorem dX11_payOut_38 : decode cX11_payOut 38 = .ok (.istore_n 2, 1) := by decide +kernel
theorem dX11_payOut_39 : decode cX11_payOut 39 = .ok (.aload_n 0, 1) := by decide +kernel
theorem dX11_payOut_40 : decode cX11_payOut 40 = .ok (.getfield 26, 3) := by decide +kernel
theorem dX11_payOut_43 : decode cX11_payOut 43 = .ok (.iload_n 1, 1) := by decide +kernel
theorem dX11_payOut_44 : decode cX11_payOut 44 = .ok (.iconst 4, 1) := by decide +kernel
theorem dX11_payOut_45 : decode cX11_payOut 45 = .ok (.iload_n 2, 1) := by decide +kernel
theorem dX11_payOut_46 : decode cX11_payOut 46 = .ok (.invokevirtual 381, 3) := by decide +kernel
theorem dX11_payOut_49 : decode cX11_payOut 49 = .ok (.iload_n 2, 1) := by decide +kernel
theorem dX11_payOut_50 : decode cX11_payOut 50 = .ok (.ireturn, 1) := by decide +kernel
theorem rX11_payOut_0 {G : kz_G} {d : Nat} {mc ms : Nat} {Qr : Option Value → kz_M → Prop} {Qx : String → kz_M → Prop} {a0 : Nat} {p1 : Int32}  {M : kz_M} (h : (∃ fs28, (M).1 a0 = some (.inl (10, fs28))) ∧ ∃ mc3 ms3, 0 + mc3 ≤ mc ∧ 0 + ms3 ≤ ms ∧ kz_C G (d + 7) mc3 ms3 mX11_checkWriter [.ref a0, .int p1] M (fun v M1 => v = none ∧ (∃ fs4 v5, (M1).1 a0 = some (.inl (10, fs4)) ∧ fs4[4]? = some (.ref v5) ∧ (∃ fs6 v7, (M1).1 a0 = some (.inl (10, fs6)) ∧ fs6[2]? = some (.ref v7) ∧ ((∃ fs27, (M1).1 v5 = some (.inl (0, fs27))) ∧ kz_C G (d + 7) 0 0 mX0_keep [.ref v5, .ref v7] M1 (fun v M8 => v = none ∧ (∃ fs11 v12, (M8).1 a0 = some (.inl (10, fs11)) ∧ fs11[2]? = some (.ref v12) ∧ ((∃ fs26, (M8).1 v12 = some (.inl (8, fs26))) ∧ kz_C G (d + 7) 0 0 mX9_balanceOf [.ref v12, .int p1] M8 (fun v M13 => ∃ r14 : Int32, v = some (.int r14) ∧ (∃ fs16 v17, (M13).1 a0 = some (.inl (10, fs16)) ∧ fs16[2]? = some (.ref v17) ∧ (∃ fs18 v19, (M13).1 v17 = some (.inl (8, fs18)) ∧ fs18[1]? = some (.int v19) ∧ (∃ fs20 v21, (M13).1 a0 = some (.inl (10, fs20)) ∧ fs20[2]? = some (.ref v21) ∧ ((∃ fs25, (M13).1 v21 = some (.inl (8, fs25))) ∧ kz_C G (d + 7) 0 0 mX9_handOver [.ref v21, .int p1, .int 4, .int (if 0 < (if v19 < r14 then v19 else r14) then (if v19 < r14 then v19 else r14) else 0)] M13 (fun v M22 => v = none ∧ (Qr (some (.int (if 0 < (if v19 < r14 then v19 else r14) then (if v19 < r14 then v19 else r14) else 0))) M22)) Qx))))) Qx))) Qx)))) Qx) : kz_C G (d + 8) mc ms mX11_payOut [.ref a0, .int p1] M Qr Qx := by
  refine kz_enter (n := 1) kmX11_payOut.1 (Nat.le_of_ble_eq_true rfl) (ls := [(0, .ref a0), (1, .int p1)]) rfl ?_
  refine kz_aload_n (pc := 0) 0 (v := .ref a0) (i := 0) rfl rfl rfl dX11_payOut_0 ?_
  refine kz_iload_n (pc := 1) 1 (i := 1) rfl rfl dX11_payOut_1 ?_
  obtain ⟨⟨fs28, he⟩, h⟩ := h
  obtain ⟨mc3, ms3, hc3, hs3, h⟩ := h
  refine kz_callV (pc := 2) (μ' := mX11_checkWriter) (ci := 10) (q := (RX11, TX11, 10)) (b := a0) (d' := d + 7) (mc' := mc3) (ms' := ms3) (As := [.int p1]) (st := []) (c := 0) (sl := 0) kmX11_checkWriter kw_641 (by omega) rfl (Nat.le_of_ble_eq_true rfl) he rfl rfl hc3 hs3 dX11_payOut_2 (fun E M9 hx => kz_Tout rfl hc3 hs3 hx) (kz_Cmono (fun v M1 h => ?_) (fun _ _ h => h) h)
  obtain ⟨rfl, h⟩ := h
  show kz_Z G (d + 8) mc ms mX11_payOut Qr Qx 5 [(0, .ref a0), (1, .int p1)] [] M1 (0 + mc3) (0 + ms3)
  refine kz_aload_n (pc := 5) 0 (v := .ref a0) (i := 0) rfl rfl rfl dX11_payOut_5 ?_
  obtain ⟨fs4, v5, hM, hv, h⟩ := h
  refine kz_getf (pc := 6) (k := 4) kcX11 hM hv (by decide) kw_279 dX11_payOut_6 ?_
  refine kz_aload_n (pc := 9) 0 (v := .ref a0) (i := 0) rfl rfl rfl dX11_payOut_9 ?_
  obtain ⟨fs6, v7, hM, hv, h⟩ := h
  refine kz_getf (pc := 10) (k := 2) kcX11 hM hv (by decide) kw_277 dX11_payOut_10 ?_
  obtain ⟨⟨fs27, he⟩, h⟩ := h
  refine kz_callV (pc := 13) (μ' := mX0_keep) (ci := 0) (q := (RX0, TX0, 3)) (b := v5) (d' := d + 7) (mc' := 0) (ms' := 0) (As := [.ref v7]) (st := []) (c := 0 + mc3) (sl := 0 + ms3) kmX0_keep kw_464 (by omega) rfl (Nat.le_of_ble_eq_true rfl) he rfl rfl hc3 hs3 dX11_payOut_13 (fun E M9 hx => kz_Tout rfl hc3 hs3 hx) (kz_Cmono (fun v M8 h => ?_) (fun _ _ h => h) h)
  obtain ⟨rfl, h⟩ := h
  show kz_Z G (d + 8) mc ms mX11_payOut Qr Qx 16 [(0, .ref a0), (1, .int p1)] [] M8 (0 + mc3) (0 + ms3)
  refine kz_iconst (pc := 16) (v := 0) (by decide) dX11_payOut_16 ?_
  refine kz_aload_n (pc := 17) 0 (v := .ref a0) (i := 0) rfl rfl rfl dX11_payOut_17 ?_
  obtain ⟨fs11, v12, hM, hv, h⟩ := h
  refine kz_getf (pc := 18) (k := 2) kcX11 hM hv (by decide) kw_277 dX11_payOut_18 ?_
  refine kz_iload_n (pc := 21) 1 (i := 1) rfl rfl dX11_payOut_21 ?_
  obtain ⟨⟨fs26, he⟩, h⟩ := h
  refine kz_callV (pc := 22) (μ' := mX9_balanceOf) (ci := 8) (q := (RX9, TX9, 10)) (b := v12) (d' := d + 7) (mc' := 0) (ms' := 0) (As := [.int p1]) (st := [.int 0]) (c := 0 + mc3) (sl := 0 + ms3) kmX9_balanceOf kw_444 (by omega) rfl (Nat.le_of_ble_eq_true rfl) he rfl rfl hc3 hs3 dX11_payOut_22 (fun E M9 hx => kz_Tout rfl hc3 hs3 hx) (kz_Cmono (fun v M13 h => ?_) (fun _ _ h => h) h)
  obtain ⟨r14, rfl, h⟩ := h
  show kz_Z G (d + 8) mc ms mX11_payOut Qr Qx 25 [(0, .ref a0), (1, .int p1)] [.int r14, .int 0] M13 (0 + mc3) (0 + ms3)
  refine kz_aload_n (pc := 25) 0 (v := .ref a0) (i := 0) rfl rfl rfl dX11_payOut_25 ?_
  obtain ⟨fs16, v17, hM, hv, h⟩ := h
  refine kz_getf (pc := 26) (k := 2) kcX11 hM hv (by decide) kw_277 dX11_payOut_26 ?_
  obtain ⟨fs18, v19, hM, hv, h⟩ := h
  refine kz_getf (pc := 29) (k := 1) kcX9 hM hv (by decide) kw_104 dX11_payOut_29 ?_
  refine kz_mmin (pc := 32) kw_1249 kw_1250 kw_15 kw_1251 (by omega) (Nat.le_of_ble_eq_true rfl) hc3 hs3 dX11_payOut_32 ?_
  refine kz_mmax (pc := 35) kw_1185 kw_547 kw_15 kw_548 (by omega) (Nat.le_of_ble_eq_true rfl) hc3 hs3 dX11_payOut_35 ?_
  refine kz_istore_n (pc := 38) (i := 2) (ls' := [(0, .ref a0), (1, .int p1)]) rfl (by decide) rfl dX11_payOut_38 ?_
  refine kz_aload_n (pc := 39) 1 (v := .ref a0) (i := 0) rfl rfl rfl dX11_payOut_39 ?_
  obtain ⟨fs20, v21, hM, hv, h⟩ := h
  refine kz_getf (pc := 40) (k := 2) kcX11 hM hv (by decide) kw_277 dX11_payOut_40 ?_
  refine kz_iload_n (pc := 43) 2 (i := 1) rfl rfl dX11_payOut_43 ?_
  refine kz_iconst (pc := 44) (v := 4) (by decide) dX11_payOut_44 ?_
  refine kz_iload_n (pc := 45) 0 (i := 2) rfl rfl dX11_payOut_45 ?_
  obtain ⟨⟨fs25, he⟩, h⟩ := h
  refine kz_callV (pc := 46) (μ' := mX9_handOver) (ci := 8) (q := (RX9, TX9, 10)) (b := v21) (d' := d + 7) (mc' := 0) (ms' := 0) (As := [.int p1, .int 4, .int (if 0 < (if v19 < r14 then v19 else r14) then (if v19 < r14 then v19 else r14) else 0)]) (st := []) (c := 0 + mc3) (sl := 0 + ms3) kmX9_handOver kw_1252 (by omega) rfl (Nat.le_of_ble_eq_true rfl) he rfl rfl hc3 hs3 dX11_payOut_46 (fun E M9 hx => kz_Tout rfl hc3 hs3 hx) (kz_Cmono (fun v M22 h => ?_) (fun _ _ h => h) h)
  obtain ⟨rfl, h⟩ := h
  show kz_Z G (d + 8) mc ms mX11_payOut Qr Qx 49 [(2, .int (if 0 < (if v19 < r14 then v19 else r14) then (if v19 < r14 then v19 else r14) else 0)), (0, .ref a0), (1, .int p1)] [] M22 (0 + mc3) (0 + ms3)
  refine kz_iload_n (pc := 49) 0 (i := 2) rfl rfl dX11_payOut_49 ?_
  exact kz_iret (pc := 50) rfl hc3 hs3 dX11_payOut_50 h
theorem dX11_advance_0 : decode cX11_advance 0 = .ok (.aload_n 0, 1) := by decide +kernel
theorem dX11_advance_1 : decode cX11_advance 1 = .ok (.iload_n 1, 1) := by decide +kernel
theorem dX11_advance_2 : decode cX11_advance 2 = .ok (.invokevirtual 148, 3) := by decide +kernel
theorem dX11_advance_5 : decode cX11_advance 5 = .ok (.iload_n 2, 1) := by decide +kernel
theorem dX11_advance_6 : decode cX11_advance 6 = .ok (.iconst 1, 1) := by decide +kernel
theorem dX11_advance_7 : decode cX11_advance 7 = .ok (.if_icmp .lt 10, 3) := by decide +kernel
theorem dX11_advance_10 : decode cX11_advance 10 = .ok (.iload_n 2, 1) := by decide +kernel
theorem dX11_advance_11 : decode cX11_advance 11 = .ok (.sipush 999, 3) := by decide +kernel
theorem dX11_advance_14 : decode cX11_advance 14 = .ok (.if_icmp .le 14, 3) := by decide +kernel
theorem dX11_advance_17 : decode cX11_advance 17 = .ok (.new 134, 3) := by decide +kernel
theorem dX11_advance_20 : decode cX11_advance 20 = .ok (.dup, 1) := by decide +kernel
theorem dX11_advance_21 : decode cX11_advance 21 = .ok (.ldc_w 384, 3) := by decide +kernel
theorem dX11_advance_24 : decode cX11_advance 24 = .ok (.invokespecial 138, 3) := by decide +kernel
theorem dX11_advance_27 : decode cX11_advance 27 = .ok (.athrow, 1) := by decide +kernel
theorem dX11_advance_28 : decode cX11_advance 28 = .ok (.aload_n 0, 1) := by decide +kernel
theorem dX11_advance_29 : decode cX11_advance 29 = .ok (.getfield 26, 3) := by decide +kernel
theorem dX11_advance_32 : decode cX11_advance 32 = .ok (.getfield 117, 3) := by decide +kernel
theorem dX11_advance_35 : decode cX11_advance 35 = .ok (.iload_n 2, 1) := by decide +kernel
theorem dX11_advance_36 : decode cX11_advance 36 = .ok (.if_icmp .ge 14, 3) := by decide +kernel
theorem dX11_advance_39 : decode cX11_advance 39 = .ok (.new 386, 3) := by decide +kernel
theorem dX11_advance_42 : decode cX11_advance 42 = .ok (.dup, 1) := by decide +kernel
theorem dX11_advance_43 : decode cX11_advance 43 = .ok (.ldc_w 388, 3) := by decide +kernel
theorem dX11_advance_46 : decode cX11_advance 46 = .ok (.invokespecial 390, 3) := by decide +kernel
theorem dX11_advance_49 : decode cX11_advance 49 = .ok (.athrow, 1) := by decide +kernel
theorem dX11_advance_50 : decode cX11_advance 50 = .ok (.aload_n 0, 1) := by decide +kernel
theorem dX11_advance_51 : decode cX11_advance 51 = .ok (.getfield 36, 3) := by decide +kernel
theorem dX11_advance_54 : decode cX11_advance 54 = .ok (.aload_n 0, 1) := by decide +kernel
theorem dX11_advance_55 : decode cX11_advance 55 = .ok (.getfield 26, 3) := by decide +kernel
theorem dX11_advance_58 : decode cX11_advance 58 = .ok (.invokevirtual 362, 3) := by decide +kernel
theorem dX11_advance_61 : decode cX11_advance 61 = .ok (.aload_n 0, 1) := by decide +kernel
theorem dX11_advance_62 : decode cX11_advance 62 = .ok (.getfield 26, 3) := by decide +kernel
theorem dX11_advance_65 : decode cX11_advance 65 = .ok (.iload_n 1, 1) := by decide +kernel
theorem dX11_advance_66 : decode cX11_advance 66 = .ok (.iconst 5, 1) := by decide +kernel
theorem dX11_advance_67 : decode cX11_advance 67 = .ok (.iload_n 2, 1) := by decide +kernel
theorem dX11_advance_68 : decode cX11_advance 68 = .ok (.invokevirtual 381, 3) := by decide +kernel
theorem dX11_advance_71 : decode cX11_advance 71 = .ok (.aload_n 0, 1) := by decide +kernel
theorem dX11_advance_72 : decode cX11_advance 72 = .ok (.getfield 26, 3) := by decide +kernel
theorem dX11_advance_75 : decode cX11_advance 75 = .ok (.iload_n 1, 1) := by decide +kernel
theorem dX11_advance_76 : decode cX11_advance 76 = .ok (.invokevirtual 151, 3) := by decide +kernel
theorem dX11_advance_79 : decode cX11_advance 79 = .ok (.ireturn, 1) := by decide +kernel
theorem rX11_advance_0 {G : kz_G} {d : Nat} {mc ms : Nat} {Qr : Option Value → kz_M → Prop} {Qx : String → kz_M → Prop} {a0 : Nat} {p1 : Int32} {p2 : Int32}  {M : kz_M} (hG : kz_stat G) (h : (∃ fs31, (M).1 a0 = some (.inl (10, fs31))) ∧ ∃ mc3 ms3, 0 + mc3 ≤ mc ∧ 0 + ms3 ≤ ms ∧ kz_C G (d + 7) mc3 ms3 mX11_checkWriter [.ref a0, .int p1] M (fun v M1 => v = none ∧ ((p2 < (1 : Int32) → 0 + mc3 + 1 ≤ mc ∧ 0 + ms3 + 6 ≤ ms ∧ ∀ g4, Qx "java/lang/IllegalArgumentException" ((M1).1, (M1).2 + g4)) ∧ (¬ p2 < (1 : Int32) → (p2 ≤ (999 : Int32) → ∃ fs5 v6, (M1).1 a0 = some (.inl (10, fs5)) ∧ fs5[2]? = some (.ref v6) ∧ (∃ fs7 v8, (M1).1 v6 = some (.inl (8, fs7)) ∧ fs7[1]? = some (.int v8) ∧ ((p2 ≤ v8 → ∃ fs9 v10, (M1).1 a0 = some (.inl (10, fs9)) ∧ fs9[4]? = some (.ref v10) ∧ (∃ fs11 v12, (M1).1 a0 = some (.inl (10, fs11)) ∧ fs11[2]? = some (.ref v12) ∧ ((∃ fs28, (M1).1 v10 = some (.inl (0, fs28))) ∧ kz_C G (d + 7) 0 0 mX0_keep [.ref v10, .ref v12] M1 (fun v M13 => v = none ∧ (∃ fs16 v17, (M13).1 a0 = some (.inl (10, fs16)) ∧ fs16[2]? = some (.ref v17) ∧ ((∃ fs27, (M13).1 v17 = some (.inl (8, fs27))) ∧ kz_C G (d + 7) 0 0 mX9_handOver [.ref v17, .int p1, .int 5, .int p2] M13 (fun v M18 => v = none ∧ (∃ fs21 v22, (M18).1 a0 = some (.inl (10, fs21)) ∧ fs21[2]? = some (.ref v22) ∧ ((∃ fs26, (M18).1 v22 = some (.inl (8, fs26))) ∧ kz_C G (d + 7) 0 0 mX9_balanceOf [.ref v22, .int p1] M18 (fun v M23 => ∃ r24 : Int32, v = some (.int r24) ∧ (Qr (some (.int r24)) M23)) Qx))) Qx))) Qx))) ∧ (¬ p2 ≤ v8 → 0 + mc3 + 1 ≤ mc ∧ 0 + ms3 + 6 ≤ ms ∧ ∀ g29, Qx "java/lang/IllegalStateException" ((M1).1, (M1).2 + g29))))) ∧ (¬ p2 ≤ (999 : Int32) → 0 + mc3 + 1 ≤ mc ∧ 0 + ms3 + 6 ≤ ms ∧ ∀ g30, Qx "java/lang/IllegalArgumentException" ((M1).1, (M1).2 + g30))))) Qx) : kz_C G (d + 8) mc ms mX11_advance [.ref a0, .int p1, .int p2] M Qr Qx := by
  refine kz_enter (n := 2) kmX11_advance.1 (Nat.le_of_ble_eq_true rfl) (ls := [(0, .ref a0), (1, .int p1), (2, .int p2)]) rfl ?_
  refine kz_aload_n (pc := 0) 0 (v := .ref a0) (i := 0) rfl rfl rfl dX11_advance_0 ?_
  refine kz_iload_n (pc := 1) 1 (i := 1) rfl rfl dX11_advance_1 ?_
  obtain ⟨⟨fs31, he⟩, h⟩ := h
  obtain ⟨mc3, ms3, hc3, hs3, h⟩ := h
  refine kz_callV (pc := 2) (μ' := mX11_checkWriter) (ci := 10) (q := (RX11, TX11, 10)) (b := a0) (d' := d + 7) (mc' := mc3) (ms' := ms3) (As := [.int p1]) (st := []) (c := 0) (sl := 0) kmX11_checkWriter kw_641 (by omega) rfl (Nat.le_of_ble_eq_true rfl) he rfl rfl hc3 hs3 dX11_advance_2 (fun E M9 hx => kz_Tout rfl hc3 hs3 hx) (kz_Cmono (fun v M1 h => ?_) (fun _ _ h => h) h)
  obtain ⟨rfl, h⟩ := h
  show kz_Z G (d + 8) mc ms mX11_advance Qr Qx 5 [(0, .ref a0), (1, .int p1), (2, .int p2)] [] M1 (0 + mc3) (0 + ms3)
  refine kz_iload_n (pc := 5) 2 (i := 2) rfl rfl dX11_advance_5 ?_
  refine kz_iconst (pc := 6) (v := 1) (by decide) dX11_advance_6 ?_
  refine kz_icmp_lt (pc := 7) (tgt := 17) (by decide) dX11_advance_7 (fun hb => ?_) (fun hb => ?_)
  · replace h := h.1 hb
    exact kz_throwSW (pc := 17) (ik := 134) (is := 384) (ic := 138) (j := 1008) (text := "no such advance") hG.1 hG.2.1 hG.2.2.1 (by decide +kernel) kz_xn kw_549 kw_19 (List.mem_of_getElem? (i := 8) rfl) kz_xw_IllegalArgumentException kz_xg_IllegalArgumentException rfl (by show 2 + 3 < _; omega) (by decide) (Nat.le_of_ble_eq_true rfl) h.1 h.2.1 dX11_advance_17 dX11_advance_20 dX11_advance_21 dX11_advance_24 dX11_advance_27 h.2.2
  · replace h := h.2 hb
    refine kz_iload_n (pc := 10) 2 (i := 2) rfl rfl dX11_advance_10 ?_
    refine kz_sipush (pc := 11) (v := 999) (by decide) dX11_advance_11 ?_
    refine kz_icmp_le (pc := 14) (tgt := 28) (by decide) dX11_advance_14 (fun hb => ?_) (fun hb => ?_)
    · replace h := h.1 hb
      refine kz_aload_n (pc := 28) 0 (v := .ref a0) (i := 0) rfl rfl rfl dX11_advance_28 ?_
      obtain ⟨fs5, v6, hM, hv, h⟩ := h
      refine kz_getf (pc := 29) (k := 2) kcX11 hM hv (by decide) kw_277 dX11_advance_29 ?_
      obtain ⟨fs7, v8, hM, hv, h⟩ := h
      refine kz_getf (pc := 32) (k := 1) kcX9 hM hv (by decide) kw_104 dX11_advance_32 ?_
      refine kz_iload_n (pc := 35) 2 (i := 2) rfl rfl dX11_advance_35 ?_
      refine kz_icmp_ge (pc := 36) (tgt := 50) (by decide) dX11_advance_36 (fun hb => ?_) (fun hb => ?_)
      · replace h := h.1 hb
        refine kz_aload_n (pc := 50) 0 (v := .ref a0) (i := 0) rfl rfl rfl dX11_advance_50 ?_
        obtain ⟨fs9, v10, hM, hv, h⟩ := h
        refine kz_getf (pc := 51) (k := 4) kcX11 hM hv (by decide) kw_279 dX11_advance_51 ?_
        refine kz_aload_n (pc := 54) 0 (v := .ref a0) (i := 0) rfl rfl rfl dX11_advance_54 ?_
        obtain ⟨fs11, v12, hM, hv, h⟩ := h
        refine kz_getf (pc := 55) (k := 2) kcX11 hM hv (by decide) kw_277 dX11_advance_55 ?_
        obtain ⟨⟨fs28, he⟩, h⟩ := h
        refine kz_callV (pc := 58) (μ' := mX0_keep) (ci := 0) (q := (RX0, TX0, 3)) (b := v10) (d' := d + 7) (mc' := 0) (ms' := 0) (As := [.ref v12]) (st := []) (c := 0 + mc3) (sl := 0 + ms3) kmX0_keep kw_464 (by omega) rfl (Nat.le_of_ble_eq_true rfl) he rfl rfl hc3 hs3 dX11_advance_58 (fun E M9 hx => kz_Tout rfl hc3 hs3 hx) (kz_Cmono (fun v M13 h => ?_) (fun _ _ h => h) h)
        obtain ⟨rfl, h⟩ := h
        show kz_Z G (d + 8) mc ms mX11_advance Qr Qx 61 [(0, .ref a0), (1, .int p1), (2, .int p2)] [] M13 (0 + mc3) (0 + ms3)
        refine kz_aload_n (pc := 61) 0 (v := .ref a0) (i := 0) rfl rfl rfl dX11_advance_61 ?_
        obtain ⟨fs16, v17, hM, hv, h⟩ := h
        refine kz_getf (pc := 62) (k := 2) kcX11 hM hv (by decide) kw_277 dX11_advance_62 ?_
        refine kz_iload_n (pc := 65) 1 (i := 1) rfl rfl dX11_advance_65 ?_
        refine kz_iconst (pc := 66) (v := 5) (by decide) dX11_advance_66 ?_
        refine kz_iload_n (pc := 67) 2 (i := 2) rfl rfl dX11_advance_67 ?_
        obtain ⟨⟨fs27, he⟩, h⟩ := h
        refine kz_callV (pc := 68) (μ' := mX9_handOver) (ci := 8) (q := (RX9, TX9, 10)) (b := v17) (d' := d + 7) (mc' := 0) (ms' := 0) (As := [.int p1, .int 5, .int p2]) (st := []) (c := 0 + mc3) (sl := 0 + ms3) kmX9_handOver kw_1252 (by omega) rfl (Nat.le_of_ble_eq_true rfl) he rfl rfl hc3 hs3 dX11_advance_68 (fun E M9 hx => kz_Tout rfl hc3 hs3 hx) (kz_Cmono (fun v M18 h => ?_) (fun _ _ h => h) h)
        obtain ⟨rfl, h⟩ := h
        show kz_Z G (d + 8) mc ms mX11_advance Qr Qx 71 [(0, .ref a0), (1, .int p1), (2, .int p2)] [] M18 (0 + mc3) (0 + ms3)
        refine kz_aload_n (pc := 71) 0 (v := .ref a0) (i := 0) rfl rfl rfl dX11_advance_71 ?_
        obtain ⟨fs21, v22, hM, hv, h⟩ := h
        refine kz_getf (pc := 72) (k := 2) kcX11 hM hv (by decide) kw_277 dX11_advance_72 ?_
        refine kz_iload_n (pc := 75) 1 (i := 1) rfl rfl dX11_advance_75 ?_
        obtain ⟨⟨fs26, he⟩, h⟩ := h
        refine kz_callV (pc := 76) (μ' := mX9_balanceOf) (ci := 8) (q := (RX9, TX9, 10)) (b := v22) (d' := d + 7) (mc' := 0) (ms' := 0) (As := [.int p1]) (st := []) (c := 0 + mc3) (sl := 0 + ms3) kmX9_balanceOf kw_444 (by omega) rfl (Nat.le_of_ble_eq_true rfl) he rfl rfl hc3 hs3 dX11_advance_76 (fun E M9 hx => kz_Tout rfl hc3 hs3 hx) (kz_Cmono (fun v M23 h => ?_) (fun _ _ h => h) h)
        obtain ⟨r24, rfl, h⟩ := h
        show kz_Z G (d + 8) mc ms mX11_advance Qr Qx 79 [(0, .ref a0), (1, .int p1), (2, .int p2)] [.int r24] M23 (0 + mc3) (0 + ms3)
        exact kz_iret (pc := 79) rfl hc3 hs3 dX11_advance_79 h
      · replace h := h.2 hb
        exact kz_throwSW (pc := 39) (ik := 386) (is := 388) (ic := 390) (j := 1009) (text := "too little money") hG.1 hG.2.1 hG.2.2.1 (by decide +kernel) kz_xn kw_1266 kw_26 (List.mem_of_getElem? (i := 9) rfl) kz_xw_IllegalStateException kz_xg_IllegalStateException rfl (by show 2 + 3 < _; omega) (by decide) (Nat.le_of_ble_eq_true rfl) h.1 h.2.1 dX11_advance_39 dX11_advance_42 dX11_advance_43 dX11_advance_46 dX11_advance_49 h.2.2
    · replace h := h.2 hb
      exact kz_throwSW (pc := 17) (ik := 134) (is := 384) (ic := 138) (j := 1008) (text := "no such advance") hG.1 hG.2.1 hG.2.2.1 (by decide +kernel) kz_xn kw_549 kw_19 (List.mem_of_getElem? (i := 8) rfl) kz_xw_IllegalArgumentException kz_xg_IllegalArgumentException rfl (by show 2 + 3 < _; omega) (by decide) (Nat.le_of_ble_eq_true rfl) h.1 h.2.1 dX11_advance_17 dX11_advance_20 dX11_advance_21 dX11_advance_24 dX11_advance_27 h.2.2
theorem dX11_addWriter_0 : decode cX11_addWriter 0 = .ok (.aload_n 0, 1) := by decide +kernel
theorem dX11_addWriter_1 : decode cX11_addWriter 1 = .ok (.getfield 10, 3) := by decide +kernel
theorem dX11_addWriter_4 : decode cX11_addWriter 4 = .ok (.invokevirtual 245, 3) := by decide +kernel
theorem dX11_addWriter_7 : decode cX11_addWriter 7 = .ok (.lstore_n 1, 1) := by decide +kernel
theorem dX11_addWriter_8 : decode cX11_addWriter 8 = .ok (.aload_n 0, 1) := by decide +kernel
theorem dX11_addWriter_9 : decode cX11_addWriter 9 = .ok (.getfield 10, 3) := by decide +kernel
theorem dX11_addWriter_12 : decode cX11_addWriter 12 = .ok (.iconst 0, 1) := by decide +kernel
theorem dX11_addWriter_13 : decode cX11_addWriter 13 = .ok (.putfield 83, 3) := by decide +kernel
theorem dX11_addWriter_16 : decode cX11_addWriter 16 = .ok (.lload_n 1, 1) := by decide +kernel
theorem dX11_addWriter_17 : decode cX11_addWriter 17 = .ok (.invokestatic 391, 3) := by decide +kernel
theorem dX11_addWriter_20 : decode cX11_addWriter 20 = .ok (.ifCond .eq 14, 3) := by decide +kernel
theorem dX11_addWriter_23 : decode cX11_addWriter 23 = .ok (.aload_n 0, 1) := by decide +kernel
theorem dX11_addWriter_24 : decode cX11_addWriter 24 = .ok (.getfield 26, 3) := by decide +kernel
theorem dX11_addWriter_27 : decode cX11_addWriter 27 = .ok (.lload_n 1, 1) := by decide +kernel
theorem dX11_addWriter_28 : decode cX11_addWriter 28 = .ok (.invokevirtual 395, 3) := by decide +kernel
theorem dX11_addWriter_31 : decode cX11_addWriter 31 = .ok (.ifCond .eq 6, 3) := by decide +kernel
theorem dX11_addWriter_34 : decode cX11_addWriter 34 = .ok (.bipush (-2), 2) := by decide +kernel
theorem dX11_addWriter_36 : decode cX11_addWriter 36 = .ok (.ireturn, 1) := by decide +kernel
theorem dX11_addWriter_37 : decode cX11_addWriter 37 = .ok (.aload_n 0, 1) := by decide +kernel
theorem dX11_addWriter_38 : decode cX11_addWriter 38 = .ok (.getfield 26, 3) := by decide +kernel
theorem dX11_addWriter_41 : decode cX11_addWriter 41 = .ok (.getfield 102, 3) := by decide +kernel
theorem dX11_addWriter_44 : decode cX11_addWriter 44 = .ok (.bipush 6, 2) := by decide +kernel
theorem dX11_addWriter_46 : decode cX11_addWriter 46 = .ok (.if_icmp .lt 6, 3) := by decide +kernel
theorem dX11_addWriter_49 : decode cX11_addWriter 49 = .ok (.bipush (-3), 2) := by decide +kernel
theorem dX11_addWriter_51 : decode cX11_addWriter 51 = .ok (.ireturn, 1) := by decide +kernel
theorem dX11_addWriter_52 : decode cX11_addWriter 52 = .ok (.aload_n 0, 1) := by decide +kernel
theorem dX11_addWriter_53 : decode cX11_addWriter 53 = .ok (.getfield 36, 3) := by decide +kernel
theorem dX11_addWriter_56 : decode cX11_addWriter 56 = .ok (.aload_n 0, 1) := by decide +kernel
theorem dX11_addWriter_57 : decode cX11_addWriter 57 = .ok (.getfield 26, 3) := by decide +kernel
theorem dX11_addWriter_60 : decode cX11_addWriter 60 = .ok (.invokevirtual 362, 3) := by decide +kernel
theorem dX11_addWriter_63 : decode cX11_addWriter 63 = .ok (.aload_n 0, 1) := by decide +kernel
theorem dX11_addWriter_64 : decode cX11_addWriter 64 = .ok (.getfield 26, 3) := by decide +kernel
theorem dX11_addWriter_67 : decode cX11_addWriter 67 = .ok (.lload_n 1, 1) := by decide +kernel
theorem dX11_addWriter_68 : decode cX11_addWriter 68 = .ok (.invokevirtual 71, 3) := by decide +kernel
theorem dX11_addWriter_71 : decode cX11_addWriter 71 = .ok (.aload_n 0, 1) := by decide +kernel
theorem dX11_addWriter_72 : decode cX11_addWriter 72 = .ok (.getfield 26, 3) := by decide +kernel
theorem dX11_addWriter_75 : decode cX11_addWriter 75 = .ok (.getfield 102, 3) := by decide +kernel
theorem dX11_addWriter_78 : decode cX11_addWriter 78 = .ok (.iconst 1, 1) := by decide +kernel
theorem dX11_addWriter_79 : decode cX11_addWriter 79 = .ok (.isub, 1) := by decide +kernel
theorem dX11_addWriter_80 : decode cX11_addWriter 80 = .ok (.ireturn, 1) := by decide +kernel
theorem rX11_addWriter_0 {G : kz_G} {d : Nat} {Qr : Option Value → kz_M → Prop} {Qx : String → kz_M → Prop} {a0 : Nat}  {M : kz_M} (h : ∃ fs1 v2, (M).1 a0 = some (.inl (10, fs1)) ∧ fs1[0]? = some (.ref v2) ∧ ((∃ fs41, (M).1 v2 = some (.inl (1, fs41))) ∧ kz_C G (d + 6) 0 0 mX1_wholeWord [.ref v2] M (fun v M3 => ∃ r4 : Int64, v = some (.long r4) ∧ (∃ fs6 v7, (M3).1 a0 = some (.inl (10, fs6)) ∧ fs6[0]? = some (.ref v7) ∧ (∃ fs8, (M3).1 v7 = some (.inl (1, fs8)) ∧ 1 < fs8.length ∧ (kz_C G (d + 6) 0 0 mX11_isName [.long r4] (kz_up M3 v7 (.inl (1, fs8.set 1 (.int 0)))) (fun v M9 => ∃ r10 : Int32, v = some (.int r10) ∧ ((r10 = 0 → Qr (some (.int ((-2)))) M9) ∧ (¬ r10 = 0 → ∃ fs12 v13, (M9).1 a0 = some (.inl (10, fs12)) ∧ fs12[2]? = some (.ref v13) ∧ ((∃ fs39, (M9).1 v13 = some (.inl (8, fs39))) ∧ kz_C G (d + 6) 0 0 mX9_hasWriter [.ref v13, .long r4] M9 (fun v M14 => ∃ r15 : Int32, v = some (.int r15) ∧ ((r15 = 0 → ∃ fs17 v18, (M14).1 a0 = some (.inl (10, fs17)) ∧ fs17[2]? = some (.ref v18) ∧ (∃ fs19 v20, (M14).1 v18 = some (.inl (8, fs19)) ∧ fs19[2]? = some (.int v20) ∧ ((v20 < (6 : Int32) → ∃ fs21 v22, (M14).1 a0 = some (.inl (10, fs21)) ∧ fs21[4]? = some (.ref v22) ∧ (∃ fs23 v24, (M14).1 a0 = some (.inl (10, fs23)) ∧ fs23[2]? = some (.ref v24) ∧ ((∃ fs38, (M14).1 v22 = some (.inl (0, fs38))) ∧ kz_C G (d + 6) 0 0 mX0_keep [.ref v22, .ref v24] M14 (fun v M25 => v = none ∧ (∃ fs28 v29, (M25).1 a0 = some (.inl (10, fs28)) ∧ fs28[2]? = some (.ref v29) ∧ ((∃ fs37, (M25).1 v29 = some (.inl (8, fs37))) ∧ kz_C G (d + 6) 0 0 mX9_enrol [.ref v29, .long r4] M25 (fun v M30 => v = none ∧ (∃ fs33 v34, (M30).1 a0 = some (.inl (10, fs33)) ∧ fs33[2]? = some (.ref v34) ∧ (∃ fs35 v36, (M30).1 v34 = some (.inl (8, fs35)) ∧ fs35[2]? = some (.int v36) ∧ (Qr (some (.int (v36 - 1))) M30)))) Qx))) Qx))) ∧ (¬ v20 < (6 : Int32) → Qr (some (.int ((-3)))) M14)))) ∧ (¬ r15 = 0 → Qr (some (.int ((-2)))) M14))) Qx)))) Qx)))) Qx)) : kz_C G (d + 7) 0 0 mX11_addWriter [.ref a0] M Qr Qx := by
  refine kz_enter (n := 0) kmX11_addWriter.1 (Nat.le_of_ble_eq_true rfl) (ls := [(0, .ref a0)]) rfl ?_
  refine kz_aload_n (pc := 0) 0 (v := .ref a0) (i := 0) rfl rfl rfl dX11_addWriter_0 ?_
  obtain ⟨fs1, v2, hM, hv, h⟩ := h
  refine kz_getf (pc := 1) (k := 0) kcX11 hM hv (by decide) kw_275 dX11_addWriter_1 ?_
  obtain ⟨⟨fs41, he⟩, h⟩ := h
  refine kz_callV (pc := 4) (μ' := mX1_wholeWord) (ci := 1) (q := (RX1, TX1, 2)) (b := v2) (d' := d + 6) (mc' := 0) (ms' := 0) (As := []) (st := []) (c := 0) (sl := 0) kmX1_wholeWord kw_455 (by omega) rfl (Nat.le_of_ble_eq_true rfl) he rfl rfl (Nat.le_refl _) (Nat.le_refl _) dX11_addWriter_4 (fun E M9 hx => kz_Tout rfl (Nat.le_refl _) (Nat.le_refl _) hx) (kz_Cmono (fun v M3 h => ?_) (fun _ _ h => h) h)
  obtain ⟨r4, rfl, h⟩ := h
  show kz_Z G (d + 7) 0 0 mX11_addWriter Qr Qx 7 [(0, .ref a0)] [.long r4] M3 0 0
  refine kz_lstore_n (pc := 7) (i := 1) (ls' := [(0, .ref a0)]) rfl (by decide) rfl dX11_addWriter_7 ?_
  refine kz_aload_n (pc := 8) 1 (v := .ref a0) (i := 0) rfl rfl rfl dX11_addWriter_8 ?_
  obtain ⟨fs6, v7, hM, hv, h⟩ := h
  refine kz_getf (pc := 9) (k := 0) kcX11 hM hv (by decide) kw_275 dX11_addWriter_9 ?_
  refine kz_iconst (pc := 12) (v := 0) (by decide) dX11_addWriter_12 ?_
  obtain ⟨fs8, hM, hlen, h⟩ := h
  refine kz_putf (pc := 13) (k := 1) kcX1 hM (by decide) hlen kw_45 rfl rfl rfl dX11_addWriter_13 ?_
  refine kz_lload_n (pc := 16) 0 (i := 1) rfl rfl dX11_addWriter_16 ?_
  refine kz_callS (pc := 17) (μ' := mX11_isName) (d' := d + 6) (mc' := 0) (ms' := 0) (As := [.long r4]) (st := []) (c := 0) (sl := 0) kmX11_isName kw_462 (by omega) rfl (Nat.le_of_ble_eq_true rfl) (Nat.le_refl _) (Nat.le_refl _) dX11_addWriter_17 (fun E M9 hx => kz_Tout rfl (Nat.le_refl _) (Nat.le_refl _) hx) (kz_Cmono (fun v M9 h => ?_) (fun _ _ h => h) h)
  obtain ⟨r10, rfl, h⟩ := h
  show kz_Z G (d + 7) 0 0 mX11_addWriter Qr Qx 20 [(1, .long r4), (0, .ref a0)] [.int r10] M9 0 0
  refine kz_if_eq (pc := 20) (tgt := 34) (by decide) dX11_addWriter_20 (fun hb => ?_) (fun hb => ?_)
  · replace h := h.1 hb
    refine kz_bipush (pc := 34) (v := (-2)) (by decide) dX11_addWriter_34 ?_
    exact kz_iret (pc := 36) rfl (Nat.le_refl _) (Nat.le_refl _) dX11_addWriter_36 h
  · replace h := h.2 hb
    refine kz_aload_n (pc := 23) 1 (v := .ref a0) (i := 0) rfl rfl rfl dX11_addWriter_23 ?_
    obtain ⟨fs12, v13, hM, hv, h⟩ := h
    refine kz_getf (pc := 24) (k := 2) kcX11 hM hv (by decide) kw_277 dX11_addWriter_24 ?_
    refine kz_lload_n (pc := 27) 0 (i := 1) rfl rfl dX11_addWriter_27 ?_
    obtain ⟨⟨fs39, he⟩, h⟩ := h
    refine kz_callV (pc := 28) (μ' := mX9_hasWriter) (ci := 8) (q := (RX9, TX9, 10)) (b := v13) (d' := d + 6) (mc' := 0) (ms' := 0) (As := [.long r4]) (st := []) (c := 0) (sl := 0) kmX9_hasWriter kw_463 (by omega) rfl (Nat.le_of_ble_eq_true rfl) he rfl rfl (Nat.le_refl _) (Nat.le_refl _) dX11_addWriter_28 (fun E M9 hx => kz_Tout rfl (Nat.le_refl _) (Nat.le_refl _) hx) (kz_Cmono (fun v M14 h => ?_) (fun _ _ h => h) h)
    obtain ⟨r15, rfl, h⟩ := h
    show kz_Z G (d + 7) 0 0 mX11_addWriter Qr Qx 31 [(1, .long r4), (0, .ref a0)] [.int r15] M14 0 0
    refine kz_if_eq (pc := 31) (tgt := 37) (by decide) dX11_addWriter_31 (fun hb => ?_) (fun hb => ?_)
    · replace h := h.1 hb
      refine kz_aload_n (pc := 37) 1 (v := .ref a0) (i := 0) rfl rfl rfl dX11_addWriter_37 ?_
      obtain ⟨fs17, v18, hM, hv, h⟩ := h
      refine kz_getf (pc := 38) (k := 2) kcX11 hM hv (by decide) kw_277 dX11_addWriter_38 ?_
      obtain ⟨fs19, v20, hM, hv, h⟩ := h
      refine kz_getf (pc := 41) (k := 2) kcX9 hM hv (by decide) kw_107 dX11_addWriter_41 ?_
      refine kz_bipush (pc := 44) (v := 6) (by decide) dX11_addWriter_44 ?_
      refine kz_icmp_lt (pc := 46) (tgt := 52) (by decide) dX11_addWriter_46 (fun hb => ?_) (fun hb => ?_)
      · replace h := h.1 hb
        refine kz_aload_n (pc := 52) 1 (v := .ref a0) (i := 0) rfl rfl rfl dX11_addWriter_52 ?_
        obtain ⟨fs21, v22, hM, hv, h⟩ := h
        refine kz_getf (pc := 53) (k := 4) kcX11 hM hv (by decide) kw_279 dX11_addWriter_53 ?_
        refine kz_aload_n (pc := 56) 1 (v := .ref a0) (i := 0) rfl rfl rfl dX11_addWriter_56 ?_
        obtain ⟨fs23, v24, hM, hv, h⟩ := h
        refine kz_getf (pc := 57) (k := 2) kcX11 hM hv (by decide) kw_277 dX11_addWriter_57 ?_
        obtain ⟨⟨fs38, he⟩, h⟩ := h
        refine kz_callV (pc := 60) (μ' := mX0_keep) (ci := 0) (q := (RX0, TX0, 3)) (b := v22) (d' := d + 6) (mc' := 0) (ms' := 0) (As := [.ref v24]) (st := []) (c := 0) (sl := 0) kmX0_keep kw_464 (by omega) rfl (Nat.le_of_ble_eq_true rfl) he rfl rfl (Nat.le_refl _) (Nat.le_refl _) dX11_addWriter_60 (fun E M9 hx => kz_Tout rfl (Nat.le_refl _) (Nat.le_refl _) hx) (kz_Cmono (fun v M25 h => ?_) (fun _ _ h => h) h)
        obtain ⟨rfl, h⟩ := h
        show kz_Z G (d + 7) 0 0 mX11_addWriter Qr Qx 63 [(1, .long r4), (0, .ref a0)] [] M25 0 0
        refine kz_aload_n (pc := 63) 1 (v := .ref a0) (i := 0) rfl rfl rfl dX11_addWriter_63 ?_
        obtain ⟨fs28, v29, hM, hv, h⟩ := h
        refine kz_getf (pc := 64) (k := 2) kcX11 hM hv (by decide) kw_277 dX11_addWriter_64 ?_
        refine kz_lload_n (pc := 67) 0 (i := 1) rfl rfl dX11_addWriter_67 ?_
        obtain ⟨⟨fs37, he⟩, h⟩ := h
        refine kz_callV (pc := 68) (μ' := mX9_enrol) (ci := 8) (q := (RX9, TX9, 10)) (b := v29) (d' := d + 6) (mc' := 0) (ms' := 0) (As := [.long r4]) (st := []) (c := 0) (sl := 0) kmX9_enrol kw_271 (by omega) rfl (Nat.le_of_ble_eq_true rfl) he rfl rfl (Nat.le_refl _) (Nat.le_refl _) dX11_addWriter_68 (fun E M9 hx => kz_Tout rfl (Nat.le_refl _) (Nat.le_refl _) hx) (kz_Cmono (fun v M30 h => ?_) (fun _ _ h => h) h)
        obtain ⟨rfl, h⟩ := h
        show kz_Z G (d + 7) 0 0 mX11_addWriter Qr Qx 71 [(1, .long r4), (0, .ref a0)] [] M30 0 0
        refine kz_aload_n (pc := 71) 1 (v := .ref a0) (i := 0) rfl rfl rfl dX11_addWriter_71 ?_
        obtain ⟨fs33, v34, hM, hv, h⟩ := h
        refine kz_getf (pc := 72) (k := 2) kcX11 hM hv (by decide) kw_277 dX11_addWriter_72 ?_
        obtain ⟨fs35, v36, hM, hv, h⟩ := h
        refine kz_getf (pc := 75) (k := 2) kcX9 hM hv (by decide) kw_107 dX11_addWriter_75 ?_
        refine kz_iconst (pc := 78) (v := 1) (by decide) dX11_addWriter_78 ?_
        refine kz_isub (pc := 79) dX11_addWriter_79 ?_
        exact kz_iret (pc := 80) rfl (Nat.le_refl _) (Nat.le_refl _) dX11_addWriter_80 h
      · replace h := h.2 hb
        refine kz_bipush (pc := 49) (v := (-3)) (by decide) dX11_addWriter_49 ?_
        exact kz_iret (pc := 51) rfl (Nat.le_refl _) (Nat.le_refl _) dX11_addWriter_51 h
    · replace h := h.2 hb
      refine kz_bipush (pc := 34) (v := (-2)) (by decide) dX11_addWriter_34 ?_
      exact kz_iret (pc := 36) rfl (Nat.le_refl _) (Nat.le_refl _) dX11_addWriter_36 h
theorem dX11_endow_0 : decode cX11_endow 0 = .ok (.iload_n 1, 1) := by decide +kernel
theorem dX11_endow_1 : decode cX11_endow 1 = .ok (.iconst 1, 1) := by decide +kernel
theorem dX11_endow_2 : decode cX11_endow 2 = .ok (.if_icmp .lt 10, 3) := by decide +kernel
theorem dX11_endow_5 : decode cX11_endow 5 = .ok (.iload_n 1, 1) := by decide +kernel
theorem dX11_endow_6 : decode cX11_endow 6 = .ok (.sipush 9999, 3) := by decide +kernel
theorem dX11_endow_9 : decode cX11_endow 9 = .ok (.if_icmp .le 14, 3) := by decide +kernel
theorem dX11_endow_12 : decode cX11_endow 12 = .ok (.new 134, 3) := by decide +kernel
theorem dX11_endow_15 : decode cX11_endow 15 = .ok (.dup, 1) := by decide +kernel
theorem dX11_endow_16 : decode cX11_endow 16 = .ok (.ldc_w 398, 3) := by decide +kernel
theorem dX11_endow_19 : decode cX11_endow 19 = .ok (.invokespecial 138, 3) := by decide +kernel
theorem dX11_endow_22 : decode cX11_endow 22 = .ok (.athrow, 1) := by decide +kernel
theorem dX11_endow_23 : decode cX11_endow 23 = .ok (.aload_n 0, 1) := by decide +kernel
theorem dX11_endow_24 : decode cX11_endow 24 = .ok (.getfield 36, 3) := by decide +kernel
theorem dX11_endow_27 : decode cX11_endow 27 = .ok (.aload_n 0, 1) := by decide +kernel
theorem dX11_endow_28 : decode cX11_endow 28 = .ok (.getfield 26, 3) := by decide +kernel
theorem dX11_endow_31 : decode cX11_endow 31 = .ok (.invokevirtual 362, 3) := by decide +kernel
theorem dX11_endow_34 : decode cX11_endow 34 = .ok (.aload_n 0, 1) := by decide +kernel
theorem dX11_endow_35 : decode cX11_endow 35 = .ok (.getfield 26, 3) := by decide +kernel
theorem dX11_endow_38 : decode cX11_endow 38 = .ok (.ldc_w 400, 3) := by decide +kernel
theorem dX11_endow_41 : decode cX11_endow 41 = .ok (.aload_n 0, 1) := by decide +kernel
theorem dX11_endow_42 : decode cX11_endow 42 = .ok (.getfield 26, 3) := by decide +kernel
theorem dX11_endow_45 : decode cX11_endow 45 = .ok (.getfield 117, 3) := by decide +kernel
theorem dX11_endow_48 : decode cX11_endow 48 = .ok (.iload_n 1, 1) := by decide +kernel
theorem dX11_endow_49 : decode cX11_endow 49 = .ok (.iadd, 1) := by decide +kernel
theorem dX11_endow_50 : decode cX11_endow 50 = .ok (.invokestatic 378, 3) := by decide +kernel
theorem dX11_endow_53 : decode cX11_endow 53 = .ok (.putfield 117, 3) := by decide +kernel
theorem dX11_endow_56 : decode cX11_endow 56 = .ok (.aload_n 0, 1) := by decide +kernel
theorem dX11_endow_57 : decode cX11_endow 57 = .ok (.getfield 26, 3) := by decide +kernel
theorem dX11_endow_60 : decode cX11_endow 60 = .ok (.getfield 117, 3) := by decide +kernel
theorem dX11_endow_63 : decode cX11_endow 63 = .ok (.ireturn, 1) := by decide +kernel
theorem rX11_endow_0 {G : kz_G} {d : Nat} {mc ms : Nat} {Qr : Option Value → kz_M → Prop} {Qx : String → kz_M → Prop} {a0 : Nat} {p1 : Int32}  {M : kz_M} (hG : kz_stat G) (h : (p1 < (1 : Int32) → 0 + 1 ≤ mc ∧ 0 + 6 ≤ ms ∧ ∀ g1, Qx "java/lang/IllegalArgumentException" ((M).1, (M).2 + g1)) ∧ (¬ p1 < (1 : Int32) → (p1 ≤ (9999 : Int32) → ∃ fs2 v3, (M).1 a0 = some (.inl (10, fs2)) ∧ fs2[4]? = some (.ref v3) ∧ (∃ fs4 v5, (M).1 a0 = some (.inl (10, fs4)) ∧ fs4[2]? = some (.ref v5) ∧ ((∃ fs20, (M).1 v3 = some (.inl (0, fs20))) ∧ kz_C G (d + 6) 0 0 mX0_keep [.ref v3, .ref v5] M (fun v M6 => v = none ∧ (∃ fs9 v10, (M6).1 a0 = some (.inl (10, fs9)) ∧ fs9[2]? = some (.ref v10) ∧ (∃ fs11 v12, (M6).1 a0 = some (.inl (10, fs11)) ∧ fs11[2]? = some (.ref v12) ∧ (∃ fs13 v14, (M6).1 v12 = some (.inl (8, fs13)) ∧ fs13[1]? = some (.int v14) ∧ (∃ fs15, (M6).1 v10 = some (.inl (8, fs15)) ∧ 1 < fs15.length ∧ (∃ fs16 v17, ((kz_up M6 v10 (.inl (8, fs15.set 1 (.int (if (v14 + p1) < 99999 then (v14 + p1) else 99999)))))).1 a0 = some (.inl (10, fs16)) ∧ fs16[2]? = some (.ref v17) ∧ (∃ fs18 v19, ((kz_up M6 v10 (.inl (8, fs15.set 1 (.int (if (v14 + p1) < 99999 then (v14 + p1) else 99999)))))).1 v17 = some (.inl (8, fs18)) ∧ fs18[1]? = some (.int v19) ∧ (Qr (some (.int v19)) (kz_up M6 v10 (.inl (8, fs15.set 1 (.int (if (v14 + p1) < 99999 then (v14 + p1) else 99999))))))))))))) Qx))) ∧ (¬ p1 ≤ (9999 : Int32) → 0 + 1 ≤ mc ∧ 0 + 6 ≤ ms ∧ ∀ g21, Qx "java/lang/IllegalArgumentException" ((M).1, (M).2 + g21)))) : kz_C G (d + 7) mc ms mX11_endow [.ref a0, .int p1] M Qr Qx := by
  refine kz_enter (n := 1) kmX11_endow.1 (Nat.le_of_ble_eq_true rfl) (ls := [(0, .ref a0), (1, .int p1)]) rfl ?_
  refine kz_iload_n (pc := 0) 1 (i := 1) rfl rfl dX11_endow_0 ?_
  refine kz_iconst (pc := 1) (v := 1) (by decide) dX11_endow_1 ?_
  refine kz_icmp_lt (pc := 2) (tgt := 12) (by decide) dX11_endow_2 (fun hb => ?_) (fun hb => ?_)
  · replace h := h.1 hb
    exact kz_throwSW (pc := 12) (ik := 134) (is := 398) (ic := 138) (j := 1010) (text := "no such endowment") hG.1 hG.2.1 hG.2.2.1 (by decide +kernel) kz_xn kw_549 kw_19 (List.mem_of_getElem? (i := 10) rfl) kz_xw_IllegalArgumentException kz_xg_IllegalArgumentException rfl (by show 2 + 3 < _; omega) (by decide) (Nat.le_of_ble_eq_true rfl) h.1 h.2.1 dX11_endow_12 dX11_endow_15 dX11_endow_16 dX11_endow_19 dX11_endow_22 h.2.2
  · replace h := h.2 hb
    refine kz_iload_n (pc := 5) 1 (i := 1) rfl rfl dX11_endow_5 ?_
    refine kz_sipush (pc := 6) (v := 9999) (by decide) dX11_endow_6 ?_
    refine kz_icmp_le (pc := 9) (tgt := 23) (by decide) dX11_endow_9 (fun hb => ?_) (fun hb => ?_)
    · replace h := h.1 hb
      refine kz_aload_n (pc := 23) 0 (v := .ref a0) (i := 0) rfl rfl rfl dX11_endow_23 ?_
      obtain ⟨fs2, v3, hM, hv, h⟩ := h
      refine kz_getf (pc := 24) (k := 4) kcX11 hM hv (by decide) kw_279 dX11_endow_24 ?_
      refine kz_aload_n (pc := 27) 0 (v := .ref a0) (i := 0) rfl rfl rfl dX11_endow_27 ?_
      obtain ⟨fs4, v5, hM, hv, h⟩ := h
      refine kz_getf (pc := 28) (k := 2) kcX11 hM hv (by decide) kw_277 dX11_endow_28 ?_
      obtain ⟨⟨fs20, he⟩, h⟩ := h
      refine kz_callV (pc := 31) (μ' := mX0_keep) (ci := 0) (q := (RX0, TX0, 3)) (b := v3) (d' := d + 6) (mc' := 0) (ms' := 0) (As := [.ref v5]) (st := []) (c := 0) (sl := 0) kmX0_keep kw_464 (by omega) rfl (Nat.le_of_ble_eq_true rfl) he rfl rfl (Nat.zero_le _) (Nat.zero_le _) dX11_endow_31 (fun E M9 hx => kz_Tout rfl (Nat.zero_le _) (Nat.zero_le _) hx) (kz_Cmono (fun v M6 h => ?_) (fun _ _ h => h) h)
      obtain ⟨rfl, h⟩ := h
      show kz_Z G (d + 7) mc ms mX11_endow Qr Qx 34 [(0, .ref a0), (1, .int p1)] [] M6 0 0
      refine kz_aload_n (pc := 34) 0 (v := .ref a0) (i := 0) rfl rfl rfl dX11_endow_34 ?_
      obtain ⟨fs9, v10, hM, hv, h⟩ := h
      refine kz_getf (pc := 35) (k := 2) kcX11 hM hv (by decide) kw_277 dX11_endow_35 ?_
      refine kz_ldcwI (pc := 38) kw_1290 rfl dX11_endow_38 ?_
      refine kz_aload_n (pc := 41) 0 (v := .ref a0) (i := 0) rfl rfl rfl dX11_endow_41 ?_
      obtain ⟨fs11, v12, hM, hv, h⟩ := h
      refine kz_getf (pc := 42) (k := 2) kcX11 hM hv (by decide) kw_277 dX11_endow_42 ?_
      obtain ⟨fs13, v14, hM, hv, h⟩ := h
      refine kz_getf (pc := 45) (k := 1) kcX9 hM hv (by decide) kw_104 dX11_endow_45 ?_
      refine kz_iload_n (pc := 48) 1 (i := 1) rfl rfl dX11_endow_48 ?_
      refine kz_iadd (pc := 49) dX11_endow_49 ?_
      refine kz_mmin (pc := 50) kw_1249 kw_1250 kw_15 kw_1251 (by omega) (Nat.le_of_ble_eq_true rfl) (Nat.zero_le _) (Nat.zero_le _) dX11_endow_50 ?_
      obtain ⟨fs15, hM, hlen, h⟩ := h
      refine kz_putf (pc := 53) (k := 1) kcX9 hM (by decide) hlen kw_104 rfl rfl rfl dX11_endow_53 ?_
      refine kz_aload_n (pc := 56) 0 (v := .ref a0) (i := 0) rfl rfl rfl dX11_endow_56 ?_
      obtain ⟨fs16, v17, hM, hv, h⟩ := h
      refine kz_getf (pc := 57) (k := 2) kcX11 hM hv (by decide) kw_277 dX11_endow_57 ?_
      obtain ⟨fs18, v19, hM, hv, h⟩ := h
      refine kz_getf (pc := 60) (k := 1) kcX9 hM hv (by decide) kw_104 dX11_endow_60 ?_
      exact kz_iret (pc := 63) rfl (Nat.zero_le _) (Nat.zero_le _) dX11_endow_63 h
    · replace h := h.2 hb
      exact kz_throwSW (pc := 12) (ik := 134) (is := 398) (ic := 138) (j := 1010) (text := "no such endowment") hG.1 hG.2.1 hG.2.2.1 (by decide +kernel) kz_xn kw_549 kw_19 (List.mem_of_getElem? (i := 10) rfl) kz_xw_IllegalArgumentException kz_xg_IllegalArgumentException rfl (by show 2 + 3 < _; omega) (by decide) (Nat.le_of_ble_eq_true rfl) h.1 h.2.1 dX11_endow_12 dX11_endow_15 dX11_endow_16 dX11_endow_19 dX11_endow_22 h.2.2
theorem dX11_pass_0 : decode cX11_pass 0 = .ok (.iload_n 1, 1) := by decide +kernel
theorem dX11_pass_1 : decode cX11_pass 1 = .ok (.iconst 1, 1) := by decide +kernel
theorem dX11_pass_2 : decode cX11_pass 2 = .ok (.if_icmp .lt 9, 3) := by decide +kernel
theorem dX11_pass_5 : decode cX11_pass 5 = .ok (.iload_n 1, 1) := by decide +kernel
theorem dX11_pass_6 : decode cX11_pass 6 = .ok (.bipush 99, 2) := by decide +kernel
theorem dX11_pass_8 : decode cX11_pass 8 = .ok (.if_icmp .le 14, 3) := by decide +kernel
theorem dX11_pass_11 : decode cX11_pass 11 = .ok (.new 134, 3) := by decide +kernel
theorem dX11_pass_14 : decode cX11_pass 14 = .ok (.dup, 1) := by decide +kernel
theorem dX11_pass_15 : decode cX11_pass 15 = .ok (.ldc_w 401, 3) := by decide +kernel
theorem dX11_pass_18 : decode cX11_pass 18 = .ok (.invokespecial 138, 3) := by decide +kernel
theorem dX11_pass_21 : decode cX11_pass 21 = .ok (.athrow, 1) := by decide +kernel
theorem dX11_pass_22 : decode cX11_pass 22 = .ok (.aload_n 0, 1) := by decide +kernel
theorem dX11_pass_23 : decode cX11_pass 23 = .ok (.getfield 26, 3) := by decide +kernel
theorem dX11_pass_26 : decode cX11_pass 26 = .ok (.getfield 114, 3) := by decide +kernel
theorem dX11_pass_29 : decode cX11_pass 29 = .ok (.iload_n 1, 1) := by decide +kernel
theorem dX11_pass_30 : decode cX11_pass 30 = .ok (.iadd, 1) := by decide +kernel
theorem dX11_pass_31 : decode cX11_pass 31 = .ok (.sipush 9999, 3) := by decide +kernel
theorem dX11_pass_34 : decode cX11_pass 34 = .ok (.if_icmp .le 14, 3) := by decide +kernel
theorem dX11_pass_37 : decode cX11_pass 37 = .ok (.new 386, 3) := by decide +kernel
theorem dX11_pass_40 : decode cX11_pass 40 = .ok (.dup, 1) := by decide +kernel
theorem dX11_pass_41 : decode cX11_pass 41 = .ok (.ldc_w 403, 3) := by decide +kernel
theorem dX11_pass_44 : decode cX11_pass 44 = .ok (.invokespecial 390, 3) := by decide +kernel
theorem dX11_pass_47 : decode cX11_pass 47 = .ok (.athrow, 1) := by decide +kernel
theorem dX11_pass_48 : decode cX11_pass 48 = .ok (.aload_n 0, 1) := by decide +kernel
theorem dX11_pass_49 : decode cX11_pass 49 = .ok (.getfield 36, 3) := by decide +kernel
theorem dX11_pass_52 : decode cX11_pass 52 = .ok (.aload_n 0, 1) := by decide +kernel
theorem dX11_pass_53 : decode cX11_pass 53 = .ok (.getfield 26, 3) := by decide +kernel
theorem dX11_pass_56 : decode cX11_pass 56 = .ok (.invokevirtual 362, 3) := by decide +kernel
theorem dX11_pass_59 : decode cX11_pass 59 = .ok (.aload_n 0, 1) := by decide +kernel
theorem dX11_pass_60 : decode cX11_pass 60 = .ok (.getfield 26, 3) := by decide +kernel
theorem dX11_pass_63 : decode cX11_pass 63 = .ok (.dup, 1) := by decide +kernel
theorem dX11_pass_64 : decode cX11_pass 64 = .ok (.getfield 114, 3) := by decide +kernel
theorem dX11_pass_67 : decode cX11_pass 67 = .ok (.iload_n 1, 1) := by decide +kernel
theorem dX11_pass_68 : decode cX11_pass 68 = .ok (.iadd, 1) := by decide +kernel
theorem dX11_pass_69 : decode cX11_pass 69 = .ok (.putfield 114, 3) := by decide +kernel
theorem dX11_pass_72 : decode cX11_pass 72 = .ok (.aload_n 0, 1) := by decide +kernel
theorem dX11_pass_73 : decode cX11_pass 73 = .ok (.getfield 26, 3) := by decide +kernel
theorem dX11_pass_76 : decode cX11_pass 76 = .ok (.getfield 114, 3) := by decide +kernel
theorem dX11_pass_79 : decode cX11_pass 79 = .ok (.ireturn, 1) := by decide +kernel
theorem rX11_pass_0 {G : kz_G} {d : Nat} {mc ms : Nat} {Qr : Option Value → kz_M → Prop} {Qx : String → kz_M → Prop} {a0 : Nat} {p1 : Int32}  {M : kz_M} (hG : kz_stat G) (h : (p1 < (1 : Int32) → 0 + 1 ≤ mc ∧ 0 + 6 ≤ ms ∧ ∀ g1, Qx "java/lang/IllegalArgumentException" ((M).1, (M).2 + g1)) ∧ (¬ p1 < (1 : Int32) → (p1 ≤ (99 : Int32) → ∃ fs2 v3, (M).1 a0 = some (.inl (10, fs2)) ∧ fs2[2]? = some (.ref v3) ∧ (∃ fs4 v5, (M).1 v3 = some (.inl (8, fs4)) ∧ fs4[0]? = some (.int v5) ∧ (((v5 + p1) ≤ (9999 : Int32) → ∃ fs6 v7, (M).1 a0 = some (.inl (10, fs6)) ∧ fs6[4]? = some (.ref v7) ∧ (∃ fs8 v9, (M).1 a0 = some (.inl (10, fs8)) ∧ fs8[2]? = some (.ref v9) ∧ ((∃ fs22, (M).1 v7 = some (.inl (0, fs22))) ∧ kz_C G (d + 6) 0 0 mX0_keep [.ref v7, .ref v9] M (fun v M10 => v = none ∧ (∃ fs13 v14, (M10).1 a0 = some (.inl (10, fs13)) ∧ fs13[2]? = some (.ref v14) ∧ (∃ fs15 v16, (M10).1 v14 = some (.inl (8, fs15)) ∧ fs15[0]? = some (.int v16) ∧ (∃ fs17, (M10).1 v14 = some (.inl (8, fs17)) ∧ 0 < fs17.length ∧ (∃ fs18 v19, ((kz_up M10 v14 (.inl (8, fs17.set 0 (.int (v16 + p1)))))).1 a0 = some (.inl (10, fs18)) ∧ fs18[2]? = some (.ref v19) ∧ (∃ fs20 v21, ((kz_up M10 v14 (.inl (8, fs17.set 0 (.int (v16 + p1)))))).1 v19 = some (.inl (8, fs20)) ∧ fs20[0]? = some (.int v21) ∧ (Qr (some (.int v21)) (kz_up M10 v14 (.inl (8, fs17.set 0 (.int (v16 + p1)))))))))))) Qx))) ∧ (¬ (v5 + p1) ≤ (9999 : Int32) → 0 + 1 ≤ mc ∧ 0 + 6 ≤ ms ∧ ∀ g23, Qx "java/lang/IllegalStateException" ((M).1, (M).2 + g23))))) ∧ (¬ p1 ≤ (99 : Int32) → 0 + 1 ≤ mc ∧ 0 + 6 ≤ ms ∧ ∀ g24, Qx "java/lang/IllegalArgumentException" ((M).1, (M).2 + g24)))) : kz_C G (d + 7) mc ms mX11_pass [.ref a0, .int p1] M Qr Qx := by
  refine kz_enter (n := 1) kmX11_pass.1 (Nat.le_of_ble_eq_true rfl) (ls := [(0, .ref a0), (1, .int p1)]) rfl ?_
  refine kz_iload_n (pc := 0) 1 (i := 1) rfl rfl dX11_pass_0 ?_
  refine kz_iconst (pc := 1) (v := 1) (by decide) dX11_pass_1 ?_
  refine kz_icmp_lt (pc := 2) (tgt := 11) (by decide) dX11_pass_2 (fun hb => ?_) (fun hb => ?_)
  · replace h := h.1 hb
    exact kz_throwSW (pc := 11) (ik := 134) (is := 401) (ic := 138) (j := 1011) (text := "no such number of days") hG.1 hG.2.1 hG.2.2.1 (by decide +kernel) kz_xn kw_549 kw_19 (List.mem_of_getElem? (i := 11) rfl) kz_xw_IllegalArgumentException kz_xg_IllegalArgumentException rfl (by show 2 + 3 < _; omega) (by decide) (Nat.le_of_ble_eq_true rfl) h.1 h.2.1 dX11_pass_11 dX11_pass_14 dX11_pass_15 dX11_pass_18 dX11_pass_21 h.2.2
  · replace h := h.2 hb
    refine kz_iload_n (pc := 5) 1 (i := 1) rfl rfl dX11_pass_5 ?_
    refine kz_bipush (pc := 6) (v := 99) (by decide) dX11_pass_6 ?_
    refine kz_icmp_le (pc := 8) (tgt := 22) (by decide) dX11_pass_8 (fun hb => ?_) (fun hb => ?_)
    · replace h := h.1 hb
      refine kz_aload_n (pc := 22) 0 (v := .ref a0) (i := 0) rfl rfl rfl dX11_pass_22 ?_
      obtain ⟨fs2, v3, hM, hv, h⟩ := h
      refine kz_getf (pc := 23) (k := 2) kcX11 hM hv (by decide) kw_277 dX11_pass_23 ?_
      obtain ⟨fs4, v5, hM, hv, h⟩ := h
      refine kz_getf (pc := 26) (k := 0) kcX9 hM hv (by decide) kw_101 dX11_pass_26 ?_
      refine kz_iload_n (pc := 29) 1 (i := 1) rfl rfl dX11_pass_29 ?_
      refine kz_iadd (pc := 30) dX11_pass_30 ?_
      refine kz_sipush (pc := 31) (v := 9999) (by decide) dX11_pass_31 ?_
      refine kz_icmp_le (pc := 34) (tgt := 48) (by decide) dX11_pass_34 (fun hb => ?_) (fun hb => ?_)
      · replace h := h.1 hb
        refine kz_aload_n (pc := 48) 0 (v := .ref a0) (i := 0) rfl rfl rfl dX11_pass_48 ?_
        obtain ⟨fs6, v7, hM, hv, h⟩ := h
        refine kz_getf (pc := 49) (k := 4) kcX11 hM hv (by decide) kw_279 dX11_pass_49 ?_
        refine kz_aload_n (pc := 52) 0 (v := .ref a0) (i := 0) rfl rfl rfl dX11_pass_52 ?_
        obtain ⟨fs8, v9, hM, hv, h⟩ := h
        refine kz_getf (pc := 53) (k := 2) kcX11 hM hv (by decide) kw_277 dX11_pass_53 ?_
        obtain ⟨⟨fs22, he⟩, h⟩ := h
        refine kz_callV (pc := 56) (μ' := mX0_keep) (ci := 0) (q := (RX0, TX0, 3)) (b := v7) (d' := d + 6) (mc' := 0) (ms' := 0) (As := [.ref v9]) (st := []) (c := 0) (sl := 0) kmX0_keep kw_464 (by omega) rfl (Nat.le_of_ble_eq_true rfl) he rfl rfl (Nat.zero_le _) (Nat.zero_le _) dX11_pass_56 (fun E M9 hx => kz_Tout rfl (Nat.zero_le _) (Nat.zero_le _) hx) (kz_Cmono (fun v M10 h => ?_) (fun _ _ h => h) h)
        obtain ⟨rfl, h⟩ := h
        show kz_Z G (d + 7) mc ms mX11_pass Qr Qx 59 [(0, .ref a0), (1, .int p1)] [] M10 0 0
        refine kz_aload_n (pc := 59) 0 (v := .ref a0) (i := 0) rfl rfl rfl dX11_pass_59 ?_
        obtain ⟨fs13, v14, hM, hv, h⟩ := h
        refine kz_getf (pc := 60) (k := 2) kcX11 hM hv (by decide) kw_277 dX11_pass_60 ?_
        refine kz_dup (pc := 63) rfl dX11_pass_63 ?_
        obtain ⟨fs15, v16, hM, hv, h⟩ := h
        refine kz_getf (pc := 64) (k := 0) kcX9 hM hv (by decide) kw_101 dX11_pass_64 ?_
        refine kz_iload_n (pc := 67) 1 (i := 1) rfl rfl dX11_pass_67 ?_
        refine kz_iadd (pc := 68) dX11_pass_68 ?_
        obtain ⟨fs17, hM, hlen, h⟩ := h
        refine kz_putf (pc := 69) (k := 0) kcX9 hM (by decide) hlen kw_101 rfl rfl rfl dX11_pass_69 ?_
        refine kz_aload_n (pc := 72) 0 (v := .ref a0) (i := 0) rfl rfl rfl dX11_pass_72 ?_
        obtain ⟨fs18, v19, hM, hv, h⟩ := h
        refine kz_getf (pc := 73) (k := 2) kcX11 hM hv (by decide) kw_277 dX11_pass_73 ?_
        obtain ⟨fs20, v21, hM, hv, h⟩ := h
        refine kz_getf (pc := 76) (k := 0) kcX9 hM hv (by decide) kw_101 dX11_pass_76 ?_
        exact kz_iret (pc := 79) rfl (Nat.zero_le _) (Nat.zero_le _) dX11_pass_79 h
      · replace h := h.2 hb
        exact kz_throwSW (pc := 37) (ik := 386) (is := 403) (ic := 390) (j := 1012) (text := "too late a day") hG.1 hG.2.1 hG.2.2.1 (by decide +kernel) kz_xn kw_1266 kw_26 (List.mem_of_getElem? (i := 12) rfl) kz_xw_IllegalStateException kz_xg_IllegalStateException rfl (by show 2 + 3 < _; omega) (by decide) (Nat.le_of_ble_eq_true rfl) h.1 h.2.1 dX11_pass_37 dX11_pass_40 dX11_pass_41 dX11_pass_44 dX11_pass_47 h.2.2
    · replace h := h.2 hb
      exact kz_throwSW (pc := 11) (ik := 134) (is := 401) (ic := 138) (j := 1011) (text := "no such number of days") hG.1 hG.2.1 hG.2.2.1 (by decide +kernel) kz_xn kw_549 kw_19 (List.mem_of_getElem? (i := 11) rfl) kz_xw_IllegalArgumentException kz_xg_IllegalArgumentException rfl (by show 2 + 3 < _; omega) (by decide) (Nat.le_of_ble_eq_true rfl) h.1 h.2.1 dX11_pass_11 dX11_pass_14 dX11_pass_15 dX11_pass_18 dX11_pass_21 h.2.2
theorem dX11_set_0 : decode cX11_set 0 = .ok (.aload_n 0, 1) := by decide +kernel
theorem dX11_set_1 : decode cX11_set 1 = .ok (.iload_n 1, 1) := by decide +kernel
theorem dX11_set_2 : decode cX11_set 2 = .ok (.iload_n 2, 1) := by decide +kernel
theorem dX11_set_3 : decode cX11_set 3 = .ok (.invokevirtual 289, 3) := by decide +kernel
theorem dX11_set_6 : decode cX11_set 6 = .ok (.aload_n 0, 1) := by decide +kernel
theorem dX11_set_7 : decode cX11_set 7 = .ok (.getfield 36, 3) := by decide +kernel
theorem dX11_set_10 : decode cX11_set 10 = .ok (.aload_n 0, 1) := by decide +kernel
theorem dX11_set_11 : decode cX11_set 11 = .ok (.getfield 26, 3) := by decide +kernel
theorem dX11_set_14 : decode cX11_set 14 = .ok (.invokevirtual 362, 3) := by decide +kernel
theorem dX11_set_17 : decode cX11_set 17 = .ok (.aload_n 0, 1) := by decide +kernel
theorem dX11_set_18 : decode cX11_set 18 = .ok (.getfield 26, 3) := by decide +kernel
theorem dX11_set_21 : decode cX11_set 21 = .ok (.iload_n 1, 1) := by decide +kernel
theorem dX11_set_22 : decode cX11_set 22 = .ok (.invokevirtual 144, 3) := by decide +kernel
theorem dX11_set_25 : decode cX11_set 25 = .ok (.istore_n 3, 1) := by decide +kernel
theorem dX11_set_26 : decode cX11_set 26 = .ok (.aload_n 0, 1) := by decide +kernel
theorem dX11_set_27 : decode cX11_set 27 = .ok (.getfield 26, 3) := by decide +kernel
theorem dX11_set_30 : decode cX11_set 30 = .ok (.getfield 319, 3) := by decide +kernel
theorem dX11_set_33 : decode cX11_set 33 = .ok (.iload_n 1, 1) := by decide +kernel
theorem dX11_set_34 : decode cX11_set 34 = .ok (.iload_n 2, 1) := by decide +kernel
theorem dX11_set_35 : decode cX11_set 35 = .ok (.invokestatic 335, 3) := by decide +kernel
theorem dX11_set_38 : decode cX11_set 38 = .ok (.iload_n 3, 1) := by decide +kernel
theorem dX11_set_39 : decode cX11_set 39 = .ok (.ireturn, 1) := by decide +kernel
theorem rX11_set_0 {G : kz_G} {d : Nat} {mc ms : Nat} {Qr : Option Value → kz_M → Prop} {Qx : String → kz_M → Prop} {a0 : Nat} {p1 : Int32} {p2 : Int32}  {M : kz_M} (h : (∃ fs26, (M).1 a0 = some (.inl (10, fs26))) ∧ ∃ mc3 ms3, 0 + mc3 ≤ mc ∧ 0 + ms3 ≤ ms ∧ kz_C G (d + 7) mc3 ms3 mX11_checkValue [.ref a0, .int p1, .int p2] M (fun v M1 => v = none ∧ (∃ fs4 v5, (M1).1 a0 = some (.inl (10, fs4)) ∧ fs4[4]? = some (.ref v5) ∧ (∃ fs6 v7, (M1).1 a0 = some (.inl (10, fs6)) ∧ fs6[2]? = some (.ref v7) ∧ ((∃ fs25, (M1).1 v5 = some (.inl (0, fs25))) ∧ kz_C G (d + 7) 0 0 mX0_keep [.ref v5, .ref v7] M1 (fun v M8 => v = none ∧ (∃ fs11 v12, (M8).1 a0 = some (.inl (10, fs11)) ∧ fs11[2]? = some (.ref v12) ∧ ((∃ fs24, (M8).1 v12 = some (.inl (8, fs24))) ∧ kz_C G (d + 7) 0 0 mX9_rule [.ref v12, .int p1] M8 (fun v M13 => ∃ r14 : Int32, v = some (.int r14) ∧ (∃ fs16 v17, (M13).1 a0 = some (.inl (10, fs16)) ∧ fs16[2]? = some (.ref v17) ∧ (∃ fs18 v19, (M13).1 v17 = some (.inl (8, fs18)) ∧ fs18[4]? = some (.ref v19) ∧ (kz_C G (d + 7) 0 0 mX11_put [.ref v19, .int p1, .int p2] M13 (fun v M20 => v = none ∧ (Qr (some (.int r14)) M20)) Qx)))) Qx))) Qx)))) Qx) : kz_C G (d + 8) mc ms mX11_set [.ref a0, .int p1, .int p2] M Qr Qx := by
  refine kz_enter (n := 2) kmX11_set.1 (Nat.le_of_ble_eq_true rfl) (ls := [(0, .ref a0), (1, .int p1), (2, .int p2)]) rfl ?_
  refine kz_aload_n (pc := 0) 0 (v := .ref a0) (i := 0) rfl rfl rfl dX11_set_0 ?_
  refine kz_iload_n (pc := 1) 1 (i := 1) rfl rfl dX11_set_1 ?_
  refine kz_iload_n (pc := 2) 2 (i := 2) rfl rfl dX11_set_2 ?_
  obtain ⟨⟨fs26, he⟩, h⟩ := h
  obtain ⟨mc3, ms3, hc3, hs3, h⟩ := h
  refine kz_callV (pc := 3) (μ' := mX11_checkValue) (ci := 10) (q := (RX11, TX11, 10)) (b := a0) (d' := d + 7) (mc' := mc3) (ms' := ms3) (As := [.int p1, .int p2]) (st := []) (c := 0) (sl := 0) kmX11_checkValue kw_913 (by omega) rfl (Nat.le_of_ble_eq_true rfl) he rfl rfl hc3 hs3 dX11_set_3 (fun E M9 hx => kz_Tout rfl hc3 hs3 hx) (kz_Cmono (fun v M1 h => ?_) (fun _ _ h => h) h)
  obtain ⟨rfl, h⟩ := h
  show kz_Z G (d + 8) mc ms mX11_set Qr Qx 6 [(0, .ref a0), (1, .int p1), (2, .int p2)] [] M1 (0 + mc3) (0 + ms3)
  refine kz_aload_n (pc := 6) 0 (v := .ref a0) (i := 0) rfl rfl rfl dX11_set_6 ?_
  obtain ⟨fs4, v5, hM, hv, h⟩ := h
  refine kz_getf (pc := 7) (k := 4) kcX11 hM hv (by decide) kw_279 dX11_set_7 ?_
  refine kz_aload_n (pc := 10) 0 (v := .ref a0) (i := 0) rfl rfl rfl dX11_set_10 ?_
  obtain ⟨fs6, v7, hM, hv, h⟩ := h
  refine kz_getf (pc := 11) (k := 2) kcX11 hM hv (by decide) kw_277 dX11_set_11 ?_
  obtain ⟨⟨fs25, he⟩, h⟩ := h
  refine kz_callV (pc := 14) (μ' := mX0_keep) (ci := 0) (q := (RX0, TX0, 3)) (b := v5) (d' := d + 7) (mc' := 0) (ms' := 0) (As := [.ref v7]) (st := []) (c := 0 + mc3) (sl := 0 + ms3) kmX0_keep kw_464 (by omega) rfl (Nat.le_of_ble_eq_true rfl) he rfl rfl hc3 hs3 dX11_set_14 (fun E M9 hx => kz_Tout rfl hc3 hs3 hx) (kz_Cmono (fun v M8 h => ?_) (fun _ _ h => h) h)
  obtain ⟨rfl, h⟩ := h
  show kz_Z G (d + 8) mc ms mX11_set Qr Qx 17 [(0, .ref a0), (1, .int p1), (2, .int p2)] [] M8 (0 + mc3) (0 + ms3)
  refine kz_aload_n (pc := 17) 0 (v := .ref a0) (i := 0) rfl rfl rfl dX11_set_17 ?_
  obtain ⟨fs11, v12, hM, hv, h⟩ := h
  refine kz_getf (pc := 18) (k := 2) kcX11 hM hv (by decide) kw_277 dX11_set_18 ?_
  refine kz_iload_n (pc := 21) 1 (i := 1) rfl rfl dX11_set_21 ?_
  obtain ⟨⟨fs24, he⟩, h⟩ := h
  refine kz_callV (pc := 22) (μ' := mX9_rule) (ci := 8) (q := (RX9, TX9, 10)) (b := v12) (d' := d + 7) (mc' := 0) (ms' := 0) (As := [.int p1]) (st := []) (c := 0 + mc3) (sl := 0 + ms3) kmX9_rule kw_629 (by omega) rfl (Nat.le_of_ble_eq_true rfl) he rfl rfl hc3 hs3 dX11_set_22 (fun E M9 hx => kz_Tout rfl hc3 hs3 hx) (kz_Cmono (fun v M13 h => ?_) (fun _ _ h => h) h)
  obtain ⟨r14, rfl, h⟩ := h
  show kz_Z G (d + 8) mc ms mX11_set Qr Qx 25 [(0, .ref a0), (1, .int p1), (2, .int p2)] [.int r14] M13 (0 + mc3) (0 + ms3)
  refine kz_istore_n (pc := 25) (i := 3) (ls' := [(0, .ref a0), (1, .int p1), (2, .int p2)]) rfl (by decide) rfl dX11_set_25 ?_
  refine kz_aload_n (pc := 26) 1 (v := .ref a0) (i := 0) rfl rfl rfl dX11_set_26 ?_
  obtain ⟨fs16, v17, hM, hv, h⟩ := h
  refine kz_getf (pc := 27) (k := 2) kcX11 hM hv (by decide) kw_277 dX11_set_27 ?_
  obtain ⟨fs18, v19, hM, hv, h⟩ := h
  refine kz_getf (pc := 30) (k := 4) kcX9 hM hv (by decide) kw_112 dX11_set_30 ?_
  refine kz_iload_n (pc := 33) 2 (i := 1) rfl rfl dX11_set_33 ?_
  refine kz_iload_n (pc := 34) 3 (i := 2) rfl rfl dX11_set_34 ?_
  refine kz_callS (pc := 35) (μ' := mX11_put) (d' := d + 7) (mc' := 0) (ms' := 0) (As := [.ref v19, .int p1, .int p2]) (st := []) (c := 0 + mc3) (sl := 0 + ms3) kmX11_put kw_1139 (by omega) rfl (Nat.le_of_ble_eq_true rfl) hc3 hs3 dX11_set_35 (fun E M9 hx => kz_Tout rfl hc3 hs3 hx) (kz_Cmono (fun v M20 h => ?_) (fun _ _ h => h) h)
  obtain ⟨rfl, h⟩ := h
  show kz_Z G (d + 8) mc ms mX11_set Qr Qx 38 [(3, .int r14), (0, .ref a0), (1, .int p1), (2, .int p2)] [] M20 (0 + mc3) (0 + ms3)
  refine kz_iload_n (pc := 38) 0 (i := 3) rfl rfl dX11_set_38 ?_
  exact kz_iret (pc := 39) rfl hc3 hs3 dX11_set_39 h
theorem dX11_printLine_0 : decode cX11_printLine 0 = .ok (.aload_n 0, 1) := by decide +kernel
theorem dX11_printLine_1 : decode cX11_printLine 1 = .ok (.iload_n 1, 1) := by decide +kernel
theorem dX11_printLine_2 : decode cX11_printLine 2 = .ok (.iload_n 2, 1) := by decide +kernel
theorem dX11_printLine_3 : decode cX11_printLine 3 = .ok (.invokevirtual 197, 3) := by decide +kernel
theorem dX11_printLine_6 : decode cX11_printLine 6 = .ok (.astore_n 3, 1) := by decide +kernel
theorem dX11_printLine_7 : decode cX11_printLine 7 = .ok (.aload_n 0, 1) := by decide +kernel
theorem dX11_printLine_8 : decode cX11_printLine 8 = .ok (.getfield 19, 3) := by decide +kernel
theorem dX11_printLine_11 : decode cX11_printLine 11 = .ok (.iconst 0, 1) := by decide +kernel
theorem dX11_printLine_12 : decode cX11_printLine 12 = .ok (.putfield 414, 3) := by decide +kernel
theorem dX11_printLine_15 : decode cX11_printLine 15 = .ok (.aload_n 3, 1) := by decide +kernel
theorem dX11_printLine_16 : decode cX11_printLine 16 = .ok (.getfield 201, 3) := by decide +kernel
theorem dX11_printLine_19 : decode cX11_printLine 19 = .ok (.istore 4, 2) := by decide +kernel
theorem dX11_printLine_21 : decode cX11_printLine 21 = .ok (.iload 4, 2) := by decide +kernel
theorem dX11_printLine_23 : decode cX11_printLine 23 = .ok (.aload_n 3, 1) := by decide +kernel
theorem dX11_printLine_24 : decode cX11_printLine 24 = .ok (.getfield 204, 3) := by decide +kernel
theorem dX11_printLine_27 : decode cX11_printLine 27 = .ok (.if_icmp .ge 32, 3) := by decide +kernel
theorem dX11_printLine_30 : decode cX11_printLine 30 = .ok (.aload_n 0, 1) := by decide +kernel
theorem dX11_printLine_31 : decode cX11_printLine 31 = .ok (.getfield 19, 3) := by decide +kernel
theorem dX11_printLine_34 : decode cX11_printLine 34 = .ok (.invokevirtual 415, 3) := by decide +kernel
theorem dX11_printLine_37 : decode cX11_printLine 37 = .ok (.aload_n 0, 1) := by decide +kernel
theorem dX11_printLine_38 : decode cX11_printLine 38 = .ok (.getfield 19, 3) := by decide +kernel
theorem dX11_printLine_41 : decode cX11_printLine 41 = .ok (.aload_n 3, 1) := by decide +kernel
theorem dX11_printLine_42 : decode cX11_printLine 42 = .ok (.getfield 418, 3) := by decide +kernel
theorem dX11_printLine_45 : decode cX11_printLine 45 = .ok (.iload 4, 2) := by decide +kernel
theorem dX11_printLine_47 : decode cX11_printLine 47 = .ok (.invokevirtual 237, 3) := by decide +kernel
theorem dX11_printLine_50 : decode cX11_printLine 50 = .ok (.invokevirtual 419, 3) := by decide +kernel
theorem dX11_printLine_53 : decode cX11_printLine 53 = .ok (.iinc 4 1, 3) := by decide +kernel
theorem dX11_printLine_56 : decode cX11_printLine 56 = .ok (.goto (-35), 3) := by decide +kernel
theorem dX11_printLine_59 : decode cX11_printLine 59 = .ok (.aload_n 0, 1) := by decide +kernel
theorem dX11_printLine_60 : decode cX11_printLine 60 = .ok (.getfield 19, 3) := by decide +kernel
theorem dX11_printLine_63 : decode cX11_printLine 63 = .ok (.getfield 414, 3) := by decide +kernel
theorem dX11_printLine_66 : decode cX11_printLine 66 = .ok (.ireturn, 1) := by decide +kernel
def zX11_printLine_21 (G : kz_G) (d mc ms : Nat) (Qr : Option Value → kz_M → Prop) (Qx : String → kz_M → Prop) (x0 : Nat) (x3 : Nat) (x4 : Int32)  (M : kz_M) (c sl : Nat) : Prop := kz_Z G (d + 9) mc ms mX11_printLine Qr Qx 21 [(0, .ref x0), (3, .ref x3), (4, .int x4)] [] M c sl
theorem rX11_printLine_0 {G : kz_G} {d : Nat} {mc ms : Nat} {Qr : Option Value → kz_M → Prop} {Qx : String → kz_M → Prop} {a0 : Nat} {p1 : Int32} {p2 : Int32}  {M : kz_M} (h : (∃ fs9, (M).1 a0 = some (.inl (10, fs9))) ∧ ∃ mc3 ms3, 0 + mc3 ≤ mc ∧ 0 + ms3 ≤ ms ∧ kz_C G (d + 8) mc3 ms3 mX11_lineOrThrow [.ref a0, .int p1, .int p2] M (fun v M1 => ∃ r2 : Nat, v = some (.ref r2) ∧ (∃ fs4 v5, (M1).1 a0 = some (.inl (10, fs4)) ∧ fs4[1]? = some (.ref v5) ∧ (∃ fs6, (M1).1 v5 = some (.inl (4, fs6)) ∧ 1 < fs6.length ∧ (∃ fs7 v8, ((kz_up M1 v5 (.inl (4, fs6.set 1 (.int 0))))).1 r2 = some (.inl (3, fs7)) ∧ fs7[1]? = some (.int v8) ∧ (zX11_printLine_21 G d mc ms Qr Qx a0 r2 v8 (kz_up M1 v5 (.inl (4, fs6.set 1 (.int 0)))) (0 + mc3) (0 + ms3)))))) Qx) : kz_C G (d + 9) mc ms mX11_printLine [.ref a0, .int p1, .int p2] M Qr Qx := by
  refine kz_enter (n := 2) kmX11_printLine.1 (Nat.le_of_ble_eq_true rfl) (ls := [(0, .ref a0), (1, .int p1), (2, .int p2)]) rfl ?_
  refine kz_aload_n (pc := 0) 0 (v := .ref a0) (i := 0) rfl rfl rfl dX11_printLine_0 ?_
  refine kz_iload_n (pc := 1) 1 (i := 1) rfl rfl dX11_printLine_1 ?_
  refine kz_iload_n (pc := 2) 2 (i := 2) rfl rfl dX11_printLine_2 ?_
  obtain ⟨⟨fs9, he⟩, h⟩ := h
  obtain ⟨mc3, ms3, hc3, hs3, h⟩ := h
  refine kz_callV (pc := 3) (μ' := mX11_lineOrThrow) (ci := 10) (q := (RX11, TX11, 10)) (b := a0) (d' := d + 8) (mc' := mc3) (ms' := ms3) (As := [.int p1, .int p2]) (st := []) (c := 0) (sl := 0) kmX11_lineOrThrow kw_770 (by omega) rfl (Nat.le_of_ble_eq_true rfl) he rfl rfl hc3 hs3 dX11_printLine_3 (fun E M9 hx => kz_Tout rfl hc3 hs3 hx) (kz_Cmono (fun v M1 h => ?_) (fun _ _ h => h) h)
  obtain ⟨r2, rfl, h⟩ := h
  show kz_Z G (d + 9) mc ms mX11_printLine Qr Qx 6 [(0, .ref a0), (1, .int p1), (2, .int p2)] [.ref r2] M1 (0 + mc3) (0 + ms3)
  refine kz_astore_n (pc := 6) (i := 3) (v := .ref r2) (ls' := [(0, .ref a0), (1, .int p1), (2, .int p2)]) rfl rfl (by decide) rfl dX11_printLine_6 ?_
  refine kz_aload_n (pc := 7) 1 (v := .ref a0) (i := 0) rfl rfl rfl dX11_printLine_7 ?_
  obtain ⟨fs4, v5, hM, hv, h⟩ := h
  refine kz_getf (pc := 8) (k := 1) kcX11 hM hv (by decide) kw_276 dX11_printLine_8 ?_
  refine kz_iconst (pc := 11) (v := 0) (by decide) dX11_printLine_11 ?_
  obtain ⟨fs6, hM, hlen, h⟩ := h
  refine kz_putf (pc := 12) (k := 1) kcX4 hM (by decide) hlen kw_60 rfl rfl rfl dX11_printLine_12 ?_
  refine kz_aload_n (pc := 15) 0 (v := .ref r2) (i := 3) rfl rfl rfl dX11_printLine_15 ?_
  obtain ⟨fs7, v8, hM, hv, h⟩ := h
  refine kz_getf (pc := 16) (k := 1) kcX3 hM hv (by decide) kw_1038 dX11_printLine_16 ?_
  refine kz_istore (pc := 19) (i := 4) (ls' := [(3, .ref r2), (0, .ref a0), (1, .int p1), (2, .int p2)]) (by decide) rfl dX11_printLine_19 ?_
  refine kz_sub [2, 1, 0] rfl ?_
  exact h
theorem rX11_printLine_21 {G : kz_G} {d : Nat} {mc ms : Nat} {Qr : Option Value → kz_M → Prop} {Qx : String → kz_M → Prop} {x0 : Nat} {x3 : Nat} {x4 : Int32}  {M : kz_M} {c sl : Nat} (hc : c ≤ mc) (hs : sl ≤ ms) (h : ∃ fs1 v2, (M).1 x3 = some (.inl (3, fs1)) ∧ fs1[2]? = some (.int v2) ∧ ((v2 ≤ x4 → ∃ fs3 v4, (M).1 x0 = some (.inl (10, fs3)) ∧ fs3[1]? = some (.ref v4) ∧ (∃ fs5 v6, (M).1 v4 = some (.inl (4, fs5)) ∧ fs5[1]? = some (.int v6) ∧ (Qr (some (.int v6)) M))) ∧ (¬ v2 ≤ x4 → ∃ fs7 v8, (M).1 x0 = some (.inl (10, fs7)) ∧ fs7[1]? = some (.ref v8) ∧ ((∃ fs24, (M).1 v8 = some (.inl (4, fs24))) ∧ kz_C G (d + 8) 0 0 mX4_separate [.ref v8] M (fun v M9 => v = none ∧ (∃ fs12 v13, (M9).1 x0 = some (.inl (10, fs12)) ∧ fs12[1]? = some (.ref v13) ∧ (∃ fs14 v15, (M9).1 x3 = some (.inl (3, fs14)) ∧ fs14[0]? = some (.ref v15) ∧ ((∃ fs23, (M9).1 v15 = some (.inl (6, fs23))) ∧ kz_C G (d + 8) 0 0 mX6_wordAt [.ref v15, .int x4] M9 (fun v M16 => ∃ r17 : Int64, v = some (.long r17) ∧ ((∃ fs22, (M16).1 v13 = some (.inl (4, fs22))) ∧ kz_C G (d + 8) 0 0 mX4_writeWord [.ref v13, .long r17] M16 (fun v M19 => v = none ∧ (zX11_printLine_21 G d mc ms Qr Qx x0 x3 (x4 + 1) M19 c sl)) Qx)) Qx)))) Qx)))) : zX11_printLine_21 G d mc ms Qr Qx x0 x3 x4  M c sl := by
  show kz_Z G (d + 9) mc ms mX11_printLine Qr Qx 21 [(0, .ref x0), (3, .ref x3), (4, .int x4)] [] M c sl
  refine kz_iload (pc := 21) 2 (i := 4) rfl dX11_printLine_21 ?_
  refine kz_aload_n (pc := 23) 1 (v := .ref x3) (i := 3) rfl rfl rfl dX11_printLine_23 ?_
  obtain ⟨fs1, v2, hM, hv, h⟩ := h
  refine kz_getf (pc := 24) (k := 2) kcX3 hM hv (by decide) kw_1041 dX11_printLine_24 ?_
  refine kz_icmp_ge (pc := 27) (tgt := 59) (by decide) dX11_printLine_27 (fun hb => ?_) (fun hb => ?_)
  · replace h := h.1 hb
    refine kz_aload_n (pc := 59) 0 (v := .ref x0) (i := 0) rfl rfl rfl dX11_printLine_59 ?_
    obtain ⟨fs3, v4, hM, hv, h⟩ := h
    refine kz_getf (pc := 60) (k := 1) kcX11 hM hv (by decide) kw_276 dX11_printLine_60 ?_
    obtain ⟨fs5, v6, hM, hv, h⟩ := h
    refine kz_getf (pc := 63) (k := 1) kcX4 hM hv (by decide) kw_60 dX11_printLine_63 ?_
    exact kz_iret (pc := 66) rfl hc hs dX11_printLine_66 h
  · replace h := h.2 hb
    refine kz_aload_n (pc := 30) 0 (v := .ref x0) (i := 0) rfl rfl rfl dX11_printLine_30 ?_
    obtain ⟨fs7, v8, hM, hv, h⟩ := h
    refine kz_getf (pc := 31) (k := 1) kcX11 hM hv (by decide) kw_276 dX11_printLine_31 ?_
    obtain ⟨⟨fs24, he⟩, h⟩ := h
    refine kz_callV (pc := 34) (μ' := mX4_separate) (ci := 4) (q := (RX4, TX4, 2)) (b := v8) (d' := d + 8) (mc' := 0) (ms' := 0) (As := []) (st := []) (c := c) (sl := sl) kmX4_separate kw_477 (by omega) rfl (Nat.le_of_ble_eq_true rfl) he rfl rfl hc hs dX11_printLine_34 (fun E M9 hx => kz_Tout rfl hc hs hx) (kz_Cmono (fun v M9 h => ?_) (fun _ _ h => h) h)
    obtain ⟨rfl, h⟩ := h
    show kz_Z G (d + 9) mc ms mX11_printLine Qr Qx 37 [(0, .ref x0), (3, .ref x3), (4, .int x4)] [] M9 c sl
    refine kz_aload_n (pc := 37) 0 (v := .ref x0) (i := 0) rfl rfl rfl dX11_printLine_37 ?_
    obtain ⟨fs12, v13, hM, hv, h⟩ := h
    refine kz_getf (pc := 38) (k := 1) kcX11 hM hv (by decide) kw_276 dX11_printLine_38 ?_
    refine kz_aload_n (pc := 41) 1 (v := .ref x3) (i := 3) rfl rfl rfl dX11_printLine_41 ?_
    obtain ⟨fs14, v15, hM, hv, h⟩ := h
    refine kz_getf (pc := 42) (k := 0) kcX3 hM hv (by decide) kw_1035 dX11_printLine_42 ?_
    refine kz_iload (pc := 45) 2 (i := 4) rfl dX11_printLine_45 ?_
    obtain ⟨⟨fs23, he⟩, h⟩ := h
    refine kz_callV (pc := 47) (μ' := mX6_wordAt) (ci := 6) (q := (RX6, TX6, 3)) (b := v15) (d' := d + 8) (mc' := 0) (ms' := 0) (As := [.int x4]) (st := [.ref v13]) (c := c) (sl := sl) kmX6_wordAt kw_707 (by omega) rfl (Nat.le_of_ble_eq_true rfl) he rfl rfl hc hs dX11_printLine_47 (fun E M9 hx => kz_Tout rfl hc hs hx) (kz_Cmono (fun v M16 h => ?_) (fun _ _ h => h) h)
    obtain ⟨r17, rfl, h⟩ := h
    show kz_Z G (d + 9) mc ms mX11_printLine Qr Qx 50 [(0, .ref x0), (3, .ref x3), (4, .int x4)] [.long r17, .ref v13] M16 c sl
    obtain ⟨⟨fs22, he⟩, h⟩ := h
    refine kz_callV (pc := 50) (μ' := mX4_writeWord) (ci := 4) (q := (RX4, TX4, 2)) (b := v13) (d' := d + 8) (mc' := 0) (ms' := 0) (As := [.long r17]) (st := []) (c := c) (sl := sl) kmX4_writeWord kw_486 (by omega) rfl (Nat.le_of_ble_eq_true rfl) he rfl rfl hc hs dX11_printLine_50 (fun E M9 hx => kz_Tout rfl hc hs hx) (kz_Cmono (fun v M19 h => ?_) (fun _ _ h => h) h)
    obtain ⟨rfl, h⟩ := h
    show kz_Z G (d + 9) mc ms mX11_printLine Qr Qx 53 [(0, .ref x0), (3, .ref x3), (4, .int x4)] [] M19 c sl
    refine kz_iinc (pc := 53) 2 (i := 4) (v := x4 + 1) (ls' := [(0, .ref x0), (3, .ref x3)]) rfl (congrArg (fun z => x4 + z) (by decide)) (by decide) rfl dX11_printLine_53 ?_
    refine kz_goto (pc := 56) (tgt := 21) (by decide) dX11_printLine_56 ?_
    refine kz_sub [1, 2, 0] rfl ?_
    exact h
theorem dX11_printWork_0 : decode cX11_printWork 0 = .ok (.aload_n 0, 1) := by decide +kernel
theorem dX11_printWork_1 : decode cX11_printWork 1 = .ok (.iload_n 1, 1) := by decide +kernel
theorem dX11_printWork_2 : decode cX11_printWork 2 = .ok (.invokevirtual 165, 3) := by decide +kernel
theorem dX11_printWork_5 : decode cX11_printWork 5 = .ok (.astore_n 2, 1) := by decide +kernel
theorem dX11_printWork_6 : decode cX11_printWork 6 = .ok (.aload_n 0, 1) := by decide +kernel
theorem dX11_printWork_7 : decode cX11_printWork 7 = .ok (.getfield 19, 3) := by decide +kernel
theorem dX11_printWork_10 : decode cX11_printWork 10 = .ok (.iconst 0, 1) := by decide +kernel
theorem dX11_printWork_11 : decode cX11_printWork 11 = .ok (.putfield 414, 3) := by decide +kernel
theorem dX11_printWork_14 : decode cX11_printWork 14 = .ok (.iconst 0, 1) := by decide +kernel
theorem dX11_printWork_15 : decode cX11_printWork 15 = .ok (.istore_n 3, 1) := by decide +kernel
theorem dX11_printWork_16 : decode cX11_printWork 16 = .ok (.iload_n 3, 1) := by decide +kernel
theorem dX11_printWork_17 : decode cX11_printWork 17 = .ok (.aload_n 2, 1) := by decide +kernel
theorem dX11_printWork_18 : decode cX11_printWork 18 = .ok (.invokevirtual 186, 3) := by decide +kernel
theorem dX11_printWork_21 : decode cX11_printWork 21 = .ok (.if_icmp .ge 43, 3) := by decide +kernel
theorem dX11_printWork_24 : decode cX11_printWork 24 = .ok (.aload_n 0, 1) := by decide +kernel
theorem dX11_printWork_25 : decode cX11_printWork 25 = .ok (.getfield 19, 3) := by decide +kernel
theorem dX11_printWork_28 : decode cX11_printWork 28 = .ok (.invokevirtual 415, 3) := by decide +kernel
theorem dX11_printWork_31 : decode cX11_printWork 31 = .ok (.aload_n 0, 1) := by decide +kernel
theorem dX11_printWork_32 : decode cX11_printWork 32 = .ok (.getfield 19, 3) := by decide +kernel
theorem dX11_printWork_35 : decode cX11_printWork 35 = .ok (.aload_n 2, 1) := by decide +kernel
theorem dX11_printWork_36 : decode cX11_printWork 36 = .ok (.iload_n 3, 1) := by decide +kernel
theorem dX11_printWork_37 : decode cX11_printWork 37 = .ok (.invokevirtual 268, 3) := by decide +kernel
theorem dX11_printWork_40 : decode cX11_printWork 40 = .ok (.invokevirtual 422, 3) := by decide +kernel
theorem dX11_printWork_43 : decode cX11_printWork 43 = .ok (.aload_n 0, 1) := by decide +kernel
theorem dX11_printWork_44 : decode cX11_printWork 44 = .ok (.getfield 19, 3) := by decide +kernel
theorem dX11_printWork_47 : decode cX11_printWork 47 = .ok (.aload_n 2, 1) := by decide +kernel
theorem dX11_printWork_48 : decode cX11_printWork 48 = .ok (.iload_n 3, 1) := by decide +kernel
theorem dX11_printWork_49 : decode cX11_printWork 49 = .ok (.invokevirtual 425, 3) := by decide +kernel
theorem dX11_printWork_52 : decode cX11_printWork 52 = .ok (.invokestatic 428, 3) := by decide +kernel
theorem dX11_printWork_55 : decode cX11_printWork 55 = .ok (.invokevirtual 432, 3) := by decide +kernel
theorem dX11_printWork_58 : decode cX11_printWork 58 = .ok (.iinc 3 1, 3) := by decide +kernel
theorem dX11_printWork_61 : decode cX11_printWork 61 = .ok (.goto (-45), 3) := by decide +kernel
theorem dX11_printWork_64 : decode cX11_printWork 64 = .ok (.aload_n 0, 1) := by decide +kernel
theorem dX11_printWork_65 : decode cX11_printWork 65 = .ok (.getfield 19, 3) := by decide +kernel
theorem dX11_printWork_68 : decode cX11_printWork 68 = .ok (.getfield 414, 3) := by decide +kernel
theorem dX11_printWork_71 : decode cX11_printWork 71 = .ok (.ireturn, 1) := by decide +kernel
def zX11_printWork_16 (G : kz_G) (d mc ms : Nat) (Qr : Option Value → kz_M → Prop) (Qx : String → kz_M → Prop) (x0 : Nat) (x2 : Nat) (x3 : Int32)  (M : kz_M) (c sl : Nat) : Prop := kz_Z G (d + 8) mc ms mX11_printWork Qr Qx 16 [(0, .ref x0), (2, .ref x2), (3, .int x3)] [] M c sl
theorem rX11_printWork_0 {G : kz_G} {d : Nat} {mc ms : Nat} {Qr : Option Value → kz_M → Prop} {Qx : String → kz_M → Prop} {a0 : Nat} {p1 : Int32}  {M : kz_M} (h : (∃ fs7, (M).1 a0 = some (.inl (10, fs7))) ∧ ∃ mc3 ms3, 0 + mc3 ≤ mc ∧ 0 + ms3 ≤ ms ∧ kz_C G (d + 7) mc3 ms3 mX11_workOrThrow [.ref a0, .int p1] M (fun v M1 => ∃ r2 : Nat, v = some (.ref r2) ∧ (∃ fs4 v5, (M1).1 a0 = some (.inl (10, fs4)) ∧ fs4[1]? = some (.ref v5) ∧ (∃ fs6, (M1).1 v5 = some (.inl (4, fs6)) ∧ 1 < fs6.length ∧ (zX11_printWork_16 G d mc ms Qr Qx a0 r2 0 (kz_up M1 v5 (.inl (4, fs6.set 1 (.int 0)))) (0 + mc3) (0 + ms3))))) Qx) : kz_C G (d + 8) mc ms mX11_printWork [.ref a0, .int p1] M Qr Qx := by
  refine kz_enter (n := 1) kmX11_printWork.1 (Nat.le_of_ble_eq_true rfl) (ls := [(0, .ref a0), (1, .int p1)]) rfl ?_
  refine kz_aload_n (pc := 0) 0 (v := .ref a0) (i := 0) rfl rfl rfl dX11_printWork_0 ?_
  refine kz_iload_n (pc := 1) 1 (i := 1) rfl rfl dX11_printWork_1 ?_
  obtain ⟨⟨fs7, he⟩, h⟩ := h
  obtain ⟨mc3, ms3, hc3, hs3, h⟩ := h
  refine kz_callV (pc := 2) (μ' := mX11_workOrThrow) (ci := 10) (q := (RX11, TX11, 10)) (b := a0) (d' := d + 7) (mc' := mc3) (ms' := ms3) (As := [.int p1]) (st := []) (c := 0) (sl := 0) kmX11_workOrThrow kw_744 (by omega) rfl (Nat.le_of_ble_eq_true rfl) he rfl rfl hc3 hs3 dX11_printWork_2 (fun E M9 hx => kz_Tout rfl hc3 hs3 hx) (kz_Cmono (fun v M1 h => ?_) (fun _ _ h => h) h)
  obtain ⟨r2, rfl, h⟩ := h
  show kz_Z G (d + 8) mc ms mX11_printWork Qr Qx 5 [(0, .ref a0), (1, .int p1)] [.ref r2] M1 (0 + mc3) (0 + ms3)
  refine kz_astore_n (pc := 5) (i := 2) (v := .ref r2) (ls' := [(0, .ref a0), (1, .int p1)]) rfl rfl (by decide) rfl dX11_printWork_5 ?_
  refine kz_aload_n (pc := 6) 1 (v := .ref a0) (i := 0) rfl rfl rfl dX11_printWork_6 ?_
  obtain ⟨fs4, v5, hM, hv, h⟩ := h
  refine kz_getf (pc := 7) (k := 1) kcX11 hM hv (by decide) kw_276 dX11_printWork_7 ?_
  refine kz_iconst (pc := 10) (v := 0) (by decide) dX11_printWork_10 ?_
  obtain ⟨fs6, hM, hlen, h⟩ := h
  refine kz_putf (pc := 11) (k := 1) kcX4 hM (by decide) hlen kw_60 rfl rfl rfl dX11_printWork_11 ?_
  refine kz_iconst (pc := 14) (v := 0) (by decide) dX11_printWork_14 ?_
  refine kz_istore_n (pc := 15) (i := 3) (ls' := [(2, .ref r2), (0, .ref a0), (1, .int p1)]) rfl (by decide) rfl dX11_printWork_15 ?_
  refine kz_sub [2, 1, 0] rfl ?_
  exact h
theorem rX11_printWork_16 {G : kz_G} {d : Nat} {mc ms : Nat} {Qr : Option Value → kz_M → Prop} {Qx : String → kz_M → Prop} {x0 : Nat} {x2 : Nat} {x3 : Int32}  {M : kz_M} {c sl : Nat} (hc : c ≤ mc) (hs : sl ≤ ms) (h : (∃ fs38, (M).1 x2 = some (.inl (9, fs38))) ∧ kz_C G (d + 7) 0 0 mX10_size [.ref x2] M (fun v M1 => ∃ r2 : Int32, v = some (.int r2) ∧ ((r2 ≤ x3 → ∃ fs4 v5, (M1).1 x0 = some (.inl (10, fs4)) ∧ fs4[1]? = some (.ref v5) ∧ (∃ fs6 v7, (M1).1 v5 = some (.inl (4, fs6)) ∧ fs6[1]? = some (.int v7) ∧ (Qr (some (.int v7)) M1))) ∧ (¬ r2 ≤ x3 → ∃ fs8 v9, (M1).1 x0 = some (.inl (10, fs8)) ∧ fs8[1]? = some (.ref v9) ∧ ((∃ fs37, (M1).1 v9 = some (.inl (4, fs37))) ∧ kz_C G (d + 7) 0 0 mX4_separate [.ref v9] M1 (fun v M10 => v = none ∧ (∃ fs13 v14, (M10).1 x0 = some (.inl (10, fs13)) ∧ fs13[1]? = some (.ref v14) ∧ ((∃ fs36, (M10).1 x2 = some (.inl (9, fs36))) ∧ kz_C G (d + 7) 0 0 mX10_widthOf [.ref x2, .int x3] M10 (fun v M15 => ∃ r16 : Int32, v = some (.int r16) ∧ ((∃ fs35, (M15).1 v14 = some (.inl (4, fs35))) ∧ kz_C G (d + 7) 0 0 mX4_writeNumber [.ref v14, .int r16] M15 (fun v M18 => v = none ∧ (∃ fs21 v22, (M18).1 x0 = some (.inl (10, fs21)) ∧ fs21[1]? = some (.ref v22) ∧ ((∃ fs34, (M18).1 x2 = some (.inl (9, fs34))) ∧ kz_C G (d + 7) 0 0 mX10_stateOf [.ref x2, .int x3] M18 (fun v M23 => ∃ r24 : Int32, v = some (.int r24) ∧ (kz_C G (d + 7) 0 0 mX11_letterFor [.int r24] M23 (fun v M26 => ∃ r27 : Int32, v = some (.int r27) ∧ ((∃ fs32, (M26).1 v22 = some (.inl (4, fs32))) ∧ kz_C G (d + 7) 0 0 mX4_write [.ref v22, .int r27] M26 (fun v M29 => v = none ∧ (zX11_printWork_16 G d mc ms Qr Qx x0 x2 (x3 + 1) M29 c sl)) Qx)) Qx)) Qx))) Qx)) Qx))) Qx)))) Qx) : zX11_printWork_16 G d mc ms Qr Qx x0 x2 x3  M c sl := by
  show kz_Z G (d + 8) mc ms mX11_printWork Qr Qx 16 [(0, .ref x0), (2, .ref x2), (3, .int x3)] [] M c sl
  refine kz_iload_n (pc := 16) 2 (i := 3) rfl rfl dX11_printWork_16 ?_
  refine kz_aload_n (pc := 17) 1 (v := .ref x2) (i := 2) rfl rfl rfl dX11_printWork_17 ?_
  obtain ⟨⟨fs38, he⟩, h⟩ := h
  refine kz_callV (pc := 18) (μ' := mX10_size) (ci := 9) (q := (RX10, TX10, 4)) (b := x2) (d' := d + 7) (mc' := 0) (ms' := 0) (As := []) (st := [.int x3]) (c := c) (sl := sl) kmX10_size kw_750 (by omega) rfl (Nat.le_of_ble_eq_true rfl) he rfl rfl hc hs dX11_printWork_18 (fun E M9 hx => kz_Tout rfl hc hs hx) (kz_Cmono (fun v M1 h => ?_) (fun _ _ h => h) h)
  obtain ⟨r2, rfl, h⟩ := h
  show kz_Z G (d + 8) mc ms mX11_printWork Qr Qx 21 [(0, .ref x0), (2, .ref x2), (3, .int x3)] [.int r2, .int x3] M1 c sl
  refine kz_icmp_ge (pc := 21) (tgt := 64) (by decide) dX11_printWork_21 (fun hb => ?_) (fun hb => ?_)
  · replace h := h.1 hb
    refine kz_aload_n (pc := 64) 0 (v := .ref x0) (i := 0) rfl rfl rfl dX11_printWork_64 ?_
    obtain ⟨fs4, v5, hM, hv, h⟩ := h
    refine kz_getf (pc := 65) (k := 1) kcX11 hM hv (by decide) kw_276 dX11_printWork_65 ?_
    obtain ⟨fs6, v7, hM, hv, h⟩ := h
    refine kz_getf (pc := 68) (k := 1) kcX4 hM hv (by decide) kw_60 dX11_printWork_68 ?_
    exact kz_iret (pc := 71) rfl hc hs dX11_printWork_71 h
  · replace h := h.2 hb
    refine kz_aload_n (pc := 24) 0 (v := .ref x0) (i := 0) rfl rfl rfl dX11_printWork_24 ?_
    obtain ⟨fs8, v9, hM, hv, h⟩ := h
    refine kz_getf (pc := 25) (k := 1) kcX11 hM hv (by decide) kw_276 dX11_printWork_25 ?_
    obtain ⟨⟨fs37, he⟩, h⟩ := h
    refine kz_callV (pc := 28) (μ' := mX4_separate) (ci := 4) (q := (RX4, TX4, 2)) (b := v9) (d' := d + 7) (mc' := 0) (ms' := 0) (As := []) (st := []) (c := c) (sl := sl) kmX4_separate kw_477 (by omega) rfl (Nat.le_of_ble_eq_true rfl) he rfl rfl hc hs dX11_printWork_28 (fun E M9 hx => kz_Tout rfl hc hs hx) (kz_Cmono (fun v M10 h => ?_) (fun _ _ h => h) h)
    obtain ⟨rfl, h⟩ := h
    show kz_Z G (d + 8) mc ms mX11_printWork Qr Qx 31 [(0, .ref x0), (2, .ref x2), (3, .int x3)] [] M10 c sl
    refine kz_aload_n (pc := 31) 0 (v := .ref x0) (i := 0) rfl rfl rfl dX11_printWork_31 ?_
    obtain ⟨fs13, v14, hM, hv, h⟩ := h
    refine kz_getf (pc := 32) (k := 1) kcX11 hM hv (by decide) kw_276 dX11_printWork_32 ?_
    refine kz_aload_n (pc := 35) 1 (v := .ref x2) (i := 2) rfl rfl rfl dX11_printWork_35 ?_
    refine kz_iload_n (pc := 36) 2 (i := 3) rfl rfl dX11_printWork_36 ?_
    obtain ⟨⟨fs36, he⟩, h⟩ := h
    refine kz_callV (pc := 37) (μ' := mX10_widthOf) (ci := 9) (q := (RX10, TX10, 4)) (b := x2) (d' := d + 7) (mc' := 0) (ms' := 0) (As := [.int x3]) (st := [.ref v14]) (c := c) (sl := sl) kmX10_widthOf kw_842 (by omega) rfl (Nat.le_of_ble_eq_true rfl) he rfl rfl hc hs dX11_printWork_37 (fun E M9 hx => kz_Tout rfl hc hs hx) (kz_Cmono (fun v M15 h => ?_) (fun _ _ h => h) h)
    obtain ⟨r16, rfl, h⟩ := h
    show kz_Z G (d + 8) mc ms mX11_printWork Qr Qx 40 [(0, .ref x0), (2, .ref x2), (3, .int x3)] [.int r16, .ref v14] M15 c sl
    obtain ⟨⟨fs35, he⟩, h⟩ := h
    refine kz_callV (pc := 40) (μ' := mX4_writeNumber) (ci := 4) (q := (RX4, TX4, 2)) (b := v14) (d' := d + 7) (mc' := 0) (ms' := 0) (As := [.int r16]) (st := []) (c := c) (sl := sl) kmX4_writeNumber kw_492 (by omega) rfl (Nat.le_of_ble_eq_true rfl) he rfl rfl hc hs dX11_printWork_40 (fun E M9 hx => kz_Tout rfl hc hs hx) (kz_Cmono (fun v M18 h => ?_) (fun _ _ h => h) h)
    obtain ⟨rfl, h⟩ := h
    show kz_Z G (d + 8) mc ms mX11_printWork Qr Qx 43 [(0, .ref x0), (2, .ref x2), (3, .int x3)] [] M18 c sl
    refine kz_aload_n (pc := 43) 0 (v := .ref x0) (i := 0) rfl rfl rfl dX11_printWork_43 ?_
    obtain ⟨fs21, v22, hM, hv, h⟩ := h
    refine kz_getf (pc := 44) (k := 1) kcX11 hM hv (by decide) kw_276 dX11_printWork_44 ?_
    refine kz_aload_n (pc := 47) 1 (v := .ref x2) (i := 2) rfl rfl rfl dX11_printWork_47 ?_
    refine kz_iload_n (pc := 48) 2 (i := 3) rfl rfl dX11_printWork_48 ?_
    obtain ⟨⟨fs34, he⟩, h⟩ := h
    refine kz_callV (pc := 49) (μ' := mX10_stateOf) (ci := 9) (q := (RX10, TX10, 4)) (b := x2) (d' := d + 7) (mc' := 0) (ms' := 0) (As := [.int x3]) (st := [.ref v22]) (c := c) (sl := sl) kmX10_stateOf kw_1349 (by omega) rfl (Nat.le_of_ble_eq_true rfl) he rfl rfl hc hs dX11_printWork_49 (fun E M9 hx => kz_Tout rfl hc hs hx) (kz_Cmono (fun v M23 h => ?_) (fun _ _ h => h) h)
    obtain ⟨r24, rfl, h⟩ := h
    show kz_Z G (d + 8) mc ms mX11_printWork Qr Qx 52 [(0, .ref x0), (2, .ref x2), (3, .int x3)] [.int r24, .ref v22] M23 c sl
    refine kz_callS (pc := 52) (μ' := mX11_letterFor) (d' := d + 7) (mc' := 0) (ms' := 0) (As := [.int r24]) (st := [.ref v22]) (c := c) (sl := sl) kmX11_letterFor kw_1353 (by omega) rfl (Nat.le_of_ble_eq_true rfl) hc hs dX11_printWork_52 (fun E M9 hx => kz_Tout rfl hc hs hx) (kz_Cmono (fun v M26 h => ?_) (fun _ _ h => h) h)
    obtain ⟨r27, rfl, h⟩ := h
    show kz_Z G (d + 8) mc ms mX11_printWork Qr Qx 55 [(0, .ref x0), (2, .ref x2), (3, .int x3)] [.int r27, .ref v22] M26 c sl
    obtain ⟨⟨fs32, he⟩, h⟩ := h
    refine kz_callV (pc := 55) (μ' := mX4_write) (ci := 4) (q := (RX4, TX4, 2)) (b := v22) (d' := d + 7) (mc' := 0) (ms' := 0) (As := [.int r27]) (st := []) (c := c) (sl := sl) kmX4_write kw_491 (by omega) rfl (Nat.le_of_ble_eq_true rfl) he rfl rfl hc hs dX11_printWork_55 (fun E M9 hx => kz_Tout rfl hc hs hx) (kz_Cmono (fun v M29 h => ?_) (fun _ _ h => h) h)
    obtain ⟨rfl, h⟩ := h
    show kz_Z G (d + 8) mc ms mX11_printWork Qr Qx 58 [(0, .ref x0), (2, .ref x2), (3, .int x3)] [] M29 c sl
    refine kz_iinc (pc := 58) 2 (i := 3) (v := x3 + 1) (ls' := [(0, .ref x0), (2, .ref x2)]) rfl (congrArg (fun z => x3 + z) (by decide)) (by decide) rfl dX11_printWork_58 ?_
    refine kz_goto (pc := 61) (tgt := 16) (by decide) dX11_printWork_61 ?_
    refine kz_sub [1, 2, 0] rfl ?_
    exact h
theorem dX11_printBalances_0 : decode cX11_printBalances 0 = .ok (.aload_n 0, 1) := by decide +kernel
theorem dX11_printBalances_1 : decode cX11_printBalances 1 = .ok (.getfield 19, 3) := by decide +kernel
theorem dX11_printBalances_4 : decode cX11_printBalances 4 = .ok (.iconst 0, 1) := by decide +kernel
theorem dX11_printBalances_5 : decode cX11_printBalances 5 = .ok (.putfield 414, 3) := by decide +kernel
theorem dX11_printBalances_8 : decode cX11_printBalances 8 = .ok (.iconst 0, 1) := by decide +kernel
theorem dX11_printBalances_9 : decode cX11_printBalances 9 = .ok (.istore_n 1, 1) := by decide +kernel
theorem dX11_printBalances_10 : decode cX11_printBalances 10 = .ok (.iload_n 1, 1) := by decide +kernel
theorem dX11_printBalances_11 : decode cX11_printBalances 11 = .ok (.aload_n 0, 1) := by decide +kernel
theorem dX11_printBalances_12 : decode cX11_printBalances 12 = .ok (.getfield 26, 3) := by decide +kernel
theorem dX11_printBalances_15 : decode cX11_printBalances 15 = .ok (.getfield 102, 3) := by decide +kernel
theorem dX11_printBalances_18 : decode cX11_printBalances 18 = .ok (.if_icmp .ge 55, 3) := by decide +kernel
theorem dX11_printBalances_21 : decode cX11_printBalances 21 = .ok (.aload_n 0, 1) := by decide +kernel
theorem dX11_printBalances_22 : decode cX11_printBalances 22 = .ok (.getfield 19, 3) := by decide +kernel
theorem dX11_printBalances_25 : decode cX11_printBalances 25 = .ok (.invokevirtual 415, 3) := by decide +kernel
theorem dX11_printBalances_28 : decode cX11_printBalances 28 = .ok (.aload_n 0, 1) := by decide +kernel
theorem dX11_printBalances_29 : decode cX11_printBalances 29 = .ok (.getfield 19, 3) := by decide +kernel
theorem dX11_printBalances_32 : decode cX11_printBalances 32 = .ok (.aload_n 0, 1) := by decide +kernel
theorem dX11_printBalances_33 : decode cX11_printBalances 33 = .ok (.getfield 26, 3) := by decide +kernel
theorem dX11_printBalances_36 : decode cX11_printBalances 36 = .ok (.iload_n 1, 1) := by decide +kernel
theorem dX11_printBalances_37 : decode cX11_printBalances 37 = .ok (.invokevirtual 435, 3) := by decide +kernel
theorem dX11_printBalances_40 : decode cX11_printBalances 40 = .ok (.invokevirtual 419, 3) := by decide +kernel
theorem dX11_printBalances_43 : decode cX11_printBalances 43 = .ok (.aload_n 0, 1) := by decide +kernel
theorem dX11_printBalances_44 : decode cX11_printBalances 44 = .ok (.getfield 19, 3) := by decide +kernel
theorem dX11_printBalances_47 : decode cX11_printBalances 47 = .ok (.bipush 61, 2) := by decide +kernel
theorem dX11_printBalances_49 : decode cX11_printBalances 49 = .ok (.invokevirtual 432, 3) := by decide +kernel
theorem dX11_printBalances_52 : decode cX11_printBalances 52 = .ok (.aload_n 0, 1) := by decide +kernel
theorem dX11_printBalances_53 : decode cX11_printBalances 53 = .ok (.getfield 19, 3) := by decide +kernel
theorem dX11_printBalances_56 : decode cX11_printBalances 56 = .ok (.aload_n 0, 1) := by decide +kernel
theorem dX11_printBalances_57 : decode cX11_printBalances 57 = .ok (.getfield 26, 3) := by decide +kernel
theorem dX11_printBalances_60 : decode cX11_printBalances 60 = .ok (.iload_n 1, 1) := by decide +kernel
theorem dX11_printBalances_61 : decode cX11_printBalances 61 = .ok (.invokevirtual 151, 3) := by decide +kernel
theorem dX11_printBalances_64 : decode cX11_printBalances 64 = .ok (.invokevirtual 422, 3) := by decide +kernel
theorem dX11_printBalances_67 : decode cX11_printBalances 67 = .ok (.iinc 1 1, 3) := by decide +kernel
theorem dX11_printBalances_70 : decode cX11_printBalances 70 = .ok (.goto (-60), 3) := by decide +kernel
theorem dX11_printBalances_73 : decode cX11_printBalances 73 = .ok (.aload_n 0, 1) := by decide +kernel
theorem dX11_printBalances_74 : decode cX11_printBalances 74 = .ok (.getfield 19, 3) := by decide +kernel
theorem dX11_printBalances_77 : decode cX11_printBalances 77 = .ok (.getfield 414, 3) := by decide +kernel
theorem dX11_printBalances_80 : decode cX11_printBalances 80 = .ok (.ireturn, 1) := by decide +kernel
def zX11_printBalances_10 (G : kz_G) (d : Nat) (Qr : Option Value → kz_M → Prop) (Qx : String → kz_M → Prop) (x0 : Nat) (x1 : Int32)  (M : kz_M) : Prop := kz_Z G (d + 2) 0 0 mX11_printBalances Qr Qx 10 [(0, .ref x0), (1, .int x1)] [] M 0 0
theorem rX11_printBalances_0 {G : kz_G} {d : Nat} {Qr : Option Value → kz_M → Prop} {Qx : String → kz_M → Prop} {a0 : Nat}  {M : kz_M} (h : ∃ fs1 v2, (M).1 a0 = some (.inl (10, fs1)) ∧ fs1[1]? = some (.ref v2) ∧ (∃ fs3, (M).1 v2 = some (.inl (4, fs3)) ∧ 1 < fs3.length ∧ (zX11_printBalances_10 G d Qr Qx a0 0 (kz_up M v2 (.inl (4, fs3.set 1 (.int 0))))))) : kz_C G (d + 2) 0 0 mX11_printBalances [.ref a0] M Qr Qx := by
  refine kz_enter (n := 0) kmX11_printBalances.1 (Nat.le_of_ble_eq_true rfl) (ls := [(0, .ref a0)]) rfl ?_
  refine kz_aload_n (pc := 0) 0 (v := .ref a0) (i := 0) rfl rfl rfl dX11_printBalances_0 ?_
  obtain ⟨fs1, v2, hM, hv, h⟩ := h
  refine kz_getf (pc := 1) (k := 1) kcX11 hM hv (by decide) kw_276 dX11_printBalances_1 ?_
  refine kz_iconst (pc := 4) (v := 0) (by decide) dX11_printBalances_4 ?_
  obtain ⟨fs3, hM, hlen, h⟩ := h
  refine kz_putf (pc := 5) (k := 1) kcX4 hM (by decide) hlen kw_60 rfl rfl rfl dX11_printBalances_5 ?_
  refine kz_iconst (pc := 8) (v := 0) (by decide) dX11_printBalances_8 ?_
  refine kz_istore_n (pc := 9) (i := 1) (ls' := [(0, .ref a0)]) rfl (by decide) rfl dX11_printBalances_9 ?_
  refine kz_sub [1, 0] rfl ?_
  exact h
theorem rX11_printBalances_10 {G : kz_G} {d : Nat} {Qr : Option Value → kz_M → Prop} {Qx : String → kz_M → Prop} {x0 : Nat} {x1 : Int32}  {M : kz_M} (h : ∃ fs1 v2, (M).1 x0 = some (.inl (10, fs1)) ∧ fs1[2]? = some (.ref v2) ∧ (∃ fs3 v4, (M).1 v2 = some (.inl (8, fs3)) ∧ fs3[2]? = some (.int v4) ∧ ((v4 ≤ x1 → ∃ fs5 v6, (M).1 x0 = some (.inl (10, fs5)) ∧ fs5[1]? = some (.ref v6) ∧ (∃ fs7 v8, (M).1 v6 = some (.inl (4, fs7)) ∧ fs7[1]? = some (.int v8) ∧ (Qr (some (.int v8)) M))) ∧ (¬ v4 ≤ x1 → ∃ fs9 v10, (M).1 x0 = some (.inl (10, fs9)) ∧ fs9[1]? = some (.ref v10) ∧ ((∃ fs44, (M).1 v10 = some (.inl (4, fs44))) ∧ kz_C G (d + 1) 0 0 mX4_separate [.ref v10] M (fun v M11 => v = none ∧ (∃ fs14 v15, (M11).1 x0 = some (.inl (10, fs14)) ∧ fs14[1]? = some (.ref v15) ∧ (∃ fs16 v17, (M11).1 x0 = some (.inl (10, fs16)) ∧ fs16[2]? = some (.ref v17) ∧ ((∃ fs43, (M11).1 v17 = some (.inl (8, fs43))) ∧ kz_C G (d + 1) 0 0 mX9_nameOf [.ref v17, .int x1] M11 (fun v M18 => ∃ r19 : Int64, v = some (.long r19) ∧ ((∃ fs42, (M18).1 v15 = some (.inl (4, fs42))) ∧ kz_C G (d + 1) 0 0 mX4_writeWord [.ref v15, .long r19] M18 (fun v M21 => v = none ∧ (∃ fs24 v25, (M21).1 x0 = some (.inl (10, fs24)) ∧ fs24[1]? = some (.ref v25) ∧ ((∃ fs41, (M21).1 v25 = some (.inl (4, fs41))) ∧ kz_C G (d + 1) 0 0 mX4_write [.ref v25, .int 61] M21 (fun v M26 => v = none ∧ (∃ fs29 v30, (M26).1 x0 = some (.inl (10, fs29)) ∧ fs29[1]? = some (.ref v30) ∧ (∃ fs31 v32, (M26).1 x0 = some (.inl (10, fs31)) ∧ fs31[2]? = some (.ref v32) ∧ ((∃ fs40, (M26).1 v32 = some (.inl (8, fs40))) ∧ kz_C G (d + 1) 0 0 mX9_balanceOf [.ref v32, .int x1] M26 (fun v M33 => ∃ r34 : Int32, v = some (.int r34) ∧ ((∃ fs39, (M33).1 v30 = some (.inl (4, fs39))) ∧ kz_C G (d + 1) 0 0 mX4_writeNumber [.ref v30, .int r34] M33 (fun v M36 => v = none ∧ (zX11_printBalances_10 G d Qr Qx x0 (x1 + 1) M36)) Qx)) Qx)))) Qx))) Qx)) Qx)))) Qx))))) : zX11_printBalances_10 G d Qr Qx x0 x1  M := by
  show kz_Z G (d + 2) 0 0 mX11_printBalances Qr Qx 10 [(0, .ref x0), (1, .int x1)] [] M 0 0
  refine kz_iload_n (pc := 10) 1 (i := 1) rfl rfl dX11_printBalances_10 ?_
  refine kz_aload_n (pc := 11) 0 (v := .ref x0) (i := 0) rfl rfl rfl dX11_printBalances_11 ?_
  obtain ⟨fs1, v2, hM, hv, h⟩ := h
  refine kz_getf (pc := 12) (k := 2) kcX11 hM hv (by decide) kw_277 dX11_printBalances_12 ?_
  obtain ⟨fs3, v4, hM, hv, h⟩ := h
  refine kz_getf (pc := 15) (k := 2) kcX9 hM hv (by decide) kw_107 dX11_printBalances_15 ?_
  refine kz_icmp_ge (pc := 18) (tgt := 73) (by decide) dX11_printBalances_18 (fun hb => ?_) (fun hb => ?_)
  · replace h := h.1 hb
    refine kz_aload_n (pc := 73) 0 (v := .ref x0) (i := 0) rfl rfl rfl dX11_printBalances_73 ?_
    obtain ⟨fs5, v6, hM, hv, h⟩ := h
    refine kz_getf (pc := 74) (k := 1) kcX11 hM hv (by decide) kw_276 dX11_printBalances_74 ?_
    obtain ⟨fs7, v8, hM, hv, h⟩ := h
    refine kz_getf (pc := 77) (k := 1) kcX4 hM hv (by decide) kw_60 dX11_printBalances_77 ?_
    exact kz_iret (pc := 80) rfl (Nat.le_refl _) (Nat.le_refl _) dX11_printBalances_80 h
  · replace h := h.2 hb
    refine kz_aload_n (pc := 21) 0 (v := .ref x0) (i := 0) rfl rfl rfl dX11_printBalances_21 ?_
    obtain ⟨fs9, v10, hM, hv, h⟩ := h
    refine kz_getf (pc := 22) (k := 1) kcX11 hM hv (by decide) kw_276 dX11_printBalances_22 ?_
    obtain ⟨⟨fs44, he⟩, h⟩ := h
    refine kz_callV (pc := 25) (μ' := mX4_separate) (ci := 4) (q := (RX4, TX4, 2)) (b := v10) (d' := d + 1) (mc' := 0) (ms' := 0) (As := []) (st := []) (c := 0) (sl := 0) kmX4_separate kw_477 (by omega) rfl (Nat.le_of_ble_eq_true rfl) he rfl rfl (Nat.le_refl _) (Nat.le_refl _) dX11_printBalances_25 (fun E M9 hx => kz_Tout rfl (Nat.le_refl _) (Nat.le_refl _) hx) (kz_Cmono (fun v M11 h => ?_) (fun _ _ h => h) h)
    obtain ⟨rfl, h⟩ := h
    show kz_Z G (d + 2) 0 0 mX11_printBalances Qr Qx 28 [(0, .ref x0), (1, .int x1)] [] M11 0 0
    refine kz_aload_n (pc := 28) 0 (v := .ref x0) (i := 0) rfl rfl rfl dX11_printBalances_28 ?_
    obtain ⟨fs14, v15, hM, hv, h⟩ := h
    refine kz_getf (pc := 29) (k := 1) kcX11 hM hv (by decide) kw_276 dX11_printBalances_29 ?_
    refine kz_aload_n (pc := 32) 0 (v := .ref x0) (i := 0) rfl rfl rfl dX11_printBalances_32 ?_
    obtain ⟨fs16, v17, hM, hv, h⟩ := h
    refine kz_getf (pc := 33) (k := 2) kcX11 hM hv (by decide) kw_277 dX11_printBalances_33 ?_
    refine kz_iload_n (pc := 36) 1 (i := 1) rfl rfl dX11_printBalances_36 ?_
    obtain ⟨⟨fs43, he⟩, h⟩ := h
    refine kz_callV (pc := 37) (μ' := mX9_nameOf) (ci := 8) (q := (RX9, TX9, 10)) (b := v17) (d' := d + 1) (mc' := 0) (ms' := 0) (As := [.int x1]) (st := [.ref v15]) (c := 0) (sl := 0) kmX9_nameOf kw_485 (by omega) rfl (Nat.le_of_ble_eq_true rfl) he rfl rfl (Nat.le_refl _) (Nat.le_refl _) dX11_printBalances_37 (fun E M9 hx => kz_Tout rfl (Nat.le_refl _) (Nat.le_refl _) hx) (kz_Cmono (fun v M18 h => ?_) (fun _ _ h => h) h)
    obtain ⟨r19, rfl, h⟩ := h
    show kz_Z G (d + 2) 0 0 mX11_printBalances Qr Qx 40 [(0, .ref x0), (1, .int x1)] [.long r19, .ref v15] M18 0 0
    obtain ⟨⟨fs42, he⟩, h⟩ := h
    refine kz_callV (pc := 40) (μ' := mX4_writeWord) (ci := 4) (q := (RX4, TX4, 2)) (b := v15) (d' := d + 1) (mc' := 0) (ms' := 0) (As := [.long r19]) (st := []) (c := 0) (sl := 0) kmX4_writeWord kw_486 (by omega) rfl (Nat.le_of_ble_eq_true rfl) he rfl rfl (Nat.le_refl _) (Nat.le_refl _) dX11_printBalances_40 (fun E M9 hx => kz_Tout rfl (Nat.le_refl _) (Nat.le_refl _) hx) (kz_Cmono (fun v M21 h => ?_) (fun _ _ h => h) h)
    obtain ⟨rfl, h⟩ := h
    show kz_Z G (d + 2) 0 0 mX11_printBalances Qr Qx 43 [(0, .ref x0), (1, .int x1)] [] M21 0 0
    refine kz_aload_n (pc := 43) 0 (v := .ref x0) (i := 0) rfl rfl rfl dX11_printBalances_43 ?_
    obtain ⟨fs24, v25, hM, hv, h⟩ := h
    refine kz_getf (pc := 44) (k := 1) kcX11 hM hv (by decide) kw_276 dX11_printBalances_44 ?_
    refine kz_bipush (pc := 47) (v := 61) (by decide) dX11_printBalances_47 ?_
    obtain ⟨⟨fs41, he⟩, h⟩ := h
    refine kz_callV (pc := 49) (μ' := mX4_write) (ci := 4) (q := (RX4, TX4, 2)) (b := v25) (d' := d + 1) (mc' := 0) (ms' := 0) (As := [.int 61]) (st := []) (c := 0) (sl := 0) kmX4_write kw_491 (by omega) rfl (Nat.le_of_ble_eq_true rfl) he rfl rfl (Nat.le_refl _) (Nat.le_refl _) dX11_printBalances_49 (fun E M9 hx => kz_Tout rfl (Nat.le_refl _) (Nat.le_refl _) hx) (kz_Cmono (fun v M26 h => ?_) (fun _ _ h => h) h)
    obtain ⟨rfl, h⟩ := h
    show kz_Z G (d + 2) 0 0 mX11_printBalances Qr Qx 52 [(0, .ref x0), (1, .int x1)] [] M26 0 0
    refine kz_aload_n (pc := 52) 0 (v := .ref x0) (i := 0) rfl rfl rfl dX11_printBalances_52 ?_
    obtain ⟨fs29, v30, hM, hv, h⟩ := h
    refine kz_getf (pc := 53) (k := 1) kcX11 hM hv (by decide) kw_276 dX11_printBalances_53 ?_
    refine kz_aload_n (pc := 56) 0 (v := .ref x0) (i := 0) rfl rfl rfl dX11_printBalances_56 ?_
    obtain ⟨fs31, v32, hM, hv, h⟩ := h
    refine kz_getf (pc := 57) (k := 2) kcX11 hM hv (by decide) kw_277 dX11_printBalances_57 ?_
    refine kz_iload_n (pc := 60) 1 (i := 1) rfl rfl dX11_printBalances_60 ?_
    obtain ⟨⟨fs40, he⟩, h⟩ := h
    refine kz_callV (pc := 61) (μ' := mX9_balanceOf) (ci := 8) (q := (RX9, TX9, 10)) (b := v32) (d' := d + 1) (mc' := 0) (ms' := 0) (As := [.int x1]) (st := [.ref v30]) (c := 0) (sl := 0) kmX9_balanceOf kw_444 (by omega) rfl (Nat.le_of_ble_eq_true rfl) he rfl rfl (Nat.le_refl _) (Nat.le_refl _) dX11_printBalances_61 (fun E M9 hx => kz_Tout rfl (Nat.le_refl _) (Nat.le_refl _) hx) (kz_Cmono (fun v M33 h => ?_) (fun _ _ h => h) h)
    obtain ⟨r34, rfl, h⟩ := h
    show kz_Z G (d + 2) 0 0 mX11_printBalances Qr Qx 64 [(0, .ref x0), (1, .int x1)] [.int r34, .ref v30] M33 0 0
    obtain ⟨⟨fs39, he⟩, h⟩ := h
    refine kz_callV (pc := 64) (μ' := mX4_writeNumber) (ci := 4) (q := (RX4, TX4, 2)) (b := v30) (d' := d + 1) (mc' := 0) (ms' := 0) (As := [.int r34]) (st := []) (c := 0) (sl := 0) kmX4_writeNumber kw_492 (by omega) rfl (Nat.le_of_ble_eq_true rfl) he rfl rfl (Nat.le_refl _) (Nat.le_refl _) dX11_printBalances_64 (fun E M9 hx => kz_Tout rfl (Nat.le_refl _) (Nat.le_refl _) hx) (kz_Cmono (fun v M36 h => ?_) (fun _ _ h => h) h)
    obtain ⟨rfl, h⟩ := h
    show kz_Z G (d + 2) 0 0 mX11_printBalances Qr Qx 67 [(0, .ref x0), (1, .int x1)] [] M36 0 0
    refine kz_iinc (pc := 67) 1 (i := 1) (v := x1 + 1) (ls' := [(0, .ref x0)]) rfl (congrArg (fun z => x1 + z) (by decide)) (by decide) rfl dX11_printBalances_67 ?_
    refine kz_goto (pc := 70) (tgt := 10) (by decide) dX11_printBalances_70 ?_
    refine kz_sub [1, 0] rfl ?_
    exact h
theorem dX11_outputByte_0 : decode cX11_outputByte 0 = .ok (.aload_n 0, 1) := by decide +kernel
theorem dX11_outputByte_1 : decode cX11_outputByte 1 = .ok (.getfield 19, 3) := by decide +kernel
theorem dX11_outputByte_4 : decode cX11_outputByte 4 = .ok (.iload_n 1, 1) := by decide +kernel
theorem dX11_outputByte_5 : decode cX11_outputByte 5 = .ok (.invokevirtual 438, 3) := by decide +kernel
theorem dX11_outputByte_8 : decode cX11_outputByte 8 = .ok (.ireturn, 1) := by decide +kernel
theorem rX11_outputByte_0 {G : kz_G} {d : Nat} {Qr : Option Value → kz_M → Prop} {Qx : String → kz_M → Prop} {a0 : Nat} {p1 : Int32}  {M : kz_M} (h : ∃ fs1 v2, (M).1 a0 = some (.inl (10, fs1)) ∧ fs1[1]? = some (.ref v2) ∧ ((∃ fs6, (M).1 v2 = some (.inl (4, fs6))) ∧ kz_C G (d + 0) 0 0 mX4_signAt [.ref v2, .int p1] M (fun v M3 => ∃ r4 : Int32, v = some (.int r4) ∧ (Qr (some (.int r4)) M3)) Qx)) : kz_C G (d + 1) 0 0 mX11_outputByte [.ref a0, .int p1] M Qr Qx := by
  refine kz_enter (n := 1) kmX11_outputByte.1 (Nat.le_of_ble_eq_true rfl) (ls := [(0, .ref a0), (1, .int p1)]) rfl ?_
  refine kz_aload_n (pc := 0) 0 (v := .ref a0) (i := 0) rfl rfl rfl dX11_outputByte_0 ?_
  obtain ⟨fs1, v2, hM, hv, h⟩ := h
  refine kz_getf (pc := 1) (k := 1) kcX11 hM hv (by decide) kw_276 dX11_outputByte_1 ?_
  refine kz_iload_n (pc := 4) 1 (i := 1) rfl rfl dX11_outputByte_4 ?_
  obtain ⟨⟨fs6, he⟩, h⟩ := h
  refine kz_callV (pc := 5) (μ' := mX4_signAt) (ci := 4) (q := (RX4, TX4, 2)) (b := v2) (d' := d + 0) (mc' := 0) (ms' := 0) (As := [.int p1]) (st := []) (c := 0) (sl := 0) kmX4_signAt kw_505 (by omega) rfl (Nat.le_of_ble_eq_true rfl) he rfl rfl (Nat.le_refl _) (Nat.le_refl _) dX11_outputByte_5 (fun E M9 hx => kz_Tout rfl (Nat.le_refl _) (Nat.le_refl _) hx) (kz_Cmono (fun v M3 h => ?_) (fun _ _ h => h) h)
  obtain ⟨r4, rfl, h⟩ := h
  show kz_Z G (d + 1) 0 0 mX11_outputByte Qr Qx 8 [(0, .ref a0), (1, .int p1)] [.int r4] M3 0 0
  exact kz_iret (pc := 8) rfl (Nat.le_refl _) (Nat.le_refl _) dX11_outputByte_8 h
theorem dX11_saveState_0 : decode cX11_saveState 0 = .ok (.aload_n 0, 1) := by decide +kernel
theorem dX11_saveState_1 : decode cX11_saveState 1 = .ok (.getfield 30, 3) := by decide +kernel
theorem dX11_saveState_4 : decode cX11_saveState 4 = .ok (.aload_n 0, 1) := by decide +kernel
theorem dX11_saveState_5 : decode cX11_saveState 5 = .ok (.getfield 26, 3) := by decide +kernel
theorem dX11_saveState_8 : decode cX11_saveState 8 = .ok (.invokevirtual 95, 3) := by decide +kernel
theorem dX11_saveState_11 : decode cX11_saveState 11 = .ok (.aload_n 0, 1) := by decide +kernel
theorem dX11_saveState_12 : decode cX11_saveState 12 = .ok (.iconst 1, 1) := by decide +kernel
theorem dX11_saveState_13 : decode cX11_saveState 13 = .ok (.putfield 54, 3) := by decide +kernel
theorem dX11_saveState_16 : decode cX11_saveState 16 = .ok (.aload_n 0, 1) := by decide +kernel
theorem dX11_saveState_17 : decode cX11_saveState 17 = .ok (.getfield 26, 3) := by decide +kernel
theorem dX11_saveState_20 : decode cX11_saveState 20 = .ok (.getfield 114, 3) := by decide +kernel
theorem dX11_saveState_23 : decode cX11_saveState 23 = .ok (.ireturn, 1) := by decide +kernel
theorem rX11_saveState_0 {G : kz_G} {d : Nat} {Qr : Option Value → kz_M → Prop} {Qx : String → kz_M → Prop} {a0 : Nat}  {M : kz_M} (h : ∃ fs1 v2, (M).1 a0 = some (.inl (10, fs1)) ∧ fs1[3]? = some (.ref v2) ∧ (∃ fs3 v4, (M).1 a0 = some (.inl (10, fs3)) ∧ fs3[2]? = some (.ref v4) ∧ ((∃ fs13, (M).1 v2 = some (.inl (8, fs13))) ∧ kz_C G (d + 2) 0 0 mX9_takeOver [.ref v2, .ref v4] M (fun v M5 => v = none ∧ (∃ fs8, (M5).1 a0 = some (.inl (10, fs8)) ∧ 7 < fs8.length ∧ (∃ fs9 v10, ((kz_up M5 a0 (.inl (10, fs8.set 7 (.int 1))))).1 a0 = some (.inl (10, fs9)) ∧ fs9[2]? = some (.ref v10) ∧ (∃ fs11 v12, ((kz_up M5 a0 (.inl (10, fs8.set 7 (.int 1))))).1 v10 = some (.inl (8, fs11)) ∧ fs11[0]? = some (.int v12) ∧ (Qr (some (.int v12)) (kz_up M5 a0 (.inl (10, fs8.set 7 (.int 1))))))))) Qx))) : kz_C G (d + 3) 0 0 mX11_saveState [.ref a0] M Qr Qx := by
  refine kz_enter (n := 0) kmX11_saveState.1 (Nat.le_of_ble_eq_true rfl) (ls := [(0, .ref a0)]) rfl ?_
  refine kz_aload_n (pc := 0) 0 (v := .ref a0) (i := 0) rfl rfl rfl dX11_saveState_0 ?_
  obtain ⟨fs1, v2, hM, hv, h⟩ := h
  refine kz_getf (pc := 1) (k := 3) kcX11 hM hv (by decide) kw_278 dX11_saveState_1 ?_
  refine kz_aload_n (pc := 4) 0 (v := .ref a0) (i := 0) rfl rfl rfl dX11_saveState_4 ?_
  obtain ⟨fs3, v4, hM, hv, h⟩ := h
  refine kz_getf (pc := 5) (k := 2) kcX11 hM hv (by decide) kw_277 dX11_saveState_5 ?_
  obtain ⟨⟨fs13, he⟩, h⟩ := h
  refine kz_callV (pc := 8) (μ' := mX9_takeOver) (ci := 8) (q := (RX9, TX9, 10)) (b := v2) (d' := d + 2) (mc' := 0) (ms' := 0) (As := [.ref v4]) (st := []) (c := 0) (sl := 0) kmX9_takeOver kw_416 (by omega) rfl (Nat.le_of_ble_eq_true rfl) he rfl rfl (Nat.le_refl _) (Nat.le_refl _) dX11_saveState_8 (fun E M9 hx => kz_Tout rfl (Nat.le_refl _) (Nat.le_refl _) hx) (kz_Cmono (fun v M5 h => ?_) (fun _ _ h => h) h)
  obtain ⟨rfl, h⟩ := h
  show kz_Z G (d + 3) 0 0 mX11_saveState Qr Qx 11 [(0, .ref a0)] [] M5 0 0
  refine kz_aload_n (pc := 11) 0 (v := .ref a0) (i := 0) rfl rfl rfl dX11_saveState_11 ?_
  refine kz_iconst (pc := 12) (v := 1) (by decide) dX11_saveState_12 ?_
  obtain ⟨fs8, hM, hlen, h⟩ := h
  refine kz_putf (pc := 13) (k := 7) kcX11 hM (by decide) hlen kw_282 rfl rfl rfl dX11_saveState_13 ?_
  refine kz_aload_n (pc := 16) 0 (v := .ref a0) (i := 0) rfl rfl rfl dX11_saveState_16 ?_
  obtain ⟨fs9, v10, hM, hv, h⟩ := h
  refine kz_getf (pc := 17) (k := 2) kcX11 hM hv (by decide) kw_277 dX11_saveState_17 ?_
  obtain ⟨fs11, v12, hM, hv, h⟩ := h
  refine kz_getf (pc := 20) (k := 0) kcX9 hM hv (by decide) kw_101 dX11_saveState_20 ?_
  exact kz_iret (pc := 23) rfl (Nat.le_refl _) (Nat.le_refl _) dX11_saveState_23 h
theorem dX11_checkWriter_0 : decode cX11_checkWriter 0 = .ok (.aload_n 0, 1) := by decide +kernel
theorem dX11_checkWriter_1 : decode cX11_checkWriter 1 = .ok (.getfield 26, 3) := by decide +kernel
theorem dX11_checkWriter_4 : decode cX11_checkWriter 4 = .ok (.iload_n 1, 1) := by decide +kernel
theorem dX11_checkWriter_5 : decode cX11_checkWriter 5 = .ok (.invokevirtual 443, 3) := by decide +kernel
theorem dX11_checkWriter_8 : decode cX11_checkWriter 8 = .ok (.ifCond .ne 14, 3) := by decide +kernel
theorem dX11_checkWriter_11 : decode cX11_checkWriter 11 = .ok (.new 232, 3) := by decide +kernel
theorem dX11_checkWriter_14 : decode cX11_checkWriter 14 = .ok (.dup, 1) := by decide +kernel
theorem dX11_checkWriter_15 : decode cX11_checkWriter 15 = .ok (.ldc_w 446, 3) := by decide +kernel
theorem dX11_checkWriter_18 : decode cX11_checkWriter 18 = .ok (.invokespecial 236, 3) := by decide +kernel
theorem dX11_checkWriter_21 : decode cX11_checkWriter 21 = .ok (.athrow, 1) := by decide +kernel
theorem dX11_checkWriter_22 : decode cX11_checkWriter 22 = .ok (.return_, 1) := by decide +kernel
theorem rX11_checkWriter_0 {G : kz_G} {d : Nat} {mc ms : Nat} {Qr : Option Value → kz_M → Prop} {Qx : String → kz_M → Prop} {a0 : Nat} {p1 : Int32}  {M : kz_M} (hG : kz_stat G) (h : ∃ fs1 v2, (M).1 a0 = some (.inl (10, fs1)) ∧ fs1[2]? = some (.ref v2) ∧ ((∃ fs7, (M).1 v2 = some (.inl (8, fs7))) ∧ kz_C G (d + 6) 0 0 mX9_isWriter [.ref v2, .int p1] M (fun v M3 => ∃ r4 : Int32, v = some (.int r4) ∧ ((¬ r4 = 0 → Qr none M3) ∧ (r4 = 0 → 0 + 1 ≤ mc ∧ 0 + 6 ≤ ms ∧ ∀ g6, Qx "java/lang/IndexOutOfBoundsException" ((M3).1, (M3).2 + g6)))) Qx)) : kz_C G (d + 7) mc ms mX11_checkWriter [.ref a0, .int p1] M Qr Qx := by
  refine kz_enter (n := 1) kmX11_checkWriter.1 (Nat.le_of_ble_eq_true rfl) (ls := [(0, .ref a0), (1, .int p1)]) rfl ?_
  refine kz_aload_n (pc := 0) 0 (v := .ref a0) (i := 0) rfl rfl rfl dX11_checkWriter_0 ?_
  obtain ⟨fs1, v2, hM, hv, h⟩ := h
  refine kz_getf (pc := 1) (k := 2) kcX11 hM hv (by decide) kw_277 dX11_checkWriter_1 ?_
  refine kz_iload_n (pc := 4) 1 (i := 1) rfl rfl dX11_checkWriter_4 ?_
  obtain ⟨⟨fs7, he⟩, h⟩ := h
  refine kz_callV (pc := 5) (μ' := mX9_isWriter) (ci := 8) (q := (RX9, TX9, 10)) (b := v2) (d' := d + 6) (mc' := 0) (ms' := 0) (As := [.int p1]) (st := []) (c := 0) (sl := 0) kmX9_isWriter kw_645 (by omega) rfl (Nat.le_of_ble_eq_true rfl) he rfl rfl (Nat.zero_le _) (Nat.zero_le _) dX11_checkWriter_5 (fun E M9 hx => kz_Tout rfl (Nat.zero_le _) (Nat.zero_le _) hx) (kz_Cmono (fun v M3 h => ?_) (fun _ _ h => h) h)
  obtain ⟨r4, rfl, h⟩ := h
  show kz_Z G (d + 7) mc ms mX11_checkWriter Qr Qx 8 [(0, .ref a0), (1, .int p1)] [.int r4] M3 0 0
  refine kz_if_ne (pc := 8) (tgt := 22) (by decide) dX11_checkWriter_8 (fun hb => ?_) (fun hb => ?_)
  · replace h := h.1 hb
    exact kz_vret (pc := 22) rfl (Nat.zero_le _) (Nat.zero_le _) dX11_checkWriter_22 h
  · replace h := h.2 hb
    exact kz_throwSW (pc := 11) (ik := 232) (is := 446) (ic := 236) (j := 1015) (text := "no such writer") hG.1 hG.2.1 hG.2.2.1 (by decide +kernel) kz_xn kw_649 kw_20 (List.mem_of_getElem? (i := 15) rfl) kz_xw_IndexOutOfBoundsException kz_xg_IndexOutOfBoundsException rfl (by show 2 + 3 < _; omega) (by decide) (Nat.le_of_ble_eq_true rfl) h.1 h.2.1 dX11_checkWriter_11 dX11_checkWriter_14 dX11_checkWriter_15 dX11_checkWriter_18 dX11_checkWriter_21 h.2.2
theorem dX11_checkSetting_0 : decode cX11_checkSetting 0 = .ok (.iload_n 1, 1) := by decide +kernel
theorem dX11_checkSetting_1 : decode cX11_checkSetting 1 = .ok (.ifCond .lt 11, 3) := by decide +kernel
theorem dX11_checkSetting_4 : decode cX11_checkSetting 4 = .ok (.iload_n 1, 1) := by decide +kernel
theorem dX11_checkSetting_5 : decode cX11_checkSetting 5 = .ok (.getstatic 448, 3) := by decide +kernel
theorem dX11_checkSetting_8 : decode cX11_checkSetting 8 = .ok (.arraylength, 1) := by decide +kernel
theorem dX11_checkSetting_9 : decode cX11_checkSetting 9 = .ok (.if_icmp .lt 14, 3) := by decide +kernel
theorem dX11_checkSetting_12 : decode cX11_checkSetting 12 = .ok (.new 134, 3) := by decide +kernel
theorem dX11_checkSetting_15 : decode cX11_checkSetting 15 = .ok (.dup, 1) := by decide +kernel
theorem dX11_checkSetting_16 : decode cX11_checkSetting 16 = .ok (.ldc_w 452, 3) := by decide +kernel
theorem dX11_checkSetting_19 : decode cX11_checkSetting 19 = .ok (.invokespecial 138, 3) := by decide +kernel
theorem dX11_checkSetting_22 : decode cX11_checkSetting 22 = .ok (.athrow, 1) := by decide +kernel
theorem dX11_checkSetting_23 : decode cX11_checkSetting 23 = .ok (.return_, 1) := by decide +kernel
theorem rX11_checkSetting_0 {G : kz_G} {d : Nat} {mc ms : Nat} {Qr : Option Value → kz_M → Prop} {Qx : String → kz_M → Prop} {a0 : Nat} {p1 : Int32}  {M : kz_M} (hG : kz_stat G) (h : (p1 < 0 → 0 + 1 ≤ mc ∧ 0 + 6 ≤ ms ∧ ∀ g1, Qx "java/lang/IllegalArgumentException" ((M).1, (M).2 + g1)) ∧ (¬ p1 < 0 → (p1 < (10 : Int32) → Qr none M) ∧ (¬ p1 < (10 : Int32) → 0 + 1 ≤ mc ∧ 0 + 6 ≤ ms ∧ ∀ g2, Qx "java/lang/IllegalArgumentException" ((M).1, (M).2 + g2)))) : kz_C G (d + 7) mc ms mX11_checkSetting [.ref a0, .int p1] M Qr Qx := by
  refine kz_enter (n := 1) kmX11_checkSetting.1 (Nat.le_of_ble_eq_true rfl) (ls := [(0, .ref a0), (1, .int p1)]) rfl ?_
  refine kz_iload_n (pc := 0) 1 (i := 1) rfl rfl dX11_checkSetting_0 ?_
  refine kz_if_lt (pc := 1) (tgt := 12) (by decide) dX11_checkSetting_1 (fun hb => ?_) (fun hb => ?_)
  · replace h := h.1 hb
    exact kz_throwSW (pc := 12) (ik := 134) (is := 452) (ic := 138) (j := 1016) (text := "no such setting") hG.1 hG.2.1 hG.2.2.1 (by decide +kernel) kz_xn kw_549 kw_19 (List.mem_of_getElem? (i := 16) rfl) kz_xw_IllegalArgumentException kz_xg_IllegalArgumentException rfl (by show 2 + 3 < _; omega) (by decide) (Nat.le_of_ble_eq_true rfl) h.1 h.2.1 dX11_checkSetting_12 dX11_checkSetting_15 dX11_checkSetting_16 dX11_checkSetting_19 dX11_checkSetting_22 h.2.2
  · replace h := h.2 hb
    refine kz_iload_n (pc := 4) 1 (i := 1) rfl rfl dX11_checkSetting_4 ?_
    refine kz_gets (pc := 5) (v := .retAddr 0) hG.2.2.2.1 kw_400 dX11_checkSetting_5 ?_
    refine kz_salen (pc := 8) (v := 10) hG.2.2.2.2.1 (by decide) dX11_checkSetting_8 ?_
    refine kz_icmp_lt (pc := 9) (tgt := 23) (by decide) dX11_checkSetting_9 (fun hb => ?_) (fun hb => ?_)
    · replace h := h.1 hb
      exact kz_vret (pc := 23) rfl (Nat.zero_le _) (Nat.zero_le _) dX11_checkSetting_23 h
    · replace h := h.2 hb
      exact kz_throwSW (pc := 12) (ik := 134) (is := 452) (ic := 138) (j := 1016) (text := "no such setting") hG.1 hG.2.1 hG.2.2.1 (by decide +kernel) kz_xn kw_549 kw_19 (List.mem_of_getElem? (i := 16) rfl) kz_xw_IllegalArgumentException kz_xg_IllegalArgumentException rfl (by show 2 + 3 < _; omega) (by decide) (Nat.le_of_ble_eq_true rfl) h.1 h.2.1 dX11_checkSetting_12 dX11_checkSetting_15 dX11_checkSetting_16 dX11_checkSetting_19 dX11_checkSetting_22 h.2.2
theorem dX11_checkValue_0 : decode cX11_checkValue 0 = .ok (.iload_n 1, 1) := by decide +kernel
theorem dX11_checkValue_1 : decode cX11_checkValue 1 = .ok (.iload_n 2, 1) := by decide +kernel
theorem dX11_checkValue_2 : decode cX11_checkValue 2 = .ok (.invokestatic 454, 3) := by decide +kernel
theorem dX11_checkValue_5 : decode cX11_checkValue 5 = .ok (.ifCond .ne 14, 3) := by decide +kernel
theorem dX11_checkValue_8 : decode cX11_checkValue 8 = .ok (.new 134, 3) := by decide +kernel
theorem dX11_checkValue_11 : decode cX11_checkValue 11 = .ok (.dup, 1) := by decide +kernel
theorem dX11_checkValue_12 : decode cX11_checkValue 12 = .ok (.ldc_w 457, 3) := by decide +kernel
theorem dX11_checkValue_15 : decode cX11_checkValue 15 = .ok (.invokespecial 138, 3) := by decide +kernel
theorem dX11_checkValue_18 : decode cX11_checkValue 18 = .ok (.athrow, 1) := by decide +kernel
theorem dX11_checkValue_19 : decode cX11_checkValue 19 = .ok (.return_, 1) := by decide +kernel
theorem rX11_checkValue_0 {G : kz_G} {d : Nat} {mc ms : Nat} {Qr : Option Value → kz_M → Prop} {Qx : String → kz_M → Prop} {a0 : Nat} {p1 : Int32} {p2 : Int32}  {M : kz_M} (hG : kz_stat G) (h : kz_C G (d + 6) 0 0 mX11_isValue [.int p1, .int p2] M (fun v M1 => ∃ r2 : Int32, v = some (.int r2) ∧ ((¬ r2 = 0 → Qr none M1) ∧ (r2 = 0 → 0 + 1 ≤ mc ∧ 0 + 6 ≤ ms ∧ ∀ g4, Qx "java/lang/IllegalArgumentException" ((M1).1, (M1).2 + g4)))) Qx) : kz_C G (d + 7) mc ms mX11_checkValue [.ref a0, .int p1, .int p2] M Qr Qx := by
  refine kz_enter (n := 2) kmX11_checkValue.1 (Nat.le_of_ble_eq_true rfl) (ls := [(0, .ref a0), (1, .int p1), (2, .int p2)]) rfl ?_
  refine kz_iload_n (pc := 0) 1 (i := 1) rfl rfl dX11_checkValue_0 ?_
  refine kz_iload_n (pc := 1) 2 (i := 2) rfl rfl dX11_checkValue_1 ?_
  refine kz_callS (pc := 2) (μ' := mX11_isValue) (d' := d + 6) (mc' := 0) (ms' := 0) (As := [.int p1, .int p2]) (st := []) (c := 0) (sl := 0) kmX11_isValue kw_917 (by omega) rfl (Nat.le_of_ble_eq_true rfl) (Nat.zero_le _) (Nat.zero_le _) dX11_checkValue_2 (fun E M9 hx => kz_Tout rfl (Nat.zero_le _) (Nat.zero_le _) hx) (kz_Cmono (fun v M1 h => ?_) (fun _ _ h => h) h)
  obtain ⟨r2, rfl, h⟩ := h
  show kz_Z G (d + 7) mc ms mX11_checkValue Qr Qx 5 [(0, .ref a0), (1, .int p1), (2, .int p2)] [.int r2] M1 0 0
  refine kz_if_ne (pc := 5) (tgt := 19) (by decide) dX11_checkValue_5 (fun hb => ?_) (fun hb => ?_)
  · replace h := h.1 hb
    exact kz_vret (pc := 19) rfl (Nat.zero_le _) (Nat.zero_le _) dX11_checkValue_19 h
  · replace h := h.2 hb
    exact kz_throwSW (pc := 8) (ik := 134) (is := 457) (ic := 138) (j := 1017) (text := "no such value of the setting") hG.1 hG.2.1 hG.2.2.1 (by decide +kernel) kz_xn kw_549 kw_19 (List.mem_of_getElem? (i := 17) rfl) kz_xw_IllegalArgumentException kz_xg_IllegalArgumentException rfl (by show 2 + 3 < _; omega) (by decide) (Nat.le_of_ble_eq_true rfl) h.1 h.2.1 dX11_checkValue_8 dX11_checkValue_11 dX11_checkValue_12 dX11_checkValue_15 dX11_checkValue_18 h.2.2
theorem dX11_checkSubmission_0 : decode cX11_checkSubmission 0 = .ok (.aload_n 0, 1) := by decide +kernel
theorem dX11_checkSubmission_1 : decode cX11_checkSubmission 1 = .ok (.iload_n 1, 1) := by decide +kernel
theorem dX11_checkSubmission_2 : decode cX11_checkSubmission 2 = .ok (.invokevirtual 148, 3) := by decide +kernel
theorem dX11_checkSubmission_5 : decode cX11_checkSubmission 5 = .ok (.iload_n 2, 1) := by decide +kernel
theorem dX11_checkSubmission_6 : decode cX11_checkSubmission 6 = .ok (.ifCond .lt 8, 3) := by decide +kernel
theorem dX11_checkSubmission_9 : decode cX11_checkSubmission 9 = .ok (.iload_n 2, 1) := by decide +kernel
theorem dX11_checkSubmission_10 : decode cX11_checkSubmission 10 = .ok (.iconst 2, 1) := by decide +kernel
theorem dX11_checkSubmission_11 : decode cX11_checkSubmission 11 = .ok (.if_icmp .le 14, 3) := by decide +kernel
theorem dX11_checkSubmission_14 : decode cX11_checkSubmission 14 = .ok (.new 134, 3) := by decide +kernel
theorem dX11_checkSubmission_17 : decode cX11_checkSubmission 17 = .ok (.dup, 1) := by decide +kernel
theorem dX11_checkSubmission_18 : decode cX11_checkSubmission 18 = .ok (.ldc_w 459, 3) := by decide +kernel
theorem dX11_checkSubmission_21 : decode cX11_checkSubmission 21 = .ok (.invokespecial 138, 3) := by decide +kernel
theorem dX11_checkSubmission_24 : decode cX11_checkSubmission 24 = .ok (.athrow, 1) := by decide +kernel
theorem dX11_checkSubmission_25 : decode cX11_checkSubmission 25 = .ok (.iload_n 3, 1) := by decide +kernel
theorem dX11_checkSubmission_26 : decode cX11_checkSubmission 26 = .ok (.ifCond .lt 21, 3) := by decide +kernel
theorem dX11_checkSubmission_29 : decode cX11_checkSubmission 29 = .ok (.iload_n 3, 1) := by decide +kernel
theorem dX11_checkSubmission_30 : decode cX11_checkSubmission 30 = .ok (.sipush 500, 3) := by decide +kernel
theorem dX11_checkSubmission_33 : decode cX11_checkSubmission 33 = .ok (.if_icmp .gt 14, 3) := by decide +kernel
theorem dX11_checkSubmission_36 : decode cX11_checkSubmission 36 = .ok (.iload_n 3, 1) := by decide +kernel
theorem dX11_checkSubmission_37 : decode cX11_checkSubmission 37 = .ok (.aload_n 0, 1) := by decide +kernel
theorem dX11_checkSubmission_38 : decode cX11_checkSubmission 38 = .ok (.getfield 10, 3) := by decide +kernel
theorem dX11_checkSubmission_41 : decode cX11_checkSubmission 41 = .ok (.getfield 83, 3) := by decide +kernel
theorem dX11_checkSubmission_44 : decode cX11_checkSubmission 44 = .ok (.if_icmp .le 14, 3) := by decide +kernel
theorem dX11_checkSubmission_47 : decode cX11_checkSubmission 47 = .ok (.new 134, 3) := by decide +kernel
theorem dX11_checkSubmission_50 : decode cX11_checkSubmission 50 = .ok (.dup, 1) := by decide +kernel
theorem dX11_checkSubmission_51 : decode cX11_checkSubmission 51 = .ok (.ldc_w 461, 3) := by decide +kernel
theorem dX11_checkSubmission_54 : decode cX11_checkSubmission 54 = .ok (.invokespecial 138, 3) := by decide +kernel
theorem dX11_checkSubmission_57 : decode cX11_checkSubmission 57 = .ok (.athrow, 1) := by decide +kernel
theorem dX11_checkSubmission_58 : decode cX11_checkSubmission 58 = .ok (.return_, 1) := by decide +kernel
theorem rX11_checkSubmission_0 {G : kz_G} {d : Nat} {mc ms : Nat} {Qr : Option Value → kz_M → Prop} {Qx : String → kz_M → Prop} {a0 : Nat} {p1 : Int32} {p2 : Int32} {p3 : Int32}  {M : kz_M} (hG : kz_stat G) (h : (∃ fs13, (M).1 a0 = some (.inl (10, fs13))) ∧ ∃ mc3 ms3, 0 + mc3 ≤ mc ∧ 0 + ms3 ≤ ms ∧ kz_C G (d + 7) mc3 ms3 mX11_checkWriter [.ref a0, .int p1] M (fun v M1 => v = none ∧ ((p2 < 0 → 0 + mc3 + 1 ≤ mc ∧ 0 + ms3 + 6 ≤ ms ∧ ∀ g4, Qx "java/lang/IllegalArgumentException" ((M1).1, (M1).2 + g4)) ∧ (¬ p2 < 0 → (p2 ≤ (2 : Int32) → (p3 < 0 → 0 + mc3 + 1 ≤ mc ∧ 0 + ms3 + 6 ≤ ms ∧ ∀ g5, Qx "java/lang/IllegalArgumentException" ((M1).1, (M1).2 + g5)) ∧ (¬ p3 < 0 → ((500 : Int32) < p3 → 0 + mc3 + 1 ≤ mc ∧ 0 + ms3 + 6 ≤ ms ∧ ∀ g6, Qx "java/lang/IllegalArgumentException" ((M1).1, (M1).2 + g6)) ∧ (¬ (500 : Int32) < p3 → ∃ fs7 v8, (M1).1 a0 = some (.inl (10, fs7)) ∧ fs7[0]? = some (.ref v8) ∧ (∃ fs9 v10, (M1).1 v8 = some (.inl (1, fs9)) ∧ fs9[1]? = some (.int v10) ∧ ((p3 ≤ v10 → Qr none M1) ∧ (¬ p3 ≤ v10 → 0 + mc3 + 1 ≤ mc ∧ 0 + ms3 + 6 ≤ ms ∧ ∀ g11, Qx "java/lang/IllegalArgumentException" ((M1).1, (M1).2 + g11))))))) ∧ (¬ p2 ≤ (2 : Int32) → 0 + mc3 + 1 ≤ mc ∧ 0 + ms3 + 6 ≤ ms ∧ ∀ g12, Qx "java/lang/IllegalArgumentException" ((M1).1, (M1).2 + g12))))) Qx) : kz_C G (d + 8) mc ms mX11_checkSubmission [.ref a0, .int p1, .int p2, .int p3] M Qr Qx := by
  refine kz_enter (n := 3) kmX11_checkSubmission.1 (Nat.le_of_ble_eq_true rfl) (ls := [(0, .ref a0), (1, .int p1), (2, .int p2), (3, .int p3)]) rfl ?_
  refine kz_aload_n (pc := 0) 0 (v := .ref a0) (i := 0) rfl rfl rfl dX11_checkSubmission_0 ?_
  refine kz_iload_n (pc := 1) 1 (i := 1) rfl rfl dX11_checkSubmission_1 ?_
  obtain ⟨⟨fs13, he⟩, h⟩ := h
  obtain ⟨mc3, ms3, hc3, hs3, h⟩ := h
  refine kz_callV (pc := 2) (μ' := mX11_checkWriter) (ci := 10) (q := (RX11, TX11, 10)) (b := a0) (d' := d + 7) (mc' := mc3) (ms' := ms3) (As := [.int p1]) (st := []) (c := 0) (sl := 0) kmX11_checkWriter kw_641 (by omega) rfl (Nat.le_of_ble_eq_true rfl) he rfl rfl hc3 hs3 dX11_checkSubmission_2 (fun E M9 hx => kz_Tout rfl hc3 hs3 hx) (kz_Cmono (fun v M1 h => ?_) (fun _ _ h => h) h)
  obtain ⟨rfl, h⟩ := h
  show kz_Z G (d + 8) mc ms mX11_checkSubmission Qr Qx 5 [(0, .ref a0), (1, .int p1), (2, .int p2), (3, .int p3)] [] M1 (0 + mc3) (0 + ms3)
  refine kz_iload_n (pc := 5) 2 (i := 2) rfl rfl dX11_checkSubmission_5 ?_
  refine kz_if_lt (pc := 6) (tgt := 14) (by decide) dX11_checkSubmission_6 (fun hb => ?_) (fun hb => ?_)
  · replace h := h.1 hb
    exact kz_throwSW (pc := 14) (ik := 134) (is := 459) (ic := 138) (j := 1018) (text := "no such kind") hG.1 hG.2.1 hG.2.2.1 (by decide +kernel) kz_xn kw_549 kw_19 (List.mem_of_getElem? (i := 18) rfl) kz_xw_IllegalArgumentException kz_xg_IllegalArgumentException rfl (by show 2 + 3 < _; omega) (by decide) (Nat.le_of_ble_eq_true rfl) h.1 h.2.1 dX11_checkSubmission_14 dX11_checkSubmission_17 dX11_checkSubmission_18 dX11_checkSubmission_21 dX11_checkSubmission_24 h.2.2
  · replace h := h.2 hb
    refine kz_iload_n (pc := 9) 2 (i := 2) rfl rfl dX11_checkSubmission_9 ?_
    refine kz_iconst (pc := 10) (v := 2) (by decide) dX11_checkSubmission_10 ?_
    refine kz_icmp_le (pc := 11) (tgt := 25) (by decide) dX11_checkSubmission_11 (fun hb => ?_) (fun hb => ?_)
    · replace h := h.1 hb
      refine kz_iload_n (pc := 25) 3 (i := 3) rfl rfl dX11_checkSubmission_25 ?_
      refine kz_if_lt (pc := 26) (tgt := 47) (by decide) dX11_checkSubmission_26 (fun hb => ?_) (fun hb => ?_)
      · replace h := h.1 hb
        exact kz_throwSW (pc := 47) (ik := 134) (is := 461) (ic := 138) (j := 1019) (text := "no such length") hG.1 hG.2.1 hG.2.2.1 (by decide +kernel) kz_xn kw_549 kw_19 (List.mem_of_getElem? (i := 19) rfl) kz_xw_IllegalArgumentException kz_xg_IllegalArgumentException rfl (by show 2 + 3 < _; omega) (by decide) (Nat.le_of_ble_eq_true rfl) h.1 h.2.1 dX11_checkSubmission_47 dX11_checkSubmission_50 dX11_checkSubmission_51 dX11_checkSubmission_54 dX11_checkSubmission_57 h.2.2
      · replace h := h.2 hb
        refine kz_iload_n (pc := 29) 3 (i := 3) rfl rfl dX11_checkSubmission_29 ?_
        refine kz_sipush (pc := 30) (v := 500) (by decide) dX11_checkSubmission_30 ?_
        refine kz_icmp_gt (pc := 33) (tgt := 47) (by decide) dX11_checkSubmission_33 (fun hb => ?_) (fun hb => ?_)
        · replace h := h.1 hb
          exact kz_throwSW (pc := 47) (ik := 134) (is := 461) (ic := 138) (j := 1019) (text := "no such length") hG.1 hG.2.1 hG.2.2.1 (by decide +kernel) kz_xn kw_549 kw_19 (List.mem_of_getElem? (i := 19) rfl) kz_xw_IllegalArgumentException kz_xg_IllegalArgumentException rfl (by show 2 + 3 < _; omega) (by decide) (Nat.le_of_ble_eq_true rfl) h.1 h.2.1 dX11_checkSubmission_47 dX11_checkSubmission_50 dX11_checkSubmission_51 dX11_checkSubmission_54 dX11_checkSubmission_57 h.2.2
        · replace h := h.2 hb
          refine kz_iload_n (pc := 36) 3 (i := 3) rfl rfl dX11_checkSubmission_36 ?_
          refine kz_aload_n (pc := 37) 0 (v := .ref a0) (i := 0) rfl rfl rfl dX11_checkSubmission_37 ?_
          obtain ⟨fs7, v8, hM, hv, h⟩ := h
          refine kz_getf (pc := 38) (k := 0) kcX11 hM hv (by decide) kw_275 dX11_checkSubmission_38 ?_
          obtain ⟨fs9, v10, hM, hv, h⟩ := h
          refine kz_getf (pc := 41) (k := 1) kcX1 hM hv (by decide) kw_45 dX11_checkSubmission_41 ?_
          refine kz_icmp_le (pc := 44) (tgt := 58) (by decide) dX11_checkSubmission_44 (fun hb => ?_) (fun hb => ?_)
          · replace h := h.1 hb
            exact kz_vret (pc := 58) rfl hc3 hs3 dX11_checkSubmission_58 h
          · replace h := h.2 hb
            exact kz_throwSW (pc := 47) (ik := 134) (is := 461) (ic := 138) (j := 1019) (text := "no such length") hG.1 hG.2.1 hG.2.2.1 (by decide +kernel) kz_xn kw_549 kw_19 (List.mem_of_getElem? (i := 19) rfl) kz_xw_IllegalArgumentException kz_xg_IllegalArgumentException rfl (by show 2 + 3 < _; omega) (by decide) (Nat.le_of_ble_eq_true rfl) h.1 h.2.1 dX11_checkSubmission_47 dX11_checkSubmission_50 dX11_checkSubmission_51 dX11_checkSubmission_54 dX11_checkSubmission_57 h.2.2
    · replace h := h.2 hb
      exact kz_throwSW (pc := 14) (ik := 134) (is := 459) (ic := 138) (j := 1018) (text := "no such kind") hG.1 hG.2.1 hG.2.2.1 (by decide +kernel) kz_xn kw_549 kw_19 (List.mem_of_getElem? (i := 18) rfl) kz_xw_IllegalArgumentException kz_xg_IllegalArgumentException rfl (by show 2 + 3 < _; omega) (by decide) (Nat.le_of_ble_eq_true rfl) h.1 h.2.1 dX11_checkSubmission_14 dX11_checkSubmission_17 dX11_checkSubmission_18 dX11_checkSubmission_21 dX11_checkSubmission_24 h.2.2
theorem dX11_workOrThrow_0 : decode cX11_workOrThrow 0 = .ok (.aload_n 0, 1) := by decide +kernel
theorem dX11_workOrThrow_1 : decode cX11_workOrThrow 1 = .ok (.getfield 26, 3) := by decide +kernel
theorem dX11_workOrThrow_4 : decode cX11_workOrThrow 4 = .ok (.iload_n 1, 1) := by decide +kernel
theorem dX11_workOrThrow_5 : decode cX11_workOrThrow 5 = .ok (.invokevirtual 271, 3) := by decide +kernel
theorem dX11_workOrThrow_8 : decode cX11_workOrThrow 8 = .ok (.astore_n 2, 1) := by decide +kernel
theorem dX11_workOrThrow_9 : decode cX11_workOrThrow 9 = .ok (.aload_n 2, 1) := by decide +kernel
theorem dX11_workOrThrow_10 : decode cX11_workOrThrow 10 = .ok (.ifnonnull 14, 3) := by decide +kernel
theorem dX11_workOrThrow_13 : decode cX11_workOrThrow 13 = .ok (.new 232, 3) := by decide +kernel
theorem dX11_workOrThrow_16 : decode cX11_workOrThrow 16 = .ok (.dup, 1) := by decide +kernel
theorem dX11_workOrThrow_17 : decode cX11_workOrThrow 17 = .ok (.ldc_w 463, 3) := by decide +kernel
theorem dX11_workOrThrow_20 : decode cX11_workOrThrow 20 = .ok (.invokespecial 236, 3) := by decide +kernel
theorem dX11_workOrThrow_23 : decode cX11_workOrThrow 23 = .ok (.athrow, 1) := by decide +kernel
theorem dX11_workOrThrow_24 : decode cX11_workOrThrow 24 = .ok (.aload_n 2, 1) := by decide +kernel
theorem dX11_workOrThrow_25 : decode cX11_workOrThrow 25 = .ok (.areturn, 1) := by decide +kernel
theorem rX11_workOrThrow_0 {G : kz_G} {d : Nat} {mc ms : Nat} {Qr : Option Value → kz_M → Prop} {Qx : String → kz_M → Prop} {a0 : Nat} {p1 : Int32}  {M : kz_M} (hG : kz_stat G) (h : ∃ fs1 v2, (M).1 a0 = some (.inl (10, fs1)) ∧ fs1[2]? = some (.ref v2) ∧ ((∃ fs8, (M).1 v2 = some (.inl (8, fs8))) ∧ kz_C G (d + 6) 0 0 mX9_workAt [.ref v2, .int p1] M (fun v M3 => ∃ r4 : Option Nat, v = some (kz_rf r4) ∧ ((r4 = none → 0 + 1 ≤ mc ∧ 0 + 6 ≤ ms ∧ ∀ g7, Qx "java/lang/IndexOutOfBoundsException" ((M3).1, (M3).2 + g7)) ∧ (∀ y6, r4 = some y6 → Qr (some (.ref y6)) M3))) Qx)) : kz_C G (d + 7) mc ms mX11_workOrThrow [.ref a0, .int p1] M Qr Qx := by
  refine kz_enter (n := 1) kmX11_workOrThrow.1 (Nat.le_of_ble_eq_true rfl) (ls := [(0, .ref a0), (1, .int p1)]) rfl ?_
  refine kz_aload_n (pc := 0) 0 (v := .ref a0) (i := 0) rfl rfl rfl dX11_workOrThrow_0 ?_
  obtain ⟨fs1, v2, hM, hv, h⟩ := h
  refine kz_getf (pc := 1) (k := 2) kcX11 hM hv (by decide) kw_277 dX11_workOrThrow_1 ?_
  refine kz_iload_n (pc := 4) 1 (i := 1) rfl rfl dX11_workOrThrow_4 ?_
  obtain ⟨⟨fs8, he⟩, h⟩ := h
  refine kz_callV (pc := 5) (μ' := mX9_workAt) (ci := 8) (q := (RX9, TX9, 10)) (b := v2) (d' := d + 6) (mc' := 0) (ms' := 0) (As := [.int p1]) (st := []) (c := 0) (sl := 0) kmX9_workAt kw_748 (by omega) rfl (Nat.le_of_ble_eq_true rfl) he rfl rfl (Nat.zero_le _) (Nat.zero_le _) dX11_workOrThrow_5 (fun E M9 hx => kz_Tout rfl (Nat.zero_le _) (Nat.zero_le _) hx) (kz_Cmono (fun v M3 h => ?_) (fun _ _ h => h) h)
  obtain ⟨r4, rfl, h⟩ := h
  show kz_Z G (d + 7) mc ms mX11_workOrThrow Qr Qx 8 [(0, .ref a0), (1, .int p1)] [kz_rf r4] M3 0 0
  refine kz_astore_n (pc := 8) (i := 2) (v := kz_rf r4) (ls' := [(0, .ref a0), (1, .int p1)]) rfl (kz_isr_rf _) (by decide) rfl dX11_workOrThrow_8 ?_
  refine kz_aload_n (pc := 9) 0 (v := kz_rf r4) (i := 2) rfl rfl (kz_isr_rf _) dX11_workOrThrow_9 ?_
  rcases r4 with _ | y6
  · replace h := h.1 rfl
    refine kz_ifnonnull (pc := 10) (tgt := 24) rfl (by decide) dX11_workOrThrow_10 (fun hn => absurd rfl hn) (fun _ => ?_)
    exact kz_throwSW (pc := 13) (ik := 232) (is := 463) (ic := 236) (j := 1020) (text := "no such work") hG.1 hG.2.1 hG.2.2.1 (by decide +kernel) kz_xn kw_649 kw_20 (List.mem_of_getElem? (i := 20) rfl) kz_xw_IndexOutOfBoundsException kz_xg_IndexOutOfBoundsException rfl (by show 2 + 3 < _; omega) (by decide) (Nat.le_of_ble_eq_true rfl) h.1 h.2.1 dX11_workOrThrow_13 dX11_workOrThrow_16 dX11_workOrThrow_17 dX11_workOrThrow_20 dX11_workOrThrow_23 h.2.2
  · replace h := h.2 y6 rfl
    refine kz_ifnonnull (pc := 10) (tgt := 24) rfl (by decide) dX11_workOrThrow_10 (fun _ => ?_) (fun hn => by cases hn)
    refine kz_aload_n (pc := 24) 0 (v := .ref y6) (i := 2) rfl rfl rfl dX11_workOrThrow_24 ?_
    exact kz_aret (pc := 25) (v := .ref y6) rfl rfl (Or.inl ⟨_, rfl⟩) (Nat.zero_le _) (Nat.zero_le _) dX11_workOrThrow_25 h
theorem dX11_lineOrThrow_0 : decode cX11_lineOrThrow 0 = .ok (.aload_n 0, 1) := by decide +kernel
theorem dX11_lineOrThrow_1 : decode cX11_lineOrThrow 1 = .ok (.iload_n 1, 1) := by decide +kernel
theorem dX11_lineOrThrow_2 : decode cX11_lineOrThrow 2 = .ok (.invokevirtual 165, 3) := by decide +kernel
theorem dX11_lineOrThrow_5 : decode cX11_lineOrThrow 5 = .ok (.iload_n 2, 1) := by decide +kernel
theorem dX11_lineOrThrow_6 : decode cX11_lineOrThrow 6 = .ok (.invokevirtual 465, 3) := by decide +kernel
theorem dX11_lineOrThrow_9 : decode cX11_lineOrThrow 9 = .ok (.astore_n 3, 1) := by decide +kernel
theorem dX11_lineOrThrow_10 : decode cX11_lineOrThrow 10 = .ok (.aload_n 3, 1) := by decide +kernel
theorem dX11_lineOrThrow_11 : decode cX11_lineOrThrow 11 = .ok (.ifnonnull 14, 3) := by decide +kernel
theorem dX11_lineOrThrow_14 : decode cX11_lineOrThrow 14 = .ok (.new 232, 3) := by decide +kernel
theorem dX11_lineOrThrow_17 : decode cX11_lineOrThrow 17 = .ok (.dup, 1) := by decide +kernel
theorem dX11_lineOrThrow_18 : decode cX11_lineOrThrow 18 = .ok (.ldc_w 469, 3) := by decide +kernel
theorem dX11_lineOrThrow_21 : decode cX11_lineOrThrow 21 = .ok (.invokespecial 236, 3) := by decide +kernel
theorem dX11_lineOrThrow_24 : decode cX11_lineOrThrow 24 = .ok (.athrow, 1) := by decide +kernel
theorem dX11_lineOrThrow_25 : decode cX11_lineOrThrow 25 = .ok (.aload_n 3, 1) := by decide +kernel
theorem dX11_lineOrThrow_26 : decode cX11_lineOrThrow 26 = .ok (.areturn, 1) := by decide +kernel
theorem rX11_lineOrThrow_0 {G : kz_G} {d : Nat} {mc ms : Nat} {Qr : Option Value → kz_M → Prop} {Qx : String → kz_M → Prop} {a0 : Nat} {p1 : Int32} {p2 : Int32}  {M : kz_M} (hG : kz_stat G) (h : (∃ fs10, (M).1 a0 = some (.inl (10, fs10))) ∧ ∃ mc3 ms3, 0 + mc3 ≤ mc ∧ 0 + ms3 ≤ ms ∧ kz_C G (d + 7) mc3 ms3 mX11_workOrThrow [.ref a0, .int p1] M (fun v M1 => ∃ r2 : Nat, v = some (.ref r2) ∧ ((∃ fs9, (M1).1 r2 = some (.inl (9, fs9))) ∧ kz_C G (d + 7) 0 0 mX10_lineAt [.ref r2, .int p2] M1 (fun v M4 => ∃ r5 : Option Nat, v = some (kz_rf r5) ∧ ((r5 = none → 0 + mc3 + 1 ≤ mc ∧ 0 + ms3 + 6 ≤ ms ∧ ∀ g8, Qx "java/lang/IndexOutOfBoundsException" ((M4).1, (M4).2 + g8)) ∧ (∀ y7, r5 = some y7 → Qr (some (.ref y7)) M4))) Qx)) Qx) : kz_C G (d + 8) mc ms mX11_lineOrThrow [.ref a0, .int p1, .int p2] M Qr Qx := by
  refine kz_enter (n := 2) kmX11_lineOrThrow.1 (Nat.le_of_ble_eq_true rfl) (ls := [(0, .ref a0), (1, .int p1), (2, .int p2)]) rfl ?_
  refine kz_aload_n (pc := 0) 0 (v := .ref a0) (i := 0) rfl rfl rfl dX11_lineOrThrow_0 ?_
  refine kz_iload_n (pc := 1) 1 (i := 1) rfl rfl dX11_lineOrThrow_1 ?_
  obtain ⟨⟨fs10, he⟩, h⟩ := h
  obtain ⟨mc3, ms3, hc3, hs3, h⟩ := h
  refine kz_callV (pc := 2) (μ' := mX11_workOrThrow) (ci := 10) (q := (RX11, TX11, 10)) (b := a0) (d' := d + 7) (mc' := mc3) (ms' := ms3) (As := [.int p1]) (st := []) (c := 0) (sl := 0) kmX11_workOrThrow kw_744 (by omega) rfl (Nat.le_of_ble_eq_true rfl) he rfl rfl hc3 hs3 dX11_lineOrThrow_2 (fun E M9 hx => kz_Tout rfl hc3 hs3 hx) (kz_Cmono (fun v M1 h => ?_) (fun _ _ h => h) h)
  obtain ⟨r2, rfl, h⟩ := h
  show kz_Z G (d + 8) mc ms mX11_lineOrThrow Qr Qx 5 [(0, .ref a0), (1, .int p1), (2, .int p2)] [.ref r2] M1 (0 + mc3) (0 + ms3)
  refine kz_iload_n (pc := 5) 2 (i := 2) rfl rfl dX11_lineOrThrow_5 ?_
  obtain ⟨⟨fs9, he⟩, h⟩ := h
  refine kz_callV (pc := 6) (μ' := mX10_lineAt) (ci := 9) (q := (RX10, TX10, 4)) (b := r2) (d' := d + 7) (mc' := 0) (ms' := 0) (As := [.int p2]) (st := []) (c := 0 + mc3) (sl := 0 + ms3) kmX10_lineAt kw_774 (by omega) rfl (Nat.le_of_ble_eq_true rfl) he rfl rfl hc3 hs3 dX11_lineOrThrow_6 (fun E M9 hx => kz_Tout rfl hc3 hs3 hx) (kz_Cmono (fun v M4 h => ?_) (fun _ _ h => h) h)
  obtain ⟨r5, rfl, h⟩ := h
  show kz_Z G (d + 8) mc ms mX11_lineOrThrow Qr Qx 9 [(0, .ref a0), (1, .int p1), (2, .int p2)] [kz_rf r5] M4 (0 + mc3) (0 + ms3)
  refine kz_astore_n (pc := 9) (i := 3) (v := kz_rf r5) (ls' := [(0, .ref a0), (1, .int p1), (2, .int p2)]) rfl (kz_isr_rf _) (by decide) rfl dX11_lineOrThrow_9 ?_
  refine kz_aload_n (pc := 10) 0 (v := kz_rf r5) (i := 3) rfl rfl (kz_isr_rf _) dX11_lineOrThrow_10 ?_
  rcases r5 with _ | y7
  · replace h := h.1 rfl
    refine kz_ifnonnull (pc := 11) (tgt := 25) rfl (by decide) dX11_lineOrThrow_11 (fun hn => absurd rfl hn) (fun _ => ?_)
    exact kz_throwSW (pc := 14) (ik := 232) (is := 469) (ic := 236) (j := 1021) (text := "no such line") hG.1 hG.2.1 hG.2.2.1 (by decide +kernel) kz_xn kw_649 kw_20 (List.mem_of_getElem? (i := 21) rfl) kz_xw_IndexOutOfBoundsException kz_xg_IndexOutOfBoundsException rfl (by show 2 + 3 < _; omega) (by decide) (Nat.le_of_ble_eq_true rfl) h.1 h.2.1 dX11_lineOrThrow_14 dX11_lineOrThrow_17 dX11_lineOrThrow_18 dX11_lineOrThrow_21 dX11_lineOrThrow_24 h.2.2
  · replace h := h.2 y7 rfl
    refine kz_ifnonnull (pc := 11) (tgt := 25) rfl (by decide) dX11_lineOrThrow_11 (fun _ => ?_) (fun hn => by cases hn)
    refine kz_aload_n (pc := 25) 0 (v := .ref y7) (i := 3) rfl rfl rfl dX11_lineOrThrow_25 ?_
    exact kz_aret (pc := 26) (v := .ref y7) rfl rfl (Or.inl ⟨_, rfl⟩) hc3 hs3 dX11_lineOrThrow_26 h
theorem dX11_judged_0 : decode cX11_judged 0 = .ok (.new 170, 3) := by decide +kernel
theorem dX11_judged_3 : decode cX11_judged 3 = .ok (.dup, 1) := by decide +kernel
theorem dX11_judged_4 : decode cX11_judged 4 = .ok (.iload_n 2, 1) := by decide +kernel
theorem dX11_judged_5 : decode cX11_judged 5 = .ok (.aload_n 0, 1) := by decide +kernel
theorem dX11_judged_6 : decode cX11_judged 6 = .ok (.getfield 26, 3) := by decide +kernel
theorem dX11_judged_9 : decode cX11_judged 9 = .ok (.getfield 114, 3) := by decide +kernel
theorem dX11_judged_12 : decode cX11_judged 12 = .ok (.aload_n 1, 1) := by decide +kernel
theorem dX11_judged_13 : decode cX11_judged 13 = .ok (.aload_n 3, 1) := by decide +kernel
theorem dX11_judged_14 : decode cX11_judged 14 = .ok (.iconst 0, 1) := by decide +kernel
theorem dX11_judged_15 : decode cX11_judged 15 = .ok (.invokestatic 471, 3) := by decide +kernel
theorem dX11_judged_18 : decode cX11_judged 18 = .ok (.aload_n 3, 1) := by decide +kernel
theorem dX11_judged_19 : decode cX11_judged 19 = .ok (.bipush 7, 2) := by decide +kernel
theorem dX11_judged_21 : decode cX11_judged 21 = .ok (.aload_n 1, 1) := by decide +kernel
theorem dX11_judged_22 : decode cX11_judged 22 = .ok (.getfield 178, 3) := by decide +kernel
theorem dX11_judged_25 : decode cX11_judged 25 = .ok (.iadd, 1) := by decide +kernel
theorem dX11_judged_26 : decode cX11_judged 26 = .ok (.invokestatic 471, 3) := by decide +kernel
theorem dX11_judged_29 : decode cX11_judged 29 = .ok (.invokespecial 475, 3) := by decide +kernel
theorem dX11_judged_32 : decode cX11_judged 32 = .ok (.astore 5, 2) := by decide +kernel
theorem dX11_judged_34 : decode cX11_judged 34 = .ok (.aload_n 0, 1) := by decide +kernel
theorem dX11_judged_35 : decode cX11_judged 35 = .ok (.getfield 26, 3) := by decide +kernel
theorem dX11_judged_38 : decode cX11_judged 38 = .ok (.aload_n 0, 1) := by decide +kernel
theorem dX11_judged_39 : decode cX11_judged 39 = .ok (.getfield 50, 3) := by decide +kernel
theorem dX11_judged_42 : decode cX11_judged 42 = .ok (.iload_n 2, 1) := by decide +kernel
theorem dX11_judged_43 : decode cX11_judged 43 = .ok (.iload 4, 2) := by decide +kernel
theorem dX11_judged_45 : decode cX11_judged 45 = .ok (.invokevirtual 249, 3) := by decide +kernel
theorem dX11_judged_48 : decode cX11_judged 48 = .ok (.aload 5, 2) := by decide +kernel
theorem dX11_judged_50 : decode cX11_judged 50 = .ok (.getfield 478, 3) := by decide +kernel
theorem dX11_judged_53 : decode cX11_judged 53 = .ok (.astore 6, 2) := by decide +kernel
theorem dX11_judged_55 : decode cX11_judged 55 = .ok (.aload 6, 2) := by decide +kernel
theorem dX11_judged_57 : decode cX11_judged 57 = .ok (.arraylength, 1) := by decide +kernel
theorem dX11_judged_58 : decode cX11_judged 58 = .ok (.istore 7, 2) := by decide +kernel
theorem dX11_judged_60 : decode cX11_judged 60 = .ok (.iconst 0, 1) := by decide +kernel
theorem dX11_judged_61 : decode cX11_judged 61 = .ok (.istore 8, 2) := by decide +kernel
theorem dX11_judged_63 : decode cX11_judged 63 = .ok (.iload 8, 2) := by decide +kernel
theorem dX11_judged_65 : decode cX11_judged 65 = .ok (.iload 7, 2) := by decide +kernel
theorem dX11_judged_67 : decode cX11_judged 67 = .ok (.if_icmp .ge 54, 3) := by decide +kernel
theorem dX11_judged_70 : decode cX11_judged 70 = .ok (.aload 6, 2) := by decide +kernel
theorem dX11_judged_72 : decode cX11_judged 72 = .ok (.iload 8, 2) := by decide +kernel
theorem dX11_judged_74 : decode cX11_judged 74 = .ok (.aaload, 1) := by decide +kernel
theorem dX11_judged_75 : decode cX11_judged 75 = .ok (.astore 9, 2) := by decide +kernel
theorem dX11_judged_77 : decode cX11_judged 77 = .ok (.aload 9, 2) := by decide +kernel
theorem dX11_judged_79 : decode cX11_judged 79 = .ok (.ifnull 36, 3) := by decide +kernel
theorem dX11_judged_82 : decode cX11_judged 82 = .ok (.aload 9, 2) := by decide +kernel
theorem dX11_judged_84 : decode cX11_judged 84 = .ok (.aload_n 0, 1) := by decide +kernel
theorem dX11_judged_85 : decode cX11_judged 85 = .ok (.getfield 50, 3) := by decide +kernel
theorem dX11_judged_88 : decode cX11_judged 88 = .ok (.aload 9, 2) := by decide +kernel
theorem dX11_judged_90 : decode cX11_judged 90 = .ok (.aload_n 3, 1) := by decide +kernel
theorem dX11_judged_91 : decode cX11_judged 91 = .ok (.iconst 1, 1) := by decide +kernel
theorem dX11_judged_92 : decode cX11_judged 92 = .ok (.invokestatic 471, 3) := by decide +kernel
theorem dX11_judged_95 : decode cX11_judged 95 = .ok (.aload_n 3, 1) := by decide +kernel
theorem dX11_judged_96 : decode cX11_judged 96 = .ok (.iconst 2, 1) := by decide +kernel
theorem dX11_judged_97 : decode cX11_judged 97 = .ok (.invokestatic 471, 3) := by decide +kernel
theorem dX11_judged_100 : decode cX11_judged 100 = .ok (.invokevirtual 482, 3) := by decide +kernel
theorem dX11_judged_103 : decode cX11_judged 103 = .ok (.invokevirtual 486, 3) := by decide +kernel
theorem dX11_judged_106 : decode cX11_judged 106 = .ok (.aload_n 0, 1) := by decide +kernel
theorem dX11_judged_107 : decode cX11_judged 107 = .ok (.getfield 50, 3) := by decide +kernel
theorem dX11_judged_110 : decode cX11_judged 110 = .ok (.aload 9, 2) := by decide +kernel
theorem dX11_judged_112 : decode cX11_judged 112 = .ok (.invokevirtual 489, 3) := by decide +kernel
theorem dX11_judged_115 : decode cX11_judged 115 = .ok (.iinc 8 1, 3) := by decide +kernel
theorem dX11_judged_118 : decode cX11_judged 118 = .ok (.goto (-55), 3) := by decide +kernel
theorem dX11_judged_121 : decode cX11_judged 121 = .ok (.aload 5, 2) := by decide +kernel
theorem dX11_judged_123 : decode cX11_judged 123 = .ok (.areturn, 1) := by decide +kernel
def zX11_judged_63 (G : kz_G) (d mc ms : Nat) (Qr : Option Value → kz_M → Prop) (Qx : String → kz_M → Prop) (x0 : Nat) (x3 : Nat) (x5 : Nat) (x6 : Nat) (x7 : Int32) (x8 : Int32)  (M : kz_M) (c sl : Nat) : Prop := kz_Z G (d + 6) mc ms mX11_judged Qr Qx 63 [(0, .ref x0), (3, .ref x3), (5, .ref x5), (6, .ref x6), (7, .int x7), (8, .int x8)] [] M c sl
theorem rX11_judged_0 {G : kz_G} {d : Nat} {mc ms : Nat} {Qr : Option Value → kz_M → Prop} {Qx : String → kz_M → Prop} {a0 : Nat} {p1 : Nat} {p2 : Int32} {p3 : Nat} {p4 : Int32}  {M : kz_M} (h : 0 + 1 ≤ mc ∧ 0 + 4 ≤ ms ∧ (∃ fs2 v3, ((kz_nw M (.inl (9, [.int 0, .int 0, .null, .null])))).1 a0 = some (.inl (10, fs2)) ∧ fs2[2]? = some (.ref v3) ∧ (∃ fs4 v5, ((kz_nw M (.inl (9, [.int 0, .int 0, .null, .null])))).1 v3 = some (.inl (8, fs4)) ∧ fs4[0]? = some (.int v5) ∧ (kz_C G (d + 5) 0 0 mX11_at [.ref p3, .int 0] (kz_nw M (.inl (9, [.int 0, .int 0, .null, .null]))) (fun v M6 => ∃ r7 : Int32, v = some (.int r7) ∧ (∃ fs9 v10, (M6).1 p1 = some (.inl (6, fs9)) ∧ fs9[0]? = some (.int v10) ∧ (kz_C G (d + 5) 0 0 mX11_at [.ref p3, .int (7 + v10)] M6 (fun v M11 => ∃ r12 : Int32, v = some (.int r12) ∧ (∃ mc16 ms16, 0 + 1 + mc16 ≤ mc ∧ 0 + 4 + ms16 ≤ ms ∧ kz_C G (d + 5) mc16 ms16 mX10_init [.ref ((M).2), .int p2, .int v5, .ref p1, .int r7, .int r12] M11 (fun v M14 => v = none ∧ (∃ fs17 v18, (M14).1 a0 = some (.inl (10, fs17)) ∧ fs17[2]? = some (.ref v18) ∧ (∃ fs19 v20, (M14).1 a0 = some (.inl (10, fs19)) ∧ fs19[6]? = some (.ref v20) ∧ ((∃ fs28, (M14).1 v18 = some (.inl (8, fs28))) ∧ kz_C G (d + 5) 0 0 mX9_collect [.ref v18, .ref v20, .int p2, .int p4] M14 (fun v M21 => v = none ∧ (∃ fs24 v25, (M21).1 ((M).2) = some (.inl (9, fs24)) ∧ fs24[3]? = some (.ref v25) ∧ (∃ ty26 A27, (M21).1 v25 = some (.inr (ty26, A27)) ∧ (zX11_judged_63 G d mc ms Qr Qx a0 p3 ((M).2) v25 (Int32.ofNat A27.1) 0 M21 (0 + 1 + mc16) (0 + 4 + ms16))))) Qx)))) Qx)) Qx))) Qx)))) : kz_C G (d + 6) mc ms mX11_judged [.ref a0, .ref p1, .int p2, .ref p3, .int p4] M Qr Qx := by
  refine kz_enter (n := 4) kmX11_judged.1 (Nat.le_of_ble_eq_true rfl) (ls := [(0, .ref a0), (1, .ref p1), (2, .int p2), (3, .ref p3), (4, .int p4)]) rfl ?_
  obtain ⟨hc1, hs1, h⟩ := h
  refine kz_newc (pc := 0) kcX10 rfl kw_1015 kw_1016 kw_24 hc1 hs1 dX11_judged_0 ?_
  refine kz_dup (pc := 3) rfl dX11_judged_3 ?_
  refine kz_iload_n (pc := 4) 2 (i := 2) rfl rfl dX11_judged_4 ?_
  refine kz_aload_n (pc := 5) 0 (v := .ref a0) (i := 0) rfl rfl rfl dX11_judged_5 ?_
  obtain ⟨fs2, v3, hM, hv, h⟩ := h
  refine kz_getf (pc := 6) (k := 2) kcX11 hM hv (by decide) kw_277 dX11_judged_6 ?_
  obtain ⟨fs4, v5, hM, hv, h⟩ := h
  refine kz_getf (pc := 9) (k := 0) kcX9 hM hv (by decide) kw_101 dX11_judged_9 ?_
  refine kz_aload_n (pc := 12) 1 (v := .ref p1) (i := 1) rfl rfl rfl dX11_judged_12 ?_
  refine kz_aload_n (pc := 13) 3 (v := .ref p3) (i := 3) rfl rfl rfl dX11_judged_13 ?_
  refine kz_iconst (pc := 14) (v := 0) (by decide) dX11_judged_14 ?_
  refine kz_callS (pc := 15) (μ' := mX11_at) (d' := d + 5) (mc' := 0) (ms' := 0) (As := [.ref p3, .int 0]) (st := [.ref p1, .int v5, .int p2, .ref ((M).2), .ref ((M).2)]) (c := 0 + 1) (sl := 0 + 4) kmX11_at kw_1017 (by omega) rfl (Nat.le_of_ble_eq_true rfl) hc1 hs1 dX11_judged_15 (fun E M9 hx => kz_Tout rfl hc1 hs1 hx) (kz_Cmono (fun v M6 h => ?_) (fun _ _ h => h) h)
  obtain ⟨r7, rfl, h⟩ := h
  show kz_Z G (d + 6) mc ms mX11_judged Qr Qx 18 [(0, .ref a0), (1, .ref p1), (2, .int p2), (3, .ref p3), (4, .int p4)] [.int r7, .ref p1, .int v5, .int p2, .ref ((M).2), .ref ((M).2)] M6 (0 + 1) (0 + 4)
  refine kz_aload_n (pc := 18) 3 (v := .ref p3) (i := 3) rfl rfl rfl dX11_judged_18 ?_
  refine kz_bipush (pc := 19) (v := 7) (by decide) dX11_judged_19 ?_
  refine kz_aload_n (pc := 21) 1 (v := .ref p1) (i := 1) rfl rfl rfl dX11_judged_21 ?_
  obtain ⟨fs9, v10, hM, hv, h⟩ := h
  refine kz_getf (pc := 22) (k := 0) kcX6 hM hv (by decide) kw_995 dX11_judged_22 ?_
  refine kz_iadd (pc := 25) dX11_judged_25 ?_
  refine kz_callS (pc := 26) (μ' := mX11_at) (d' := d + 5) (mc' := 0) (ms' := 0) (As := [.ref p3, .int (7 + v10)]) (st := [.int r7, .ref p1, .int v5, .int p2, .ref ((M).2), .ref ((M).2)]) (c := 0 + 1) (sl := 0 + 4) kmX11_at kw_1017 (by omega) rfl (Nat.le_of_ble_eq_true rfl) hc1 hs1 dX11_judged_26 (fun E M9 hx => kz_Tout rfl hc1 hs1 hx) (kz_Cmono (fun v M11 h => ?_) (fun _ _ h => h) h)
  obtain ⟨r12, rfl, h⟩ := h
  show kz_Z G (d + 6) mc ms mX11_judged Qr Qx 29 [(0, .ref a0), (1, .ref p1), (2, .int p2), (3, .ref p3), (4, .int p4)] [.int r12, .int r7, .ref p1, .int v5, .int p2, .ref ((M).2), .ref ((M).2)] M11 (0 + 1) (0 + 4)
  obtain ⟨mc16, ms16, hc16, hs16, h⟩ := h
  refine kz_callI (pc := 29) (μ' := mX10_init) (b := (M).2) (d' := d + 5) (mc' := mc16) (ms' := ms16) (As := [.int p2, .int v5, .ref p1, .int r7, .int r12]) (st := [.ref ((M).2)]) (c := 0 + 1) (sl := 0 + 4) kmX10_init kw_1018 (by omega) rfl (Nat.le_of_ble_eq_true rfl) hc16 hs16 dX11_judged_29 (fun E M9 hx => kz_Tout rfl hc16 hs16 hx) (kz_Cmono (fun v M14 h => ?_) (fun _ _ h => h) h)
  obtain ⟨rfl, h⟩ := h
  show kz_Z G (d + 6) mc ms mX11_judged Qr Qx 32 [(0, .ref a0), (1, .ref p1), (2, .int p2), (3, .ref p3), (4, .int p4)] [.ref ((M).2)] M14 (0 + 1 + mc16) (0 + 4 + ms16)
  refine kz_astore (pc := 32) (i := 5) (v := .ref ((M).2)) (ls' := [(0, .ref a0), (1, .ref p1), (2, .int p2), (3, .ref p3), (4, .int p4)]) rfl (by decide) rfl dX11_judged_32 ?_
  refine kz_aload_n (pc := 34) 1 (v := .ref a0) (i := 0) rfl rfl rfl dX11_judged_34 ?_
  obtain ⟨fs17, v18, hM, hv, h⟩ := h
  refine kz_getf (pc := 35) (k := 2) kcX11 hM hv (by decide) kw_277 dX11_judged_35 ?_
  refine kz_aload_n (pc := 38) 1 (v := .ref a0) (i := 0) rfl rfl rfl dX11_judged_38 ?_
  obtain ⟨fs19, v20, hM, hv, h⟩ := h
  refine kz_getf (pc := 39) (k := 6) kcX11 hM hv (by decide) kw_281 dX11_judged_39 ?_
  refine kz_iload_n (pc := 42) 3 (i := 2) rfl rfl dX11_judged_42 ?_
  refine kz_iload (pc := 43) 5 (i := 4) rfl dX11_judged_43 ?_
  obtain ⟨⟨fs28, he⟩, h⟩ := h
  refine kz_callV (pc := 45) (μ' := mX9_collect) (ci := 8) (q := (RX9, TX9, 10)) (b := v18) (d' := d + 5) (mc' := 0) (ms' := 0) (As := [.ref v20, .int p2, .int p4]) (st := []) (c := 0 + 1 + mc16) (sl := 0 + 4 + ms16) kmX9_collect kw_681 (by omega) rfl (Nat.le_of_ble_eq_true rfl) he rfl rfl hc16 hs16 dX11_judged_45 (fun E M9 hx => kz_Tout rfl hc16 hs16 hx) (kz_Cmono (fun v M21 h => ?_) (fun _ _ h => h) h)
  obtain ⟨rfl, h⟩ := h
  show kz_Z G (d + 6) mc ms mX11_judged Qr Qx 48 [(5, .ref ((M).2)), (0, .ref a0), (1, .ref p1), (2, .int p2), (3, .ref p3), (4, .int p4)] [] M21 (0 + 1 + mc16) (0 + 4 + ms16)
  refine kz_aload (pc := 48) 0 (v := .ref ((M).2)) (i := 5) rfl rfl dX11_judged_48 ?_
  obtain ⟨fs24, v25, hM, hv, h⟩ := h
  refine kz_getf (pc := 50) (k := 3) kcX10 hM hv (by decide) kw_1079 dX11_judged_50 ?_
  refine kz_astore (pc := 53) (i := 6) (v := .ref v25) (ls' := [(5, .ref ((M).2)), (0, .ref a0), (1, .ref p1), (2, .int p2), (3, .ref p3), (4, .int p4)]) rfl (by decide) rfl dX11_judged_53 ?_
  refine kz_aload (pc := 55) 0 (v := .ref v25) (i := 6) rfl rfl dX11_judged_55 ?_
  obtain ⟨ty26, A27, hM, h⟩ := h
  refine kz_alen (pc := 57) hM rfl dX11_judged_57 ?_
  refine kz_istore (pc := 58) (i := 7) (ls' := [(6, .ref v25), (5, .ref ((M).2)), (0, .ref a0), (1, .ref p1), (2, .int p2), (3, .ref p3), (4, .int p4)]) (by decide) rfl dX11_judged_58 ?_
  refine kz_iconst (pc := 60) (v := 0) (by decide) dX11_judged_60 ?_
  refine kz_istore (pc := 61) (i := 8) (ls' := [(7, .int (Int32.ofNat A27.1)), (6, .ref v25), (5, .ref ((M).2)), (0, .ref a0), (1, .ref p1), (2, .int p2), (3, .ref p3), (4, .int p4)]) (by decide) rfl dX11_judged_61 ?_
  refine kz_sub [4, 7, 3, 2, 1, 0] rfl ?_
  exact h
theorem rX11_judged_63 {G : kz_G} {d : Nat} {mc ms : Nat} {Qr : Option Value → kz_M → Prop} {Qx : String → kz_M → Prop} {x0 : Nat} {x3 : Nat} {x5 : Nat} {x6 : Nat} {x7 : Int32} {x8 : Int32}  {M : kz_M} {c sl : Nat} (hc : c ≤ mc) (hs : sl ≤ ms) (h : (x7 ≤ x8 → Qr (some (.ref x5)) M) ∧ (¬ x7 ≤ x8 → ∃ n1 f2, (M).1 x6 = some (.inr (.object "LineOffice$Line", n1, .inr (.inr (.inr (.inr f2))))) ∧ vp_in x8 n1 ∧ (∀ o3 : Option Nat, f2 x8.toNatClampNeg = o3 → (o3 = none → zX11_judged_63 G d mc ms Qr Qx x0 x3 x5 x6 x7 (x8 + 1) M c sl) ∧ (∀ y4, o3 = some y4 → ∃ fs5 v6, (M).1 x0 = some (.inl (10, fs5)) ∧ fs5[6]? = some (.ref v6) ∧ (kz_C G (d + 5) 0 0 mX11_at [.ref x3, .int 1] M (fun v M7 => ∃ r8 : Int32, v = some (.int r8) ∧ (kz_C G (d + 5) 0 0 mX11_at [.ref x3, .int 2] M7 (fun v M10 => ∃ r11 : Int32, v = some (.int r11) ∧ ((∃ fs26, (M10).1 v6 = some (.inl (5, fs26))) ∧ kz_C G (d + 5) 0 0 mX5_reasonAgainst [.ref v6, .ref y4, .int r8, .int r11] M10 (fun v M13 => ∃ r14 : Int32, v = some (.int r14) ∧ ((∃ fs25, (M13).1 y4 = some (.inl (3, fs25))) ∧ kz_C G (d + 5) 0 0 mX3_judge [.ref y4, .int r14] M13 (fun v M16 => v = none ∧ (∃ fs19 v20, (M16).1 x0 = some (.inl (10, fs19)) ∧ fs19[6]? = some (.ref v20) ∧ ((∃ fs24, (M16).1 v20 = some (.inl (5, fs24))) ∧ kz_C G (d + 5) 0 0 mX5_addIfItCounts [.ref v20, .ref y4] M16 (fun v M21 => v = none ∧ (zX11_judged_63 G d mc ms Qr Qx x0 x3 x5 x6 x7 (x8 + 1) M21 c sl)) Qx))) Qx)) Qx)) Qx)) Qx))))) : zX11_judged_63 G d mc ms Qr Qx x0 x3 x5 x6 x7 x8  M c sl := by
  show kz_Z G (d + 6) mc ms mX11_judged Qr Qx 63 [(0, .ref x0), (3, .ref x3), (5, .ref x5), (6, .ref x6), (7, .int x7), (8, .int x8)] [] M c sl
  refine kz_iload (pc := 63) 5 (i := 8) rfl dX11_judged_63 ?_
  refine kz_iload (pc := 65) 4 (i := 7) rfl dX11_judged_65 ?_
  refine kz_icmp_ge (pc := 67) (tgt := 121) (by decide) dX11_judged_67 (fun hb => ?_) (fun hb => ?_)
  · replace h := h.1 hb
    refine kz_aload (pc := 121) 2 (v := .ref x5) (i := 5) rfl rfl dX11_judged_121 ?_
    exact kz_aret (pc := 123) (v := .ref x5) rfl rfl (Or.inl ⟨_, rfl⟩) hc hs dX11_judged_123 h
  · replace h := h.2 hb
    refine kz_aload (pc := 70) 3 (v := .ref x6) (i := 6) rfl rfl dX11_judged_70 ?_
    refine kz_iload (pc := 72) 5 (i := 8) rfl dX11_judged_72 ?_
    obtain ⟨n1, f2, hM, hi, h⟩ := h
    refine kz_aald (pc := 74) hM hi dX11_judged_74 ?_
    generalize ho : f2 x8.toNatClampNeg = o3 at h ⊢
    replace h := h _ rfl
    refine kz_astore (pc := 75) (i := 9) (v := kz_rf o3) (ls' := [(0, .ref x0), (3, .ref x3), (5, .ref x5), (6, .ref x6), (7, .int x7), (8, .int x8)]) (kz_isr_rf _) (by decide) rfl dX11_judged_75 ?_
    refine kz_aload (pc := 77) 0 (v := kz_rf o3) (i := 9) rfl (kz_isr_rf _) dX11_judged_77 ?_
    rcases o3 with _ | y4
    · replace h := h.1 rfl
      refine kz_ifnull (pc := 79) (tgt := 115) rfl (by decide) dX11_judged_79 (fun _ => ?_) (fun hn => absurd rfl hn)
      refine kz_iinc (pc := 115) 6 (i := 8) (v := x8 + 1) (ls' := [(9, .null), (0, .ref x0), (3, .ref x3), (5, .ref x5), (6, .ref x6), (7, .int x7)]) rfl (congrArg (fun z => x8 + z) (by decide)) (by decide) rfl dX11_judged_115 ?_
      refine kz_goto (pc := 118) (tgt := 63) (by decide) dX11_judged_118 ?_
      refine kz_sub [2, 3, 4, 5, 6, 0] rfl ?_
      exact h
    · replace h := h.2 y4 rfl
      refine kz_ifnull (pc := 79) (tgt := 115) rfl (by decide) dX11_judged_79 (fun hn => by cases hn) (fun _ => ?_)
      refine kz_aload (pc := 82) 0 (v := .ref y4) (i := 9) rfl rfl dX11_judged_82 ?_
      refine kz_aload_n (pc := 84) 1 (v := .ref x0) (i := 0) rfl rfl rfl dX11_judged_84 ?_
      obtain ⟨fs5, v6, hM, hv, h⟩ := h
      refine kz_getf (pc := 85) (k := 6) kcX11 hM hv (by decide) kw_281 dX11_judged_85 ?_
      refine kz_aload (pc := 88) 0 (v := .ref y4) (i := 9) rfl rfl dX11_judged_88 ?_
      refine kz_aload_n (pc := 90) 2 (v := .ref x3) (i := 3) rfl rfl rfl dX11_judged_90 ?_
      refine kz_iconst (pc := 91) (v := 1) (by decide) dX11_judged_91 ?_
      refine kz_callS (pc := 92) (μ' := mX11_at) (d' := d + 5) (mc' := 0) (ms' := 0) (As := [.ref x3, .int 1]) (st := [.ref y4, .ref v6, .ref y4]) (c := c) (sl := sl) kmX11_at kw_1017 (by omega) rfl (Nat.le_of_ble_eq_true rfl) hc hs dX11_judged_92 (fun E M9 hx => kz_Tout rfl hc hs hx) (kz_Cmono (fun v M7 h => ?_) (fun _ _ h => h) h)
      obtain ⟨r8, rfl, h⟩ := h
      show kz_Z G (d + 6) mc ms mX11_judged Qr Qx 95 [(9, .ref y4), (0, .ref x0), (3, .ref x3), (5, .ref x5), (6, .ref x6), (7, .int x7), (8, .int x8)] [.int r8, .ref y4, .ref v6, .ref y4] M7 c sl
      refine kz_aload_n (pc := 95) 2 (v := .ref x3) (i := 3) rfl rfl rfl dX11_judged_95 ?_
      refine kz_iconst (pc := 96) (v := 2) (by decide) dX11_judged_96 ?_
      refine kz_callS (pc := 97) (μ' := mX11_at) (d' := d + 5) (mc' := 0) (ms' := 0) (As := [.ref x3, .int 2]) (st := [.int r8, .ref y4, .ref v6, .ref y4]) (c := c) (sl := sl) kmX11_at kw_1017 (by omega) rfl (Nat.le_of_ble_eq_true rfl) hc hs dX11_judged_97 (fun E M9 hx => kz_Tout rfl hc hs hx) (kz_Cmono (fun v M10 h => ?_) (fun _ _ h => h) h)
      obtain ⟨r11, rfl, h⟩ := h
      show kz_Z G (d + 6) mc ms mX11_judged Qr Qx 100 [(9, .ref y4), (0, .ref x0), (3, .ref x3), (5, .ref x5), (6, .ref x6), (7, .int x7), (8, .int x8)] [.int r11, .int r8, .ref y4, .ref v6, .ref y4] M10 c sl
      obtain ⟨⟨fs26, he⟩, h⟩ := h
      refine kz_callV (pc := 100) (μ' := mX5_reasonAgainst) (ci := 5) (q := (RX5, TX5, 2)) (b := v6) (d' := d + 5) (mc' := 0) (ms' := 0) (As := [.ref y4, .int r8, .int r11]) (st := [.ref y4]) (c := c) (sl := sl) kmX5_reasonAgainst kw_1089 (by omega) rfl (Nat.le_of_ble_eq_true rfl) he rfl rfl hc hs dX11_judged_100 (fun E M9 hx => kz_Tout rfl hc hs hx) (kz_Cmono (fun v M13 h => ?_) (fun _ _ h => h) h)
      obtain ⟨r14, rfl, h⟩ := h
      show kz_Z G (d + 6) mc ms mX11_judged Qr Qx 103 [(9, .ref y4), (0, .ref x0), (3, .ref x3), (5, .ref x5), (6, .ref x6), (7, .int x7), (8, .int x8)] [.int r14, .ref y4] M13 c sl
      obtain ⟨⟨fs25, he⟩, h⟩ := h
      refine kz_callV (pc := 103) (μ' := mX3_judge) (ci := 3) (q := (RX3, TX3, 7)) (b := y4) (d' := d + 5) (mc' := 0) (ms' := 0) (As := [.int r14]) (st := []) (c := c) (sl := sl) kmX3_judge kw_1108 (by omega) rfl (Nat.le_of_ble_eq_true rfl) he rfl rfl hc hs dX11_judged_103 (fun E M9 hx => kz_Tout rfl hc hs hx) (kz_Cmono (fun v M16 h => ?_) (fun _ _ h => h) h)
      obtain ⟨rfl, h⟩ := h
      show kz_Z G (d + 6) mc ms mX11_judged Qr Qx 106 [(9, .ref y4), (0, .ref x0), (3, .ref x3), (5, .ref x5), (6, .ref x6), (7, .int x7), (8, .int x8)] [] M16 c sl
      refine kz_aload_n (pc := 106) 1 (v := .ref x0) (i := 0) rfl rfl rfl dX11_judged_106 ?_
      obtain ⟨fs19, v20, hM, hv, h⟩ := h
      refine kz_getf (pc := 107) (k := 6) kcX11 hM hv (by decide) kw_281 dX11_judged_107 ?_
      refine kz_aload (pc := 110) 0 (v := .ref y4) (i := 9) rfl rfl dX11_judged_110 ?_
      obtain ⟨⟨fs24, he⟩, h⟩ := h
      refine kz_callV (pc := 112) (μ' := mX5_addIfItCounts) (ci := 5) (q := (RX5, TX5, 2)) (b := v20) (d' := d + 5) (mc' := 0) (ms' := 0) (As := [.ref y4]) (st := []) (c := c) (sl := sl) kmX5_addIfItCounts kw_1112 (by omega) rfl (Nat.le_of_ble_eq_true rfl) he rfl rfl hc hs dX11_judged_112 (fun E M9 hx => kz_Tout rfl hc hs hx) (kz_Cmono (fun v M21 h => ?_) (fun _ _ h => h) h)
      obtain ⟨rfl, h⟩ := h
      show kz_Z G (d + 6) mc ms mX11_judged Qr Qx 115 [(9, .ref y4), (0, .ref x0), (3, .ref x3), (5, .ref x5), (6, .ref x6), (7, .int x7), (8, .int x8)] [] M21 c sl
      refine kz_iinc (pc := 115) 6 (i := 8) (v := x8 + 1) (ls' := [(9, .ref y4), (0, .ref x0), (3, .ref x3), (5, .ref x5), (6, .ref x6), (7, .int x7)]) rfl (congrArg (fun z => x8 + z) (by decide)) (by decide) rfl dX11_judged_115 ?_
      refine kz_goto (pc := 118) (tgt := 63) (by decide) dX11_judged_118 ?_
      refine kz_sub [2, 3, 4, 5, 6, 0] rfl ?_
      exact h
theorem dX11_payWith_0 : decode cX11_payWith 0 = .ok (.aload_n 1, 1) := by decide +kernel
theorem dX11_payWith_1 : decode cX11_payWith 1 = .ok (.iload_n 2, 1) := by decide +kernel
theorem dX11_payWith_2 : decode cX11_payWith 2 = .ok (.aload_n 0, 1) := by decide +kernel
theorem dX11_payWith_3 : decode cX11_payWith 3 = .ok (.getfield 26, 3) := by decide +kernel
theorem dX11_payWith_6 : decode cX11_payWith 6 = .ok (.bipush 7, 2) := by decide +kernel
theorem dX11_payWith_8 : decode cX11_payWith 8 = .ok (.aload_n 1, 1) := by decide +kernel
theorem dX11_payWith_9 : decode cX11_payWith 9 = .ok (.getfield 178, 3) := by decide +kernel
theorem dX11_payWith_12 : decode cX11_payWith 12 = .ok (.iadd, 1) := by decide +kernel
theorem dX11_payWith_13 : decode cX11_payWith 13 = .ok (.invokevirtual 144, 3) := by decide +kernel
theorem dX11_payWith_16 : decode cX11_payWith 16 = .ok (.invokevirtual 493, 3) := by decide +kernel
theorem dX11_payWith_19 : decode cX11_payWith 19 = .ok (.ireturn, 1) := by decide +kernel
theorem rX11_payWith_0 {G : kz_G} {d : Nat} {Qr : Option Value → kz_M → Prop} {Qx : String → kz_M → Prop} {a0 : Nat} {p1 : Nat} {p2 : Int32}  {M : kz_M} (h : ∃ fs1 v2, (M).1 a0 = some (.inl (10, fs1)) ∧ fs1[2]? = some (.ref v2) ∧ (∃ fs3 v4, (M).1 p1 = some (.inl (6, fs3)) ∧ fs3[0]? = some (.int v4) ∧ ((∃ fs12, (M).1 v2 = some (.inl (8, fs12))) ∧ kz_C G (d + 3) 0 0 mX9_rule [.ref v2, .int (7 + v4)] M (fun v M5 => ∃ r6 : Int32, v = some (.int r6) ∧ ((∃ fs11, (M5).1 p1 = some (.inl (6, fs11))) ∧ kz_C G (d + 3) 0 0 mX6_payBy [.ref p1, .int p2, .int r6] M5 (fun v M8 => ∃ r9 : Int32, v = some (.int r9) ∧ (Qr (some (.int r9)) M8)) Qx)) Qx))) : kz_C G (d + 4) 0 0 mX11_payWith [.ref a0, .ref p1, .int p2] M Qr Qx := by
  refine kz_enter (n := 2) kmX11_payWith.1 (Nat.le_of_ble_eq_true rfl) (ls := [(0, .ref a0), (1, .ref p1), (2, .int p2)]) rfl ?_
  refine kz_aload_n (pc := 0) 1 (v := .ref p1) (i := 1) rfl rfl rfl dX11_payWith_0 ?_
  refine kz_iload_n (pc := 1) 2 (i := 2) rfl rfl dX11_payWith_1 ?_
  refine kz_aload_n (pc := 2) 0 (v := .ref a0) (i := 0) rfl rfl rfl dX11_payWith_2 ?_
  obtain ⟨fs1, v2, hM, hv, h⟩ := h
  refine kz_getf (pc := 3) (k := 2) kcX11 hM hv (by decide) kw_277 dX11_payWith_3 ?_
  refine kz_bipush (pc := 6) (v := 7) (by decide) dX11_payWith_6 ?_
  refine kz_aload_n (pc := 8) 1 (v := .ref p1) (i := 1) rfl rfl rfl dX11_payWith_8 ?_
  obtain ⟨fs3, v4, hM, hv, h⟩ := h
  refine kz_getf (pc := 9) (k := 0) kcX6 hM hv (by decide) kw_995 dX11_payWith_9 ?_
  refine kz_iadd (pc := 12) dX11_payWith_12 ?_
  obtain ⟨⟨fs12, he⟩, h⟩ := h
  refine kz_callV (pc := 13) (μ' := mX9_rule) (ci := 8) (q := (RX9, TX9, 10)) (b := v2) (d' := d + 3) (mc' := 0) (ms' := 0) (As := [.int (7 + v4)]) (st := [.int p2, .ref p1]) (c := 0) (sl := 0) kmX9_rule kw_629 (by omega) rfl (Nat.le_of_ble_eq_true rfl) he rfl rfl (Nat.le_refl _) (Nat.le_refl _) dX11_payWith_13 (fun E M9 hx => kz_Tout rfl (Nat.le_refl _) (Nat.le_refl _) hx) (kz_Cmono (fun v M5 h => ?_) (fun _ _ h => h) h)
  obtain ⟨r6, rfl, h⟩ := h
  show kz_Z G (d + 4) 0 0 mX11_payWith Qr Qx 16 [(0, .ref a0), (1, .ref p1), (2, .int p2)] [.int r6, .int p2, .ref p1] M5 0 0
  obtain ⟨⟨fs11, he⟩, h⟩ := h
  refine kz_callV (pc := 16) (μ' := mX6_payBy) (ci := 6) (q := (RX6, TX6, 3)) (b := p1) (d' := d + 3) (mc' := 0) (ms' := 0) (As := [.int p2, .int r6]) (st := []) (c := 0) (sl := 0) kmX6_payBy kw_947 (by omega) rfl (Nat.le_of_ble_eq_true rfl) he rfl rfl (Nat.le_refl _) (Nat.le_refl _) dX11_payWith_16 (fun E M9 hx => kz_Tout rfl (Nat.le_refl _) (Nat.le_refl _) hx) (kz_Cmono (fun v M8 h => ?_) (fun _ _ h => h) h)
  obtain ⟨r9, rfl, h⟩ := h
  show kz_Z G (d + 4) 0 0 mX11_payWith Qr Qx 19 [(0, .ref a0), (1, .ref p1), (2, .int p2)] [.int r9] M8 0 0
  exact kz_iret (pc := 19) rfl (Nat.le_refl _) (Nat.le_refl _) dX11_payWith_19 h
theorem dX11_wordsInLines_0 : decode cX11_wordsInLines 0 = .ok (.aload_n 0, 1) := by decide +kernel
theorem dX11_wordsInLines_1 : decode cX11_wordsInLines 1 = .ok (.getfield 26, 3) := by decide +kernel
theorem dX11_wordsInLines_4 : decode cX11_wordsInLines 4 = .ok (.aload_n 0, 1) := by decide +kernel
theorem dX11_wordsInLines_5 : decode cX11_wordsInLines 5 = .ok (.getfield 50, 3) := by decide +kernel
theorem dX11_wordsInLines_8 : decode cX11_wordsInLines 8 = .ok (.iload_n 1, 1) := by decide +kernel
theorem dX11_wordsInLines_9 : decode cX11_wordsInLines 9 = .ok (.aload_n 0, 1) := by decide +kernel
theorem dX11_wordsInLines_10 : decode cX11_wordsInLines 10 = .ok (.getfield 26, 3) := by decide +kernel
theorem dX11_wordsInLines_13 : decode cX11_wordsInLines 13 = .ok (.getfield 105, 3) := by decide +kernel
theorem dX11_wordsInLines_16 : decode cX11_wordsInLines 16 = .ok (.invokevirtual 249, 3) := by decide +kernel
theorem dX11_wordsInLines_19 : decode cX11_wordsInLines 19 = .ok (.iconst 0, 1) := by decide +kernel
theorem dX11_wordsInLines_20 : decode cX11_wordsInLines 20 = .ok (.istore_n 3, 1) := by decide +kernel
theorem dX11_wordsInLines_21 : decode cX11_wordsInLines 21 = .ok (.iconst 0, 1) := by decide +kernel
theorem dX11_wordsInLines_22 : decode cX11_wordsInLines 22 = .ok (.istore 4, 2) := by decide +kernel
theorem dX11_wordsInLines_24 : decode cX11_wordsInLines 24 = .ok (.iload 4, 2) := by decide +kernel
theorem dX11_wordsInLines_26 : decode cX11_wordsInLines 26 = .ok (.aload_n 0, 1) := by decide +kernel
theorem dX11_wordsInLines_27 : decode cX11_wordsInLines 27 = .ok (.getfield 26, 3) := by decide +kernel
theorem dX11_wordsInLines_30 : decode cX11_wordsInLines 30 = .ok (.getfield 105, 3) := by decide +kernel
theorem dX11_wordsInLines_33 : decode cX11_wordsInLines 33 = .ok (.if_icmp .ge 122, 3) := by decide +kernel
theorem dX11_wordsInLines_36 : decode cX11_wordsInLines 36 = .ok (.aload_n 0, 1) := by decide +kernel
theorem dX11_wordsInLines_37 : decode cX11_wordsInLines 37 = .ok (.getfield 26, 3) := by decide +kernel
theorem dX11_wordsInLines_40 : decode cX11_wordsInLines 40 = .ok (.iload_n 1, 1) := by decide +kernel
theorem dX11_wordsInLines_41 : decode cX11_wordsInLines 41 = .ok (.iload 4, 2) := by decide +kernel
theorem dX11_wordsInLines_43 : decode cX11_wordsInLines 43 = .ok (.invokevirtual 224, 3) := by decide +kernel
theorem dX11_wordsInLines_46 : decode cX11_wordsInLines 46 = .ok (.astore 5, 2) := by decide +kernel
theorem dX11_wordsInLines_48 : decode cX11_wordsInLines 48 = .ok (.iconst 0, 1) := by decide +kernel
theorem dX11_wordsInLines_49 : decode cX11_wordsInLines 49 = .ok (.istore 6, 2) := by decide +kernel
theorem dX11_wordsInLines_51 : decode cX11_wordsInLines 51 = .ok (.aload 5, 2) := by decide +kernel
theorem dX11_wordsInLines_53 : decode cX11_wordsInLines 53 = .ok (.ifnull 96, 3) := by decide +kernel
theorem dX11_wordsInLines_56 : decode cX11_wordsInLines 56 = .ok (.iload 6, 2) := by decide +kernel
theorem dX11_wordsInLines_58 : decode cX11_wordsInLines 58 = .ok (.aload 5, 2) := by decide +kernel
theorem dX11_wordsInLines_60 : decode cX11_wordsInLines 60 = .ok (.getfield 174, 3) := by decide +kernel
theorem dX11_wordsInLines_63 : decode cX11_wordsInLines 63 = .ok (.invokevirtual 184, 3) := by decide +kernel
theorem dX11_wordsInLines_66 : decode cX11_wordsInLines 66 = .ok (.if_icmp .ge 83, 3) := by decide +kernel
theorem dX11_wordsInLines_69 : decode cX11_wordsInLines 69 = .ok (.aload 5, 2) := by decide +kernel
theorem dX11_wordsInLines_71 : decode cX11_wordsInLines 71 = .ok (.getfield 174, 3) := by decide +kernel
theorem dX11_wordsInLines_74 : decode cX11_wordsInLines 74 = .ok (.iload 6, 2) := by decide +kernel
theorem dX11_wordsInLines_76 : decode cX11_wordsInLines 76 = .ok (.invokevirtual 237, 3) := by decide +kernel
theorem dX11_wordsInLines_79 : decode cX11_wordsInLines 79 = .ok (.lstore 7, 2) := by decide +kernel
theorem dX11_wordsInLines_81 : decode cX11_wordsInLines 81 = .ok (.aload 5, 2) := by decide +kernel
theorem dX11_wordsInLines_83 : decode cX11_wordsInLines 83 = .ok (.getfield 174, 3) := by decide +kernel
theorem dX11_wordsInLines_86 : decode cX11_wordsInLines 86 = .ok (.iconst 0, 1) := by decide +kernel
theorem dX11_wordsInLines_87 : decode cX11_wordsInLines 87 = .ok (.iload 6, 2) := by decide +kernel
theorem dX11_wordsInLines_89 : decode cX11_wordsInLines 89 = .ok (.invokevirtual 256, 3) := by decide +kernel
theorem dX11_wordsInLines_92 : decode cX11_wordsInLines 92 = .ok (.ifCond .eq 22, 3) := by decide +kernel
theorem dX11_wordsInLines_95 : decode cX11_wordsInLines 95 = .ok (.aload_n 0, 1) := by decide +kernel
theorem dX11_wordsInLines_96 : decode cX11_wordsInLines 96 = .ok (.getfield 26, 3) := by decide +kernel
theorem dX11_wordsInLines_99 : decode cX11_wordsInLines 99 = .ok (.lload 7, 2) := by decide +kernel
theorem dX11_wordsInLines_101 : decode cX11_wordsInLines 101 = .ok (.iload_n 1, 1) := by decide +kernel
theorem dX11_wordsInLines_102 : decode cX11_wordsInLines 102 = .ok (.iload 4, 2) := by decide +kernel
theorem dX11_wordsInLines_104 : decode cX11_wordsInLines 104 = .ok (.invokevirtual 264, 3) := by decide +kernel
theorem dX11_wordsInLines_107 : decode cX11_wordsInLines 107 = .ok (.ifCond .ne 7, 3) := by decide +kernel
theorem dX11_wordsInLines_110 : decode cX11_wordsInLines 110 = .ok (.iconst 1, 1) := by decide +kernel
theorem dX11_wordsInLines_111 : decode cX11_wordsInLines 111 = .ok (.goto 4, 3) := by decide +kernel
theorem dX11_wordsInLines_114 : decode cX11_wordsInLines 114 = .ok (.iconst 0, 1) := by decide +kernel
theorem dX11_wordsInLines_115 : decode cX11_wordsInLines 115 = .ok (.istore 9, 2) := by decide +kernel
theorem dX11_wordsInLines_117 : decode cX11_wordsInLines 117 = .ok (.iload_n 3, 1) := by decide +kernel
theorem dX11_wordsInLines_118 : decode cX11_wordsInLines 118 = .ok (.iload 9, 2) := by decide +kernel
theorem dX11_wordsInLines_120 : decode cX11_wordsInLines 120 = .ok (.ifCond .eq 20, 3) := by decide +kernel
theorem dX11_wordsInLines_123 : decode cX11_wordsInLines 123 = .ok (.aload_n 0, 1) := by decide +kernel
theorem dX11_wordsInLines_124 : decode cX11_wordsInLines 124 = .ok (.getfield 50, 3) := by decide +kernel
theorem dX11_wordsInLines_127 : decode cX11_wordsInLines 127 = .ok (.lload 7, 2) := by decide +kernel
theorem dX11_wordsInLines_129 : decode cX11_wordsInLines 129 = .ok (.invokevirtual 253, 3) := by decide +kernel
theorem dX11_wordsInLines_132 : decode cX11_wordsInLines 132 = .ok (.iload_n 2, 1) := by decide +kernel
theorem dX11_wordsInLines_133 : decode cX11_wordsInLines 133 = .ok (.if_icmp .lt 7, 3) := by decide +kernel
theorem dX11_wordsInLines_136 : decode cX11_wordsInLines 136 = .ok (.iconst 1, 1) := by decide +kernel
theorem dX11_wordsInLines_137 : decode cX11_wordsInLines 137 = .ok (.goto 4, 3) := by decide +kernel
theorem dX11_wordsInLines_140 : decode cX11_wordsInLines 140 = .ok (.iconst 0, 1) := by decide +kernel
theorem dX11_wordsInLines_141 : decode cX11_wordsInLines 141 = .ok (.iadd, 1) := by decide +kernel
theorem dX11_wordsInLines_142 : decode cX11_wordsInLines 142 = .ok (.istore_n 3, 1) := by decide +kernel
theorem dX11_wordsInLines_143 : decode cX11_wordsInLines 143 = .ok (.iinc 6 1, 3) := by decide +kernel
theorem dX11_wordsInLines_146 : decode cX11_wordsInLines 146 = .ok (.goto (-95), 3) := by decide +kernel
theorem dX11_wordsInLines_149 : decode cX11_wordsInLines 149 = .ok (.iinc 4 1, 3) := by decide +kernel
theorem dX11_wordsInLines_152 : decode cX11_wordsInLines 152 = .ok (.goto (-128), 3) := by decide +kernel
theorem dX11_wordsInLines_155 : decode cX11_wordsInLines 155 = .ok (.iload_n 3, 1) := by decide +kernel
theorem dX11_wordsInLines_156 : decode cX11_wordsInLines 156 = .ok (.ireturn, 1) := by decide +kernel
def zX11_wordsInLines_24 (G : kz_G) (d : Nat) (Qr : Option Value → kz_M → Prop) (Qx : String → kz_M → Prop) (x0 : Nat) (x1 : Int32) (x2 : Int32) (x3 : Int32) (x4 : Int32)  (M : kz_M) : Prop := kz_Z G (d + 4) 0 0 mX11_wordsInLines Qr Qx 24 [(0, .ref x0), (1, .int x1), (2, .int x2), (3, .int x3), (4, .int x4)] [] M 0 0
def zX11_wordsInLines_51 (G : kz_G) (d : Nat) (Qr : Option Value → kz_M → Prop) (Qx : String → kz_M → Prop) (x0 : Nat) (x1 : Int32) (x2 : Int32) (x3 : Int32) (x4 : Int32) (x5 : Option Nat) (x6 : Int32)  (M : kz_M) : Prop := kz_Z G (d + 4) 0 0 mX11_wordsInLines Qr Qx 51 [(0, .ref x0), (1, .int x1), (2, .int x2), (3, .int x3), (4, .int x4), (5, kz_rf x5), (6, .int x6)] [] M 0 0
theorem rX11_wordsInLines_0 {G : kz_G} {d : Nat} {Qr : Option Value → kz_M → Prop} {Qx : String → kz_M → Prop} {a0 : Nat} {p1 : Int32} {p2 : Int32}  {M : kz_M} (h : ∃ fs1 v2, (M).1 a0 = some (.inl (10, fs1)) ∧ fs1[2]? = some (.ref v2) ∧ (∃ fs3 v4, (M).1 a0 = some (.inl (10, fs3)) ∧ fs3[6]? = some (.ref v4) ∧ (∃ fs5 v6, (M).1 a0 = some (.inl (10, fs5)) ∧ fs5[2]? = some (.ref v6) ∧ (∃ fs7 v8, (M).1 v6 = some (.inl (8, fs7)) ∧ fs7[3]? = some (.int v8) ∧ ((∃ fs12, (M).1 v2 = some (.inl (8, fs12))) ∧ kz_C G (d + 3) 0 0 mX9_collect [.ref v2, .ref v4, .int p1, .int v8] M (fun v M9 => v = none ∧ (zX11_wordsInLines_24 G d Qr Qx a0 p1 p2 0 0 M9)) Qx))))) : kz_C G (d + 4) 0 0 mX11_wordsInLines [.ref a0, .int p1, .int p2] M Qr Qx := by
  refine kz_enter (n := 2) kmX11_wordsInLines.1 (Nat.le_of_ble_eq_true rfl) (ls := [(0, .ref a0), (1, .int p1), (2, .int p2)]) rfl ?_
  refine kz_aload_n (pc := 0) 0 (v := .ref a0) (i := 0) rfl rfl rfl dX11_wordsInLines_0 ?_
  obtain ⟨fs1, v2, hM, hv, h⟩ := h
  refine kz_getf (pc := 1) (k := 2) kcX11 hM hv (by decide) kw_277 dX11_wordsInLines_1 ?_
  refine kz_aload_n (pc := 4) 0 (v := .ref a0) (i := 0) rfl rfl rfl dX11_wordsInLines_4 ?_
  obtain ⟨fs3, v4, hM, hv, h⟩ := h
  refine kz_getf (pc := 5) (k := 6) kcX11 hM hv (by decide) kw_281 dX11_wordsInLines_5 ?_
  refine kz_iload_n (pc := 8) 1 (i := 1) rfl rfl dX11_wordsInLines_8 ?_
  refine kz_aload_n (pc := 9) 0 (v := .ref a0) (i := 0) rfl rfl rfl dX11_wordsInLines_9 ?_
  obtain ⟨fs5, v6, hM, hv, h⟩ := h
  refine kz_getf (pc := 10) (k := 2) kcX11 hM hv (by decide) kw_277 dX11_wordsInLines_10 ?_
  obtain ⟨fs7, v8, hM, hv, h⟩ := h
  refine kz_getf (pc := 13) (k := 3) kcX9 hM hv (by decide) kw_109 dX11_wordsInLines_13 ?_
  obtain ⟨⟨fs12, he⟩, h⟩ := h
  refine kz_callV (pc := 16) (μ' := mX9_collect) (ci := 8) (q := (RX9, TX9, 10)) (b := v2) (d' := d + 3) (mc' := 0) (ms' := 0) (As := [.ref v4, .int p1, .int v8]) (st := []) (c := 0) (sl := 0) kmX9_collect kw_681 (by omega) rfl (Nat.le_of_ble_eq_true rfl) he rfl rfl (Nat.le_refl _) (Nat.le_refl _) dX11_wordsInLines_16 (fun E M9 hx => kz_Tout rfl (Nat.le_refl _) (Nat.le_refl _) hx) (kz_Cmono (fun v M9 h => ?_) (fun _ _ h => h) h)
  obtain ⟨rfl, h⟩ := h
  show kz_Z G (d + 4) 0 0 mX11_wordsInLines Qr Qx 19 [(0, .ref a0), (1, .int p1), (2, .int p2)] [] M9 0 0
  refine kz_iconst (pc := 19) (v := 0) (by decide) dX11_wordsInLines_19 ?_
  refine kz_istore_n (pc := 20) (i := 3) (ls' := [(0, .ref a0), (1, .int p1), (2, .int p2)]) rfl (by decide) rfl dX11_wordsInLines_20 ?_
  refine kz_iconst (pc := 21) (v := 0) (by decide) dX11_wordsInLines_21 ?_
  refine kz_istore (pc := 22) (i := 4) (ls' := [(3, .int 0), (0, .ref a0), (1, .int p1), (2, .int p2)]) (by decide) rfl dX11_wordsInLines_22 ?_
  refine kz_sub [2, 3, 4, 1, 0] rfl ?_
  exact h
theorem rX11_wordsInLines_24 {G : kz_G} {d : Nat} {Qr : Option Value → kz_M → Prop} {Qx : String → kz_M → Prop} {x0 : Nat} {x1 : Int32} {x2 : Int32} {x3 : Int32} {x4 : Int32}  {M : kz_M} (h : ∃ fs1 v2, (M).1 x0 = some (.inl (10, fs1)) ∧ fs1[2]? = some (.ref v2) ∧ (∃ fs3 v4, (M).1 v2 = some (.inl (8, fs3)) ∧ fs3[3]? = some (.int v4) ∧ ((v4 ≤ x4 → Qr (some (.int x3)) M) ∧ (¬ v4 ≤ x4 → ∃ fs5 v6, (M).1 x0 = some (.inl (10, fs5)) ∧ fs5[2]? = some (.ref v6) ∧ ((∃ fs10, (M).1 v6 = some (.inl (8, fs10))) ∧ kz_C G (d + 3) 0 0 mX9_workOf [.ref v6, .int x1, .int x4] M (fun v M7 => ∃ r8 : Option Nat, v = some (kz_rf r8) ∧ (zX11_wordsInLines_51 G d Qr Qx x0 x1 x2 x3 x4 r8 0 M7)) Qx))))) : zX11_wordsInLines_24 G d Qr Qx x0 x1 x2 x3 x4  M := by
  show kz_Z G (d + 4) 0 0 mX11_wordsInLines Qr Qx 24 [(0, .ref x0), (1, .int x1), (2, .int x2), (3, .int x3), (4, .int x4)] [] M 0 0
  refine kz_iload (pc := 24) 4 (i := 4) rfl dX11_wordsInLines_24 ?_
  refine kz_aload_n (pc := 26) 0 (v := .ref x0) (i := 0) rfl rfl rfl dX11_wordsInLines_26 ?_
  obtain ⟨fs1, v2, hM, hv, h⟩ := h
  refine kz_getf (pc := 27) (k := 2) kcX11 hM hv (by decide) kw_277 dX11_wordsInLines_27 ?_
  obtain ⟨fs3, v4, hM, hv, h⟩ := h
  refine kz_getf (pc := 30) (k := 3) kcX9 hM hv (by decide) kw_109 dX11_wordsInLines_30 ?_
  refine kz_icmp_ge (pc := 33) (tgt := 155) (by decide) dX11_wordsInLines_33 (fun hb => ?_) (fun hb => ?_)
  · replace h := h.1 hb
    refine kz_iload_n (pc := 155) 3 (i := 3) rfl rfl dX11_wordsInLines_155 ?_
    exact kz_iret (pc := 156) rfl (Nat.le_refl _) (Nat.le_refl _) dX11_wordsInLines_156 h
  · replace h := h.2 hb
    refine kz_aload_n (pc := 36) 0 (v := .ref x0) (i := 0) rfl rfl rfl dX11_wordsInLines_36 ?_
    obtain ⟨fs5, v6, hM, hv, h⟩ := h
    refine kz_getf (pc := 37) (k := 2) kcX11 hM hv (by decide) kw_277 dX11_wordsInLines_37 ?_
    refine kz_iload_n (pc := 40) 1 (i := 1) rfl rfl dX11_wordsInLines_40 ?_
    refine kz_iload (pc := 41) 4 (i := 4) rfl dX11_wordsInLines_41 ?_
    obtain ⟨⟨fs10, he⟩, h⟩ := h
    refine kz_callV (pc := 43) (μ' := mX9_workOf) (ci := 8) (q := (RX9, TX9, 10)) (b := v6) (d' := d + 3) (mc' := 0) (ms' := 0) (As := [.int x1, .int x4]) (st := []) (c := 0) (sl := 0) kmX9_workOf kw_702 (by omega) rfl (Nat.le_of_ble_eq_true rfl) he rfl rfl (Nat.le_refl _) (Nat.le_refl _) dX11_wordsInLines_43 (fun E M9 hx => kz_Tout rfl (Nat.le_refl _) (Nat.le_refl _) hx) (kz_Cmono (fun v M7 h => ?_) (fun _ _ h => h) h)
    obtain ⟨r8, rfl, h⟩ := h
    show kz_Z G (d + 4) 0 0 mX11_wordsInLines Qr Qx 46 [(0, .ref x0), (1, .int x1), (2, .int x2), (3, .int x3), (4, .int x4)] [kz_rf r8] M7 0 0
    refine kz_astore (pc := 46) (i := 5) (v := kz_rf r8) (ls' := [(0, .ref x0), (1, .int x1), (2, .int x2), (3, .int x3), (4, .int x4)]) (kz_isr_rf _) (by decide) rfl dX11_wordsInLines_46 ?_
    refine kz_iconst (pc := 48) (v := 0) (by decide) dX11_wordsInLines_48 ?_
    refine kz_istore (pc := 49) (i := 6) (ls' := [(5, kz_rf r8), (0, .ref x0), (1, .int x1), (2, .int x2), (3, .int x3), (4, .int x4)]) (by decide) (by simp [kz_s1, kz_s2, kz_cat_rf]) dX11_wordsInLines_49 ?_
    refine kz_sub [2, 3, 4, 5, 6, 1, 0] rfl ?_
    exact h
theorem rX11_wordsInLines_51 {G : kz_G} {d : Nat} {Qr : Option Value → kz_M → Prop} {Qx : String → kz_M → Prop} {x0 : Nat} {x1 : Int32} {x2 : Int32} {x3 : Int32} {x4 : Int32} {x5 : Option Nat} {x6 : Int32}  {M : kz_M} (h : (x5 = none → zX11_wordsInLines_24 G d Qr Qx x0 x1 x2 x3 (x4 + 1) M) ∧ (∀ y1, x5 = some y1 → ∃ fs2 v3, (M).1 y1 = some (.inl (9, fs2)) ∧ fs2[2]? = some (.ref v3) ∧ ((∃ fs43, (M).1 v3 = some (.inl (6, fs43))) ∧ kz_C G (d + 3) 0 0 mX6_size [.ref v3] M (fun v M4 => ∃ r5 : Int32, v = some (.int r5) ∧ ((r5 ≤ x6 → zX11_wordsInLines_24 G d Qr Qx x0 x1 x2 x3 (x4 + 1) M4) ∧ (¬ r5 ≤ x6 → ∃ fs7 v8, (M4).1 y1 = some (.inl (9, fs7)) ∧ fs7[2]? = some (.ref v8) ∧ ((∃ fs42, (M4).1 v8 = some (.inl (6, fs42))) ∧ kz_C G (d + 3) 0 0 mX6_wordAt [.ref v8, .int x6] M4 (fun v M9 => ∃ r10 : Int64, v = some (.long r10) ∧ (∃ fs12 v13, (M9).1 y1 = some (.inl (9, fs12)) ∧ fs12[2]? = some (.ref v13) ∧ ((∃ fs41, (M9).1 v13 = some (.inl (6, fs41))) ∧ kz_C G (d + 3) 0 0 mX6_isNewAt [.ref v13, .int 0, .int x6] M9 (fun v M14 => ∃ r15 : Int32, v = some (.int r15) ∧ ((r15 = 0 → ((0 : Int32) = 0 → zX11_wordsInLines_51 G d Qr Qx x0 x1 x2 (x3 + 0) x4 (some y1) (x6 + 1) M14) ∧ (¬ (0 : Int32) = 0 → ∃ fs17 v18, (M14).1 x0 = some (.inl (10, fs17)) ∧ fs17[6]? = some (.ref v18) ∧ ((∃ fs22, (M14).1 v18 = some (.inl (5, fs22))) ∧ kz_C G (d + 3) 0 0 mX5_linesWith [.ref v18, .long r10] M14 (fun v M19 => ∃ r20 : Int32, v = some (.int r20) ∧ ((r20 < x2 → zX11_wordsInLines_51 G d Qr Qx x0 x1 x2 (x3 + 0) x4 (some y1) (x6 + 1) M19) ∧ (¬ r20 < x2 → zX11_wordsInLines_51 G d Qr Qx x0 x1 x2 (x3 + 1) x4 (some y1) (x6 + 1) M19))) Qx))) ∧ (¬ r15 = 0 → ∃ fs23 v24, (M14).1 x0 = some (.inl (10, fs23)) ∧ fs23[2]? = some (.ref v24) ∧ ((∃ fs40, (M14).1 v24 = some (.inl (8, fs40))) ∧ kz_C G (d + 3) 0 0 mX9_usedBefore [.ref v24, .long r10, .int x1, .int x4] M14 (fun v M25 => ∃ r26 : Int32, v = some (.int r26) ∧ ((¬ r26 = 0 → ((0 : Int32) = 0 → zX11_wordsInLines_51 G d Qr Qx x0 x1 x2 (x3 + 0) x4 (some y1) (x6 + 1) M25) ∧ (¬ (0 : Int32) = 0 → ∃ fs28 v29, (M25).1 x0 = some (.inl (10, fs28)) ∧ fs28[6]? = some (.ref v29) ∧ ((∃ fs33, (M25).1 v29 = some (.inl (5, fs33))) ∧ kz_C G (d + 3) 0 0 mX5_linesWith [.ref v29, .long r10] M25 (fun v M30 => ∃ r31 : Int32, v = some (.int r31) ∧ ((r31 < x2 → zX11_wordsInLines_51 G d Qr Qx x0 x1 x2 (x3 + 0) x4 (some y1) (x6 + 1) M30) ∧ (¬ r31 < x2 → zX11_wordsInLines_51 G d Qr Qx x0 x1 x2 (x3 + 1) x4 (some y1) (x6 + 1) M30))) Qx))) ∧ (r26 = 0 → ((1 : Int32) = 0 → zX11_wordsInLines_51 G d Qr Qx x0 x1 x2 (x3 + 0) x4 (some y1) (x6 + 1) M25) ∧ (¬ (1 : Int32) = 0 → ∃ fs34 v35, (M25).1 x0 = some (.inl (10, fs34)) ∧ fs34[6]? = some (.ref v35) ∧ ((∃ fs39, (M25).1 v35 = some (.inl (5, fs39))) ∧ kz_C G (d + 3) 0 0 mX5_linesWith [.ref v35, .long r10] M25 (fun v M36 => ∃ r37 : Int32, v = some (.int r37) ∧ ((r37 < x2 → zX11_wordsInLines_51 G d Qr Qx x0 x1 x2 (x3 + 0) x4 (some y1) (x6 + 1) M36) ∧ (¬ r37 < x2 → zX11_wordsInLines_51 G d Qr Qx x0 x1 x2 (x3 + 1) x4 (some y1) (x6 + 1) M36))) Qx))))) Qx)))) Qx))) Qx)))) Qx))) : zX11_wordsInLines_51 G d Qr Qx x0 x1 x2 x3 x4 x5 x6  M := by
  show kz_Z G (d + 4) 0 0 mX11_wordsInLines Qr Qx 51 [(0, .ref x0), (1, .int x1), (2, .int x2), (3, .int x3), (4, .int x4), (5, kz_rf x5), (6, .int x6)] [] M 0 0
  refine kz_aload (pc := 51) 5 (v := kz_rf x5) (i := 5) rfl (kz_isr_rf _) dX11_wordsInLines_51 ?_
  rcases x5 with _ | y1
  · replace h := h.1 rfl
    refine kz_ifnull (pc := 53) (tgt := 149) rfl (by decide) dX11_wordsInLines_53 (fun _ => ?_) (fun hn => absurd rfl hn)
    refine kz_iinc (pc := 149) 4 (i := 4) (v := x4 + 1) (ls' := [(0, .ref x0), (1, .int x1), (2, .int x2), (3, .int x3), (5, .null), (6, .int x6)]) rfl (congrArg (fun z => x4 + z) (by decide)) (by decide) rfl dX11_wordsInLines_149 ?_
    refine kz_goto (pc := 152) (tgt := 24) (by decide) dX11_wordsInLines_152 ?_
    refine kz_sub [1, 2, 3, 4, 0] rfl ?_
    exact h
  · replace h := h.2 y1 rfl
    refine kz_ifnull (pc := 53) (tgt := 149) rfl (by decide) dX11_wordsInLines_53 (fun hn => by cases hn) (fun _ => ?_)
    refine kz_iload (pc := 56) 6 (i := 6) rfl dX11_wordsInLines_56 ?_
    refine kz_aload (pc := 58) 5 (v := .ref y1) (i := 5) rfl rfl dX11_wordsInLines_58 ?_
    obtain ⟨fs2, v3, hM, hv, h⟩ := h
    refine kz_getf (pc := 60) (k := 2) kcX10 hM hv (by decide) kw_1076 dX11_wordsInLines_60 ?_
    obtain ⟨⟨fs43, he⟩, h⟩ := h
    refine kz_callV (pc := 63) (μ' := mX6_size) (ci := 6) (q := (RX6, TX6, 3)) (b := v3) (d' := d + 3) (mc' := 0) (ms' := 0) (As := []) (st := [.int x6]) (c := 0) (sl := 0) kmX6_size kw_703 (by omega) rfl (Nat.le_of_ble_eq_true rfl) he rfl rfl (Nat.le_refl _) (Nat.le_refl _) dX11_wordsInLines_63 (fun E M9 hx => kz_Tout rfl (Nat.le_refl _) (Nat.le_refl _) hx) (kz_Cmono (fun v M4 h => ?_) (fun _ _ h => h) h)
    obtain ⟨r5, rfl, h⟩ := h
    show kz_Z G (d + 4) 0 0 mX11_wordsInLines Qr Qx 66 [(0, .ref x0), (1, .int x1), (2, .int x2), (3, .int x3), (4, .int x4), (5, .ref y1), (6, .int x6)] [.int r5, .int x6] M4 0 0
    refine kz_icmp_ge (pc := 66) (tgt := 149) (by decide) dX11_wordsInLines_66 (fun hb => ?_) (fun hb => ?_)
    · replace h := h.1 hb
      refine kz_iinc (pc := 149) 4 (i := 4) (v := x4 + 1) (ls' := [(0, .ref x0), (1, .int x1), (2, .int x2), (3, .int x3), (5, .ref y1), (6, .int x6)]) rfl (congrArg (fun z => x4 + z) (by decide)) (by decide) rfl dX11_wordsInLines_149 ?_
      refine kz_goto (pc := 152) (tgt := 24) (by decide) dX11_wordsInLines_152 ?_
      refine kz_sub [1, 2, 3, 4, 0] rfl ?_
      exact h
    · replace h := h.2 hb
      refine kz_aload (pc := 69) 5 (v := .ref y1) (i := 5) rfl rfl dX11_wordsInLines_69 ?_
      obtain ⟨fs7, v8, hM, hv, h⟩ := h
      refine kz_getf (pc := 71) (k := 2) kcX10 hM hv (by decide) kw_1076 dX11_wordsInLines_71 ?_
      refine kz_iload (pc := 74) 6 (i := 6) rfl dX11_wordsInLines_74 ?_
      obtain ⟨⟨fs42, he⟩, h⟩ := h
      refine kz_callV (pc := 76) (μ' := mX6_wordAt) (ci := 6) (q := (RX6, TX6, 3)) (b := v8) (d' := d + 3) (mc' := 0) (ms' := 0) (As := [.int x6]) (st := []) (c := 0) (sl := 0) kmX6_wordAt kw_707 (by omega) rfl (Nat.le_of_ble_eq_true rfl) he rfl rfl (Nat.le_refl _) (Nat.le_refl _) dX11_wordsInLines_76 (fun E M9 hx => kz_Tout rfl (Nat.le_refl _) (Nat.le_refl _) hx) (kz_Cmono (fun v M9 h => ?_) (fun _ _ h => h) h)
      obtain ⟨r10, rfl, h⟩ := h
      show kz_Z G (d + 4) 0 0 mX11_wordsInLines Qr Qx 79 [(0, .ref x0), (1, .int x1), (2, .int x2), (3, .int x3), (4, .int x4), (5, .ref y1), (6, .int x6)] [.long r10] M9 0 0
      refine kz_lstore (pc := 79) (i := 7) (ls' := [(0, .ref x0), (1, .int x1), (2, .int x2), (3, .int x3), (4, .int x4), (5, .ref y1), (6, .int x6)]) (by decide) rfl dX11_wordsInLines_79 ?_
      refine kz_aload (pc := 81) 6 (v := .ref y1) (i := 5) rfl rfl dX11_wordsInLines_81 ?_
      obtain ⟨fs12, v13, hM, hv, h⟩ := h
      refine kz_getf (pc := 83) (k := 2) kcX10 hM hv (by decide) kw_1076 dX11_wordsInLines_83 ?_
      refine kz_iconst (pc := 86) (v := 0) (by decide) dX11_wordsInLines_86 ?_
      refine kz_iload (pc := 87) 7 (i := 6) rfl dX11_wordsInLines_87 ?_
      obtain ⟨⟨fs41, he⟩, h⟩ := h
      refine kz_callV (pc := 89) (μ' := mX6_isNewAt) (ci := 6) (q := (RX6, TX6, 3)) (b := v13) (d' := d + 3) (mc' := 0) (ms' := 0) (As := [.int 0, .int x6]) (st := []) (c := 0) (sl := 0) kmX6_isNewAt kw_711 (by omega) rfl (Nat.le_of_ble_eq_true rfl) he rfl rfl (Nat.le_refl _) (Nat.le_refl _) dX11_wordsInLines_89 (fun E M9 hx => kz_Tout rfl (Nat.le_refl _) (Nat.le_refl _) hx) (kz_Cmono (fun v M14 h => ?_) (fun _ _ h => h) h)
      obtain ⟨r15, rfl, h⟩ := h
      show kz_Z G (d + 4) 0 0 mX11_wordsInLines Qr Qx 92 [(7, .long r10), (0, .ref x0), (1, .int x1), (2, .int x2), (3, .int x3), (4, .int x4), (5, .ref y1), (6, .int x6)] [.int r15] M14 0 0
      refine kz_if_eq (pc := 92) (tgt := 114) (by decide) dX11_wordsInLines_92 (fun hb => ?_) (fun hb => ?_)
      · replace h := h.1 hb
        refine kz_iconst (pc := 114) (v := 0) (by decide) dX11_wordsInLines_114 ?_
        refine kz_istore (pc := 115) (i := 9) (ls' := [(7, .long r10), (0, .ref x0), (1, .int x1), (2, .int x2), (3, .int x3), (4, .int x4), (5, .ref y1), (6, .int x6)]) (by decide) rfl dX11_wordsInLines_115 ?_
        refine kz_iload_n (pc := 117) 5 (i := 3) rfl rfl dX11_wordsInLines_117 ?_
        refine kz_iload (pc := 118) 0 (i := 9) rfl dX11_wordsInLines_118 ?_
        refine kz_if_eq (pc := 120) (tgt := 140) (by decide) dX11_wordsInLines_120 (fun hb => ?_) (fun hb => ?_)
        · replace h := h.1 hb
          refine kz_iconst (pc := 140) (v := 0) (by decide) dX11_wordsInLines_140 ?_
          refine kz_iadd (pc := 141) dX11_wordsInLines_141 ?_
          refine kz_istore_n (pc := 142) (i := 3) (ls' := [(9, .int 0), (7, .long r10), (0, .ref x0), (1, .int x1), (2, .int x2), (4, .int x4), (5, .ref y1), (6, .int x6)]) rfl (by decide) rfl dX11_wordsInLines_142 ?_
          refine kz_iinc (pc := 143) 8 (i := 6) (v := x6 + 1) (ls' := [(3, .int (x3 + 0)), (9, .int 0), (7, .long r10), (0, .ref x0), (1, .int x1), (2, .int x2), (4, .int x4), (5, .ref y1)]) rfl (congrArg (fun z => x6 + z) (by decide)) (by decide) rfl dX11_wordsInLines_143 ?_
          refine kz_goto (pc := 146) (tgt := 51) (by decide) dX11_wordsInLines_146 ?_
          refine kz_sub [4, 5, 6, 1, 7, 8, 0] rfl ?_
          exact h
        · replace h := h.2 hb
          refine kz_aload_n (pc := 123) 2 (v := .ref x0) (i := 0) rfl rfl rfl dX11_wordsInLines_123 ?_
          obtain ⟨fs17, v18, hM, hv, h⟩ := h
          refine kz_getf (pc := 124) (k := 6) kcX11 hM hv (by decide) kw_281 dX11_wordsInLines_124 ?_
          refine kz_lload (pc := 127) 1 (i := 7) rfl dX11_wordsInLines_127 ?_
          obtain ⟨⟨fs22, he⟩, h⟩ := h
          refine kz_callV (pc := 129) (μ' := mX5_linesWith) (ci := 5) (q := (RX5, TX5, 2)) (b := v18) (d' := d + 3) (mc' := 0) (ms' := 0) (As := [.long r10]) (st := [.int x3]) (c := 0) (sl := 0) kmX5_linesWith kw_727 (by omega) rfl (Nat.le_of_ble_eq_true rfl) he rfl rfl (Nat.le_refl _) (Nat.le_refl _) dX11_wordsInLines_129 (fun E M9 hx => kz_Tout rfl (Nat.le_refl _) (Nat.le_refl _) hx) (kz_Cmono (fun v M19 h => ?_) (fun _ _ h => h) h)
          obtain ⟨r20, rfl, h⟩ := h
          show kz_Z G (d + 4) 0 0 mX11_wordsInLines Qr Qx 132 [(9, .int 0), (7, .long r10), (0, .ref x0), (1, .int x1), (2, .int x2), (3, .int x3), (4, .int x4), (5, .ref y1), (6, .int x6)] [.int r20, .int x3] M19 0 0
          refine kz_iload_n (pc := 132) 4 (i := 2) rfl rfl dX11_wordsInLines_132 ?_
          refine kz_icmp_lt (pc := 133) (tgt := 140) (by decide) dX11_wordsInLines_133 (fun hb => ?_) (fun hb => ?_)
          · replace h := h.1 hb
            refine kz_iconst (pc := 140) (v := 0) (by decide) dX11_wordsInLines_140 ?_
            refine kz_iadd (pc := 141) dX11_wordsInLines_141 ?_
            refine kz_istore_n (pc := 142) (i := 3) (ls' := [(9, .int 0), (7, .long r10), (0, .ref x0), (1, .int x1), (2, .int x2), (4, .int x4), (5, .ref y1), (6, .int x6)]) rfl (by decide) rfl dX11_wordsInLines_142 ?_
            refine kz_iinc (pc := 143) 8 (i := 6) (v := x6 + 1) (ls' := [(3, .int (x3 + 0)), (9, .int 0), (7, .long r10), (0, .ref x0), (1, .int x1), (2, .int x2), (4, .int x4), (5, .ref y1)]) rfl (congrArg (fun z => x6 + z) (by decide)) (by decide) rfl dX11_wordsInLines_143 ?_
            refine kz_goto (pc := 146) (tgt := 51) (by decide) dX11_wordsInLines_146 ?_
            refine kz_sub [4, 5, 6, 1, 7, 8, 0] rfl ?_
            exact h
          · replace h := h.2 hb
            refine kz_iconst (pc := 136) (v := 1) (by decide) dX11_wordsInLines_136 ?_
            refine kz_goto (pc := 137) (tgt := 141) (by decide) dX11_wordsInLines_137 ?_
            refine kz_iadd (pc := 141) dX11_wordsInLines_141 ?_
            refine kz_istore_n (pc := 142) (i := 3) (ls' := [(9, .int 0), (7, .long r10), (0, .ref x0), (1, .int x1), (2, .int x2), (4, .int x4), (5, .ref y1), (6, .int x6)]) rfl (by decide) rfl dX11_wordsInLines_142 ?_
            refine kz_iinc (pc := 143) 8 (i := 6) (v := x6 + 1) (ls' := [(3, .int (x3 + 1)), (9, .int 0), (7, .long r10), (0, .ref x0), (1, .int x1), (2, .int x2), (4, .int x4), (5, .ref y1)]) rfl (congrArg (fun z => x6 + z) (by decide)) (by decide) rfl dX11_wordsInLines_143 ?_
            refine kz_goto (pc := 146) (tgt := 51) (by decide) dX11_wordsInLines_146 ?_
            refine kz_sub [4, 5, 6, 1, 7, 8, 0] rfl ?_
            exact h
      · replace h := h.2 hb
        refine kz_aload_n (pc := 95) 1 (v := .ref x0) (i := 0) rfl rfl rfl dX11_wordsInLines_95 ?_
        obtain ⟨fs23, v24, hM, hv, h⟩ := h
        refine kz_getf (pc := 96) (k := 2) kcX11 hM hv (by decide) kw_277 dX11_wordsInLines_96 ?_
        refine kz_lload (pc := 99) 0 (i := 7) rfl dX11_wordsInLines_99 ?_
        refine kz_iload_n (pc := 101) 2 (i := 1) rfl rfl dX11_wordsInLines_101 ?_
        refine kz_iload (pc := 102) 5 (i := 4) rfl dX11_wordsInLines_102 ?_
        obtain ⟨⟨fs40, he⟩, h⟩ := h
        refine kz_callV (pc := 104) (μ' := mX9_usedBefore) (ci := 8) (q := (RX9, TX9, 10)) (b := v24) (d' := d + 3) (mc' := 0) (ms' := 0) (As := [.long r10, .int x1, .int x4]) (st := []) (c := 0) (sl := 0) kmX9_usedBefore kw_721 (by omega) rfl (Nat.le_of_ble_eq_true rfl) he rfl rfl (Nat.le_refl _) (Nat.le_refl _) dX11_wordsInLines_104 (fun E M9 hx => kz_Tout rfl (Nat.le_refl _) (Nat.le_refl _) hx) (kz_Cmono (fun v M25 h => ?_) (fun _ _ h => h) h)
        obtain ⟨r26, rfl, h⟩ := h
        show kz_Z G (d + 4) 0 0 mX11_wordsInLines Qr Qx 107 [(7, .long r10), (0, .ref x0), (1, .int x1), (2, .int x2), (3, .int x3), (4, .int x4), (5, .ref y1), (6, .int x6)] [.int r26] M25 0 0
        refine kz_if_ne (pc := 107) (tgt := 114) (by decide) dX11_wordsInLines_107 (fun hb => ?_) (fun hb => ?_)
        · replace h := h.1 hb
          refine kz_iconst (pc := 114) (v := 0) (by decide) dX11_wordsInLines_114 ?_
          refine kz_istore (pc := 115) (i := 9) (ls' := [(7, .long r10), (0, .ref x0), (1, .int x1), (2, .int x2), (3, .int x3), (4, .int x4), (5, .ref y1), (6, .int x6)]) (by decide) rfl dX11_wordsInLines_115 ?_
          refine kz_iload_n (pc := 117) 5 (i := 3) rfl rfl dX11_wordsInLines_117 ?_
          refine kz_iload (pc := 118) 0 (i := 9) rfl dX11_wordsInLines_118 ?_
          refine kz_if_eq (pc := 120) (tgt := 140) (by decide) dX11_wordsInLines_120 (fun hb => ?_) (fun hb => ?_)
          · replace h := h.1 hb
            refine kz_iconst (pc := 140) (v := 0) (by decide) dX11_wordsInLines_140 ?_
            refine kz_iadd (pc := 141) dX11_wordsInLines_141 ?_
            refine kz_istore_n (pc := 142) (i := 3) (ls' := [(9, .int 0), (7, .long r10), (0, .ref x0), (1, .int x1), (2, .int x2), (4, .int x4), (5, .ref y1), (6, .int x6)]) rfl (by decide) rfl dX11_wordsInLines_142 ?_
            refine kz_iinc (pc := 143) 8 (i := 6) (v := x6 + 1) (ls' := [(3, .int (x3 + 0)), (9, .int 0), (7, .long r10), (0, .ref x0), (1, .int x1), (2, .int x2), (4, .int x4), (5, .ref y1)]) rfl (congrArg (fun z => x6 + z) (by decide)) (by decide) rfl dX11_wordsInLines_143 ?_
            refine kz_goto (pc := 146) (tgt := 51) (by decide) dX11_wordsInLines_146 ?_
            refine kz_sub [4, 5, 6, 1, 7, 8, 0] rfl ?_
            exact h
          · replace h := h.2 hb
            refine kz_aload_n (pc := 123) 2 (v := .ref x0) (i := 0) rfl rfl rfl dX11_wordsInLines_123 ?_
            obtain ⟨fs28, v29, hM, hv, h⟩ := h
            refine kz_getf (pc := 124) (k := 6) kcX11 hM hv (by decide) kw_281 dX11_wordsInLines_124 ?_
            refine kz_lload (pc := 127) 1 (i := 7) rfl dX11_wordsInLines_127 ?_
            obtain ⟨⟨fs33, he⟩, h⟩ := h
            refine kz_callV (pc := 129) (μ' := mX5_linesWith) (ci := 5) (q := (RX5, TX5, 2)) (b := v29) (d' := d + 3) (mc' := 0) (ms' := 0) (As := [.long r10]) (st := [.int x3]) (c := 0) (sl := 0) kmX5_linesWith kw_727 (by omega) rfl (Nat.le_of_ble_eq_true rfl) he rfl rfl (Nat.le_refl _) (Nat.le_refl _) dX11_wordsInLines_129 (fun E M9 hx => kz_Tout rfl (Nat.le_refl _) (Nat.le_refl _) hx) (kz_Cmono (fun v M30 h => ?_) (fun _ _ h => h) h)
            obtain ⟨r31, rfl, h⟩ := h
            show kz_Z G (d + 4) 0 0 mX11_wordsInLines Qr Qx 132 [(9, .int 0), (7, .long r10), (0, .ref x0), (1, .int x1), (2, .int x2), (3, .int x3), (4, .int x4), (5, .ref y1), (6, .int x6)] [.int r31, .int x3] M30 0 0
            refine kz_iload_n (pc := 132) 4 (i := 2) rfl rfl dX11_wordsInLines_132 ?_
            refine kz_icmp_lt (pc := 133) (tgt := 140) (by decide) dX11_wordsInLines_133 (fun hb => ?_) (fun hb => ?_)
            · replace h := h.1 hb
              refine kz_iconst (pc := 140) (v := 0) (by decide) dX11_wordsInLines_140 ?_
              refine kz_iadd (pc := 141) dX11_wordsInLines_141 ?_
              refine kz_istore_n (pc := 142) (i := 3) (ls' := [(9, .int 0), (7, .long r10), (0, .ref x0), (1, .int x1), (2, .int x2), (4, .int x4), (5, .ref y1), (6, .int x6)]) rfl (by decide) rfl dX11_wordsInLines_142 ?_
              refine kz_iinc (pc := 143) 8 (i := 6) (v := x6 + 1) (ls' := [(3, .int (x3 + 0)), (9, .int 0), (7, .long r10), (0, .ref x0), (1, .int x1), (2, .int x2), (4, .int x4), (5, .ref y1)]) rfl (congrArg (fun z => x6 + z) (by decide)) (by decide) rfl dX11_wordsInLines_143 ?_
              refine kz_goto (pc := 146) (tgt := 51) (by decide) dX11_wordsInLines_146 ?_
              refine kz_sub [4, 5, 6, 1, 7, 8, 0] rfl ?_
              exact h
            · replace h := h.2 hb
              refine kz_iconst (pc := 136) (v := 1) (by decide) dX11_wordsInLines_136 ?_
              refine kz_goto (pc := 137) (tgt := 141) (by decide) dX11_wordsInLines_137 ?_
              refine kz_iadd (pc := 141) dX11_wordsInLines_141 ?_
              refine kz_istore_n (pc := 142) (i := 3) (ls' := [(9, .int 0), (7, .long r10), (0, .ref x0), (1, .int x1), (2, .int x2), (4, .int x4), (5, .ref y1), (6, .int x6)]) rfl (by decide) rfl dX11_wordsInLines_142 ?_
              refine kz_iinc (pc := 143) 8 (i := 6) (v := x6 + 1) (ls' := [(3, .int (x3 + 1)), (9, .int 0), (7, .long r10), (0, .ref x0), (1, .int x1), (2, .int x2), (4, .int x4), (5, .ref y1)]) rfl (congrArg (fun z => x6 + z) (by decide)) (by decide) rfl dX11_wordsInLines_143 ?_
              refine kz_goto (pc := 146) (tgt := 51) (by decide) dX11_wordsInLines_146 ?_
              refine kz_sub [4, 5, 6, 1, 7, 8, 0] rfl ?_
              exact h
        · replace h := h.2 hb
          refine kz_iconst (pc := 110) (v := 1) (by decide) dX11_wordsInLines_110 ?_
          refine kz_goto (pc := 111) (tgt := 115) (by decide) dX11_wordsInLines_111 ?_
          refine kz_istore (pc := 115) (i := 9) (ls' := [(7, .long r10), (0, .ref x0), (1, .int x1), (2, .int x2), (3, .int x3), (4, .int x4), (5, .ref y1), (6, .int x6)]) (by decide) rfl dX11_wordsInLines_115 ?_
          refine kz_iload_n (pc := 117) 5 (i := 3) rfl rfl dX11_wordsInLines_117 ?_
          refine kz_iload (pc := 118) 0 (i := 9) rfl dX11_wordsInLines_118 ?_
          refine kz_if_eq (pc := 120) (tgt := 140) (by decide) dX11_wordsInLines_120 (fun hb => ?_) (fun hb => ?_)
          · replace h := h.1 hb
            refine kz_iconst (pc := 140) (v := 0) (by decide) dX11_wordsInLines_140 ?_
            refine kz_iadd (pc := 141) dX11_wordsInLines_141 ?_
            refine kz_istore_n (pc := 142) (i := 3) (ls' := [(9, .int 1), (7, .long r10), (0, .ref x0), (1, .int x1), (2, .int x2), (4, .int x4), (5, .ref y1), (6, .int x6)]) rfl (by decide) rfl dX11_wordsInLines_142 ?_
            refine kz_iinc (pc := 143) 8 (i := 6) (v := x6 + 1) (ls' := [(3, .int (x3 + 0)), (9, .int 1), (7, .long r10), (0, .ref x0), (1, .int x1), (2, .int x2), (4, .int x4), (5, .ref y1)]) rfl (congrArg (fun z => x6 + z) (by decide)) (by decide) rfl dX11_wordsInLines_143 ?_
            refine kz_goto (pc := 146) (tgt := 51) (by decide) dX11_wordsInLines_146 ?_
            refine kz_sub [4, 5, 6, 1, 7, 8, 0] rfl ?_
            exact h
          · replace h := h.2 hb
            refine kz_aload_n (pc := 123) 2 (v := .ref x0) (i := 0) rfl rfl rfl dX11_wordsInLines_123 ?_
            obtain ⟨fs34, v35, hM, hv, h⟩ := h
            refine kz_getf (pc := 124) (k := 6) kcX11 hM hv (by decide) kw_281 dX11_wordsInLines_124 ?_
            refine kz_lload (pc := 127) 1 (i := 7) rfl dX11_wordsInLines_127 ?_
            obtain ⟨⟨fs39, he⟩, h⟩ := h
            refine kz_callV (pc := 129) (μ' := mX5_linesWith) (ci := 5) (q := (RX5, TX5, 2)) (b := v35) (d' := d + 3) (mc' := 0) (ms' := 0) (As := [.long r10]) (st := [.int x3]) (c := 0) (sl := 0) kmX5_linesWith kw_727 (by omega) rfl (Nat.le_of_ble_eq_true rfl) he rfl rfl (Nat.le_refl _) (Nat.le_refl _) dX11_wordsInLines_129 (fun E M9 hx => kz_Tout rfl (Nat.le_refl _) (Nat.le_refl _) hx) (kz_Cmono (fun v M36 h => ?_) (fun _ _ h => h) h)
            obtain ⟨r37, rfl, h⟩ := h
            show kz_Z G (d + 4) 0 0 mX11_wordsInLines Qr Qx 132 [(9, .int 1), (7, .long r10), (0, .ref x0), (1, .int x1), (2, .int x2), (3, .int x3), (4, .int x4), (5, .ref y1), (6, .int x6)] [.int r37, .int x3] M36 0 0
            refine kz_iload_n (pc := 132) 4 (i := 2) rfl rfl dX11_wordsInLines_132 ?_
            refine kz_icmp_lt (pc := 133) (tgt := 140) (by decide) dX11_wordsInLines_133 (fun hb => ?_) (fun hb => ?_)
            · replace h := h.1 hb
              refine kz_iconst (pc := 140) (v := 0) (by decide) dX11_wordsInLines_140 ?_
              refine kz_iadd (pc := 141) dX11_wordsInLines_141 ?_
              refine kz_istore_n (pc := 142) (i := 3) (ls' := [(9, .int 1), (7, .long r10), (0, .ref x0), (1, .int x1), (2, .int x2), (4, .int x4), (5, .ref y1), (6, .int x6)]) rfl (by decide) rfl dX11_wordsInLines_142 ?_
              refine kz_iinc (pc := 143) 8 (i := 6) (v := x6 + 1) (ls' := [(3, .int (x3 + 0)), (9, .int 1), (7, .long r10), (0, .ref x0), (1, .int x1), (2, .int x2), (4, .int x4), (5, .ref y1)]) rfl (congrArg (fun z => x6 + z) (by decide)) (by decide) rfl dX11_wordsInLines_143 ?_
              refine kz_goto (pc := 146) (tgt := 51) (by decide) dX11_wordsInLines_146 ?_
              refine kz_sub [4, 5, 6, 1, 7, 8, 0] rfl ?_
              exact h
            · replace h := h.2 hb
              refine kz_iconst (pc := 136) (v := 1) (by decide) dX11_wordsInLines_136 ?_
              refine kz_goto (pc := 137) (tgt := 141) (by decide) dX11_wordsInLines_137 ?_
              refine kz_iadd (pc := 141) dX11_wordsInLines_141 ?_
              refine kz_istore_n (pc := 142) (i := 3) (ls' := [(9, .int 1), (7, .long r10), (0, .ref x0), (1, .int x1), (2, .int x2), (4, .int x4), (5, .ref y1), (6, .int x6)]) rfl (by decide) rfl dX11_wordsInLines_142 ?_
              refine kz_iinc (pc := 143) 8 (i := 6) (v := x6 + 1) (ls' := [(3, .int (x3 + 1)), (9, .int 1), (7, .long r10), (0, .ref x0), (1, .int x1), (2, .int x2), (4, .int x4), (5, .ref y1)]) rfl (congrArg (fun z => x6 + z) (by decide)) (by decide) rfl dX11_wordsInLines_143 ?_
              refine kz_goto (pc := 146) (tgt := 51) (by decide) dX11_wordsInLines_146 ?_
              refine kz_sub [4, 5, 6, 1, 7, 8, 0] rfl ?_
              exact h
theorem dX11_isValue_0 : decode cX11_isValue 0 = .ok (.iload_n 0, 1) := by decide +kernel
theorem dX11_isValue_1 : decode cX11_isValue 1 = .ok (.ifCond .lt 39, 3) := by decide +kernel
theorem dX11_isValue_4 : decode cX11_isValue 4 = .ok (.iload_n 0, 1) := by decide +kernel
theorem dX11_isValue_5 : decode cX11_isValue 5 = .ok (.getstatic 448, 3) := by decide +kernel
theorem dX11_isValue_8 : decode cX11_isValue 8 = .ok (.arraylength, 1) := by decide +kernel
theorem dX11_isValue_9 : decode cX11_isValue 9 = .ok (.if_icmp .ge 31, 3) := by decide +kernel
theorem dX11_isValue_12 : decode cX11_isValue 12 = .ok (.iload_n 1, 1) := by decide +kernel
theorem dX11_isValue_13 : decode cX11_isValue 13 = .ok (.getstatic 448, 3) := by decide +kernel
theorem dX11_isValue_16 : decode cX11_isValue 16 = .ok (.iload_n 0, 1) := by decide +kernel
theorem dX11_isValue_17 : decode cX11_isValue 17 = .ok (.aaload, 1) := by decide +kernel
theorem dX11_isValue_18 : decode cX11_isValue 18 = .ok (.getfield 306, 3) := by decide +kernel
theorem dX11_isValue_21 : decode cX11_isValue 21 = .ok (.if_icmp .lt 19, 3) := by decide +kernel
theorem dX11_isValue_24 : decode cX11_isValue 24 = .ok (.iload_n 1, 1) := by decide +kernel
theorem dX11_isValue_25 : decode cX11_isValue 25 = .ok (.getstatic 448, 3) := by decide +kernel
theorem dX11_isValue_28 : decode cX11_isValue 28 = .ok (.iload_n 0, 1) := by decide +kernel
theorem dX11_isValue_29 : decode cX11_isValue 29 = .ok (.aaload, 1) := by decide +kernel
theorem dX11_isValue_30 : decode cX11_isValue 30 = .ok (.getfield 309, 3) := by decide +kernel
theorem dX11_isValue_33 : decode cX11_isValue 33 = .ok (.if_icmp .gt 7, 3) := by decide +kernel
theorem dX11_isValue_36 : decode cX11_isValue 36 = .ok (.iconst 1, 1) := by decide +kernel
theorem dX11_isValue_37 : decode cX11_isValue 37 = .ok (.goto 4, 3) := by decide +kernel
theorem dX11_isValue_40 : decode cX11_isValue 40 = .ok (.iconst 0, 1) := by decide +kernel
theorem dX11_isValue_41 : decode cX11_isValue 41 = .ok (.ireturn, 1) := by decide +kernel
theorem rX11_isValue_0 {G : kz_G} {d : Nat} {Qr : Option Value → kz_M → Prop} {Qx : String → kz_M → Prop} {p0 : Int32} {p1 : Int32}  {M : kz_M} (hG : kz_stat G) (h : (p0 < 0 → Qr (some (.int 0)) M) ∧ (¬ p0 < 0 → ((10 : Int32) ≤ p0 → Qr (some (.int 0)) M) ∧ (¬ (10 : Int32) ≤ p0 → vp_in p0 10 ∧ (p0.toNatClampNeg < 10 ∧ ((p1 < (kz_lo p0.toNatClampNeg) → Qr (some (.int 0)) M) ∧ (¬ p1 < (kz_lo p0.toNatClampNeg) → vp_in p0 10 ∧ (p0.toNatClampNeg < 10 ∧ (((kz_hi p0.toNatClampNeg) < p1 → Qr (some (.int 0)) M) ∧ (¬ (kz_hi p0.toNatClampNeg) < p1 → Qr (some (.int 1)) M))))))))) : kz_C G d 0 0 mX11_isValue [.int p0, .int p1] M Qr Qx := by
  refine kz_enter (n := 2) kmX11_isValue.1 (Nat.le_of_ble_eq_true rfl) (ls := [(0, .int p0), (1, .int p1)]) rfl ?_
  refine kz_iload_n (pc := 0) 0 (i := 0) rfl rfl dX11_isValue_0 ?_
  refine kz_if_lt (pc := 1) (tgt := 40) (by decide) dX11_isValue_1 (fun hb => ?_) (fun hb => ?_)
  · replace h := h.1 hb
    refine kz_iconst (pc := 40) (v := 0) (by decide) dX11_isValue_40 ?_
    exact kz_zret (pc := 41) (ty := .boolean) rfl (by decide) (Nat.le_refl _) (Nat.le_refl _) dX11_isValue_41 h
  · replace h := h.2 hb
    refine kz_iload_n (pc := 4) 0 (i := 0) rfl rfl dX11_isValue_4 ?_
    refine kz_gets (pc := 5) (v := .retAddr 0) hG.2.2.2.1 kw_400 dX11_isValue_5 ?_
    refine kz_salen (pc := 8) (v := 10) hG.2.2.2.2.1 (by decide) dX11_isValue_8 ?_
    refine kz_icmp_ge (pc := 9) (tgt := 40) (by decide) dX11_isValue_9 (fun hb => ?_) (fun hb => ?_)
    · replace h := h.1 hb
      refine kz_iconst (pc := 40) (v := 0) (by decide) dX11_isValue_40 ?_
      exact kz_zret (pc := 41) (ty := .boolean) rfl (by decide) (Nat.le_refl _) (Nat.le_refl _) dX11_isValue_41 h
    · replace h := h.2 hb
      refine kz_iload_n (pc := 12) 1 (i := 1) rfl rfl dX11_isValue_12 ?_
      refine kz_gets (pc := 13) (v := .retAddr 0) hG.2.2.2.1 kw_400 dX11_isValue_13 ?_
      refine kz_iload_n (pc := 16) 0 (i := 0) rfl rfl dX11_isValue_16 ?_
      obtain ⟨hi, h⟩ := h
      refine kz_saald (pc := 17) (v := .retAddr (p0.toNatClampNeg + 1)) hG.2.2.2.2.1 hi rfl dX11_isValue_17 ?_
      obtain ⟨hk, h⟩ := h
      refine kz_sgetf (pc := 18) (v := .int (kz_lo p0.toNatClampNeg)) (hG.2.2.2.2.2.1 p0.toNatClampNeg hk).1 kw_2061 dX11_isValue_18 ?_
      refine kz_icmp_lt (pc := 21) (tgt := 40) (by decide) dX11_isValue_21 (fun hb => ?_) (fun hb => ?_)
      · replace h := h.1 hb
        refine kz_iconst (pc := 40) (v := 0) (by decide) dX11_isValue_40 ?_
        exact kz_zret (pc := 41) (ty := .boolean) rfl (by decide) (Nat.le_refl _) (Nat.le_refl _) dX11_isValue_41 h
      · replace h := h.2 hb
        refine kz_iload_n (pc := 24) 1 (i := 1) rfl rfl dX11_isValue_24 ?_
        refine kz_gets (pc := 25) (v := .retAddr 0) hG.2.2.2.1 kw_400 dX11_isValue_25 ?_
        refine kz_iload_n (pc := 28) 0 (i := 0) rfl rfl dX11_isValue_28 ?_
        obtain ⟨hi, h⟩ := h
        refine kz_saald (pc := 29) (v := .retAddr (p0.toNatClampNeg + 1)) hG.2.2.2.2.1 hi rfl dX11_isValue_29 ?_
        obtain ⟨hk, h⟩ := h
        refine kz_sgetf (pc := 30) (v := .int (kz_hi p0.toNatClampNeg)) (hG.2.2.2.2.2.1 p0.toNatClampNeg hk).2.1 kw_2062 dX11_isValue_30 ?_
        refine kz_icmp_gt (pc := 33) (tgt := 40) (by decide) dX11_isValue_33 (fun hb => ?_) (fun hb => ?_)
        · replace h := h.1 hb
          refine kz_iconst (pc := 40) (v := 0) (by decide) dX11_isValue_40 ?_
          exact kz_zret (pc := 41) (ty := .boolean) rfl (by decide) (Nat.le_refl _) (Nat.le_refl _) dX11_isValue_41 h
        · replace h := h.2 hb
          refine kz_iconst (pc := 36) (v := 1) (by decide) dX11_isValue_36 ?_
          refine kz_goto (pc := 37) (tgt := 41) (by decide) dX11_isValue_37 ?_
          exact kz_zret (pc := 41) (ty := .boolean) rfl (by decide) (Nat.le_refl _) (Nat.le_refl _) dX11_isValue_41 h
