/-! Part 90: the methods of the law that catch: printed by program (wip/whole/gen90.py) -/
theorem dL_count_12 : decode cL_count 12 = .ok (.astore_n 3, 1) := by decide +kernel
theorem dL_count_13 : decode cL_count 13 = .ok (.iconst 1, 1) := by decide +kernel
theorem dL_count_14 : decode cL_count 14 = .ok (.ireturn, 1) := by decide +kernel
theorem dL_count_0 : decode cL_count 0 = .ok (.aload_n 2, 1) := by decide +kernel
theorem dL_count_1 : decode cL_count 1 = .ok (.iconst 0, 1) := by decide +kernel
theorem dL_count_2 : decode cL_count 2 = .ok (.aload_n 0, 1) := by decide +kernel
theorem dL_count_3 : decode cL_count 3 = .ok (.iload_n 1, 1) := by decide +kernel
theorem dL_count_4 : decode cL_count 4 = .ok (.invokevirtual 7, 3) := by decide +kernel
theorem dL_count_7 : decode cL_count 7 = .ok (.i2l, 1) := by decide +kernel
theorem dL_count_8 : decode cL_count 8 = .ok (.lastore, 1) := by decide +kernel
theorem dL_count_9 : decode cL_count 9 = .ok (.goto 6, 3) := by decide +kernel
theorem dL_count_15 : decode cL_count 15 = .ok (.iconst 0, 1) := by decide +kernel
theorem dL_count_16 : decode cL_count 16 = .ok (.ireturn, 1) := by decide +kernel
theorem rL_count_0 {G : kz_G} {d : Nat} {mc ms : Nat} {Qr : Option Value → kz_M → Prop} {Qx : String → kz_M → Prop} {p0 : Nat} {p1 : Int32} {p2 : Nat}  {M : kz_M} (h : (∃ fs6, (M).1 p0 = some (.inl (10, fs6))) ∧ ∃ mc3 ms3, 0 + mc3 ≤ mc ∧ 0 + ms3 ≤ ms ∧ kz_C G (d + 7) mc3 ms3 mX11_count [.ref p0, .int p1] M (fun v M1 => ∃ r2 : Int32, v = some (.int r2) ∧ (∃ n4 f5, (M1).1 p2 = some (.inr (.long, n4, .inr (.inl f5))) ∧ vp_in (0 : Int32) n4 ∧ (Qr (some (.int 0)) (kz_up M1 p2 (.inr (.long, n4, .inr (.inl (vp_updL f5 (0 : Int32).toNatClampNeg ((r2 : Int32).toInt64))))))))) (fun E M9 => (E = "java/lang/IllegalArgumentException" ∧ Qr (some (.int 1)) M9))) : kz_C G (d + 8) mc ms mL_count [.ref p0, .int p1, .ref p2] M Qr Qx := by
  refine kz_enter (n := 3) kmL_count.1 (Nat.le_of_ble_eq_true rfl) (ls := [(0, .ref p0), (1, .int p1), (2, .ref p2)]) rfl ?_
  refine kz_aload_n (pc := 0) 2 (v := .ref p2) (i := 2) rfl rfl rfl dL_count_0 ?_
  refine kz_iconst (pc := 1) (v := 0) (by decide) dL_count_1 ?_
  refine kz_aload_n (pc := 2) 0 (v := .ref p0) (i := 0) rfl rfl rfl dL_count_2 ?_
  refine kz_iload_n (pc := 3) 1 (i := 1) rfl rfl dL_count_3 ?_
  obtain ⟨⟨fs6, he⟩, h⟩ := h
  obtain ⟨mc3, ms3, hc3, hs3, h⟩ := h
  refine kz_callV (pc := 4) (μ' := mX11_count) (ci := 10) (q := (RX11, TX11, 10)) (b := p0) (d' := d + 7) (mc' := mc3) (ms' := ms3) (As := [.int p1]) (st := [.int 0, .ref p2]) (c := 0) (sl := 0) kmX11_count kw_517 (by omega) rfl (Nat.le_of_ble_eq_true rfl) he rfl rfl hc3 hs3 dL_count_4 (fun E M9 hx => by
        rcases hx with ⟨rfl, hq⟩
        · refine kz_catchN (pre := []) (suf := []) (x := (0, 9, 12, 13)) (i := 3) rfl ⟨by decide, by decide⟩ (by decide) kw_516 kw_551 (fun z hz => absurd hz List.not_mem_nil) rfl (by decide) rfl dL_count_12 ?_
          refine kz_iconst (pc := 13) (v := 1) (by decide) dL_count_13 ?_
          exact kz_iret (pc := 14) rfl hc3 hs3 dL_count_14 hq) (kz_Cmono (fun v M1 h => ?_) (fun _ _ h => h) h)
  obtain ⟨r2, rfl, h⟩ := h
  show kz_Z G (d + 8) mc ms mL_count Qr Qx 7 [(0, .ref p0), (1, .int p1), (2, .ref p2)] [.int r2, .int 0, .ref p2] M1 (0 + mc3) (0 + ms3)
  refine kz_i2l (pc := 7) dL_count_7 ?_
  obtain ⟨n4, f5, hM, hi, h⟩ := h
  refine kz_last (pc := 8) hM hi dL_count_8 ?_
  refine kz_goto (pc := 9) (tgt := 15) (by decide) dL_count_9 ?_
  refine kz_iconst (pc := 15) (v := 0) (by decide) dL_count_15 ?_
  exact kz_iret (pc := 16) rfl hc3 hs3 dL_count_16 h
theorem dL_setting_12 : decode cL_setting 12 = .ok (.astore_n 3, 1) := by decide +kernel
theorem dL_setting_13 : decode cL_setting 13 = .ok (.iconst 1, 1) := by decide +kernel
theorem dL_setting_14 : decode cL_setting 14 = .ok (.ireturn, 1) := by decide +kernel
theorem dL_setting_0 : decode cL_setting 0 = .ok (.aload_n 2, 1) := by decide +kernel
theorem dL_setting_1 : decode cL_setting 1 = .ok (.iconst 0, 1) := by decide +kernel
theorem dL_setting_2 : decode cL_setting 2 = .ok (.aload_n 0, 1) := by decide +kernel
theorem dL_setting_3 : decode cL_setting 3 = .ok (.iload_n 1, 1) := by decide +kernel
theorem dL_setting_4 : decode cL_setting 4 = .ok (.invokevirtual 15, 3) := by decide +kernel
theorem dL_setting_7 : decode cL_setting 7 = .ok (.i2l, 1) := by decide +kernel
theorem dL_setting_8 : decode cL_setting 8 = .ok (.lastore, 1) := by decide +kernel
theorem dL_setting_9 : decode cL_setting 9 = .ok (.goto 6, 3) := by decide +kernel
theorem dL_setting_15 : decode cL_setting 15 = .ok (.iconst 0, 1) := by decide +kernel
theorem dL_setting_16 : decode cL_setting 16 = .ok (.ireturn, 1) := by decide +kernel
theorem rL_setting_0 {G : kz_G} {d : Nat} {mc ms : Nat} {Qr : Option Value → kz_M → Prop} {Qx : String → kz_M → Prop} {p0 : Nat} {p1 : Int32} {p2 : Nat}  {M : kz_M} (h : (∃ fs6, (M).1 p0 = some (.inl (10, fs6))) ∧ ∃ mc3 ms3, 0 + mc3 ≤ mc ∧ 0 + ms3 ≤ ms ∧ kz_C G (d + 8) mc3 ms3 mX11_setting [.ref p0, .int p1] M (fun v M1 => ∃ r2 : Int32, v = some (.int r2) ∧ (∃ n4 f5, (M1).1 p2 = some (.inr (.long, n4, .inr (.inl f5))) ∧ vp_in (0 : Int32) n4 ∧ (Qr (some (.int 0)) (kz_up M1 p2 (.inr (.long, n4, .inr (.inl (vp_updL f5 (0 : Int32).toNatClampNeg ((r2 : Int32).toInt64))))))))) (fun E M9 => (E = "java/lang/IllegalArgumentException" ∧ Qr (some (.int 1)) M9))) : kz_C G (d + 9) mc ms mL_setting [.ref p0, .int p1, .ref p2] M Qr Qx := by
  refine kz_enter (n := 3) kmL_setting.1 (Nat.le_of_ble_eq_true rfl) (ls := [(0, .ref p0), (1, .int p1), (2, .ref p2)]) rfl ?_
  refine kz_aload_n (pc := 0) 2 (v := .ref p2) (i := 2) rfl rfl rfl dL_setting_0 ?_
  refine kz_iconst (pc := 1) (v := 0) (by decide) dL_setting_1 ?_
  refine kz_aload_n (pc := 2) 0 (v := .ref p0) (i := 0) rfl rfl rfl dL_setting_2 ?_
  refine kz_iload_n (pc := 3) 1 (i := 1) rfl rfl dL_setting_3 ?_
  obtain ⟨⟨fs6, he⟩, h⟩ := h
  obtain ⟨mc3, ms3, hc3, hs3, h⟩ := h
  refine kz_callV (pc := 4) (μ' := mX11_setting) (ci := 10) (q := (RX11, TX11, 10)) (b := p0) (d' := d + 8) (mc' := mc3) (ms' := ms3) (As := [.int p1]) (st := [.int 0, .ref p2]) (c := 0) (sl := 0) kmX11_setting kw_620 (by omega) rfl (Nat.le_of_ble_eq_true rfl) he rfl rfl hc3 hs3 dL_setting_4 (fun E M9 hx => by
        rcases hx with ⟨rfl, hq⟩
        · refine kz_catchN (pre := []) (suf := []) (x := (0, 9, 12, 13)) (i := 3) rfl ⟨by decide, by decide⟩ (by decide) kw_516 kw_551 (fun z hz => absurd hz List.not_mem_nil) rfl (by decide) rfl dL_setting_12 ?_
          refine kz_iconst (pc := 13) (v := 1) (by decide) dL_setting_13 ?_
          exact kz_iret (pc := 14) rfl hc3 hs3 dL_setting_14 hq) (kz_Cmono (fun v M1 h => ?_) (fun _ _ h => h) h)
  obtain ⟨r2, rfl, h⟩ := h
  show kz_Z G (d + 9) mc ms mL_setting Qr Qx 7 [(0, .ref p0), (1, .int p1), (2, .ref p2)] [.int r2, .int 0, .ref p2] M1 (0 + mc3) (0 + ms3)
  refine kz_i2l (pc := 7) dL_setting_7 ?_
  obtain ⟨n4, f5, hM, hi, h⟩ := h
  refine kz_last (pc := 8) hM hi dL_setting_8 ?_
  refine kz_goto (pc := 9) (tgt := 15) (by decide) dL_setting_9 ?_
  refine kz_iconst (pc := 15) (v := 0) (by decide) dL_setting_15 ?_
  exact kz_iret (pc := 16) rfl hc3 hs3 dL_setting_16 h
theorem dL_writer_13 : decode cL_writer 13 = .ok (.astore 4, 2) := by decide +kernel
theorem dL_writer_15 : decode cL_writer 15 = .ok (.iconst 1, 1) := by decide +kernel
theorem dL_writer_16 : decode cL_writer 16 = .ok (.ireturn, 1) := by decide +kernel
theorem dL_writer_17 : decode cL_writer 17 = .ok (.astore 4, 2) := by decide +kernel
theorem dL_writer_19 : decode cL_writer 19 = .ok (.iconst 2, 1) := by decide +kernel
theorem dL_writer_20 : decode cL_writer 20 = .ok (.ireturn, 1) := by decide +kernel
theorem dL_writer_0 : decode cL_writer 0 = .ok (.aload_n 3, 1) := by decide +kernel
theorem dL_writer_1 : decode cL_writer 1 = .ok (.iconst 0, 1) := by decide +kernel
theorem dL_writer_2 : decode cL_writer 2 = .ok (.aload_n 0, 1) := by decide +kernel
theorem dL_writer_3 : decode cL_writer 3 = .ok (.iload_n 1, 1) := by decide +kernel
theorem dL_writer_4 : decode cL_writer 4 = .ok (.iload_n 2, 1) := by decide +kernel
theorem dL_writer_5 : decode cL_writer 5 = .ok (.invokevirtual 18, 3) := by decide +kernel
theorem dL_writer_8 : decode cL_writer 8 = .ok (.i2l, 1) := by decide +kernel
theorem dL_writer_9 : decode cL_writer 9 = .ok (.lastore, 1) := by decide +kernel
theorem dL_writer_10 : decode cL_writer 10 = .ok (.goto 11, 3) := by decide +kernel
theorem dL_writer_21 : decode cL_writer 21 = .ok (.iconst 0, 1) := by decide +kernel
theorem dL_writer_22 : decode cL_writer 22 = .ok (.ireturn, 1) := by decide +kernel
theorem rL_writer_0 {G : kz_G} {d : Nat} {mc ms : Nat} {Qr : Option Value → kz_M → Prop} {Qx : String → kz_M → Prop} {p0 : Nat} {p1 : Int32} {p2 : Int32} {p3 : Nat}  {M : kz_M} (hN : kz_nc G) (h : (∃ fs6, (M).1 p0 = some (.inl (10, fs6))) ∧ ∃ mc3 ms3, 0 + mc3 ≤ mc ∧ 0 + ms3 ≤ ms ∧ kz_C G (d + 8) mc3 ms3 mX11_writer [.ref p0, .int p1, .int p2] M (fun v M1 => ∃ r2 : Int32, v = some (.int r2) ∧ (∃ n4 f5, (M1).1 p3 = some (.inr (.long, n4, .inr (.inl f5))) ∧ vp_in (0 : Int32) n4 ∧ (Qr (some (.int 0)) (kz_up M1 p3 (.inr (.long, n4, .inr (.inl (vp_updL f5 (0 : Int32).toNatClampNeg ((r2 : Int32).toInt64))))))))) (fun E M9 => (E = "java/lang/IndexOutOfBoundsException" ∧ Qr (some (.int 1)) M9) ∨ (E = "java/lang/IllegalArgumentException" ∧ Qr (some (.int 2)) M9))) : kz_C G (d + 9) mc ms mL_writer [.ref p0, .int p1, .int p2, .ref p3] M Qr Qx := by
  refine kz_enter (n := 4) kmL_writer.1 (Nat.le_of_ble_eq_true rfl) (ls := [(0, .ref p0), (1, .int p1), (2, .int p2), (3, .ref p3)]) rfl ?_
  refine kz_aload_n (pc := 0) 3 (v := .ref p3) (i := 3) rfl rfl rfl dL_writer_0 ?_
  refine kz_iconst (pc := 1) (v := 0) (by decide) dL_writer_1 ?_
  refine kz_aload_n (pc := 2) 0 (v := .ref p0) (i := 0) rfl rfl rfl dL_writer_2 ?_
  refine kz_iload_n (pc := 3) 1 (i := 1) rfl rfl dL_writer_3 ?_
  refine kz_iload_n (pc := 4) 2 (i := 2) rfl rfl dL_writer_4 ?_
  obtain ⟨⟨fs6, he⟩, h⟩ := h
  obtain ⟨mc3, ms3, hc3, hs3, h⟩ := h
  refine kz_callV (pc := 5) (μ' := mX11_writer) (ci := 10) (q := (RX11, TX11, 10)) (b := p0) (d' := d + 8) (mc' := mc3) (ms' := ms3) (As := [.int p1, .int p2]) (st := [.int 0, .ref p3]) (c := 0) (sl := 0) kmX11_writer kw_637 (by omega) rfl (Nat.le_of_ble_eq_true rfl) he rfl rfl hc3 hs3 dL_writer_5 (fun E M9 hx => by
        rcases hx with ⟨rfl, hq⟩ | ⟨rfl, hq⟩
        · refine kz_catchS (pre := []) (suf := [(0, 10, 17, 13)]) (x := (0, 10, 13, 22)) (i := 4) rfl ⟨by decide, by decide⟩ (by decide) kw_636 kw_651 (fun z hz => absurd hz List.not_mem_nil) (by decide) rfl dL_writer_13 ?_
          refine kz_iconst (pc := 15) (v := 1) (by decide) dL_writer_15 ?_
          exact kz_iret (pc := 16) rfl hc3 hs3 dL_writer_16 hq
        · refine kz_catchS (pre := [(0, 10, 13, 22)]) (suf := []) (x := (0, 10, 17, 13)) (i := 4) rfl ⟨by decide, by decide⟩ (by decide) kw_516 kw_551 (fun z hz => by rw [List.mem_singleton.mp hz]; exact ⟨by decide, _, kw_636, hN.1⟩) (by decide) rfl dL_writer_17 ?_
          refine kz_iconst (pc := 19) (v := 2) (by decide) dL_writer_19 ?_
          exact kz_iret (pc := 20) rfl hc3 hs3 dL_writer_20 hq) (kz_Cmono (fun v M1 h => ?_) (fun _ _ h => h) h)
  obtain ⟨r2, rfl, h⟩ := h
  show kz_Z G (d + 9) mc ms mL_writer Qr Qx 8 [(0, .ref p0), (1, .int p1), (2, .int p2), (3, .ref p3)] [.int r2, .int 0, .ref p3] M1 (0 + mc3) (0 + ms3)
  refine kz_i2l (pc := 8) dL_writer_8 ?_
  obtain ⟨n4, f5, hM, hi, h⟩ := h
  refine kz_last (pc := 9) hM hi dL_writer_9 ?_
  refine kz_goto (pc := 10) (tgt := 21) (by decide) dL_writer_10 ?_
  refine kz_iconst (pc := 21) (v := 0) (by decide) dL_writer_21 ?_
  exact kz_iret (pc := 22) rfl hc3 hs3 dL_writer_22 h
theorem dL_work_13 : decode cL_work 13 = .ok (.astore 4, 2) := by decide +kernel
theorem dL_work_15 : decode cL_work 15 = .ok (.iconst 1, 1) := by decide +kernel
theorem dL_work_16 : decode cL_work 16 = .ok (.ireturn, 1) := by decide +kernel
theorem dL_work_17 : decode cL_work 17 = .ok (.astore 4, 2) := by decide +kernel
theorem dL_work_19 : decode cL_work 19 = .ok (.iconst 2, 1) := by decide +kernel
theorem dL_work_20 : decode cL_work 20 = .ok (.ireturn, 1) := by decide +kernel
theorem dL_work_0 : decode cL_work 0 = .ok (.aload_n 3, 1) := by decide +kernel
theorem dL_work_1 : decode cL_work 1 = .ok (.iconst 0, 1) := by decide +kernel
theorem dL_work_2 : decode cL_work 2 = .ok (.aload_n 0, 1) := by decide +kernel
theorem dL_work_3 : decode cL_work 3 = .ok (.iload_n 1, 1) := by decide +kernel
theorem dL_work_4 : decode cL_work 4 = .ok (.iload_n 2, 1) := by decide +kernel
theorem dL_work_5 : decode cL_work 5 = .ok (.invokevirtual 24, 3) := by decide +kernel
theorem dL_work_8 : decode cL_work 8 = .ok (.i2l, 1) := by decide +kernel
theorem dL_work_9 : decode cL_work 9 = .ok (.lastore, 1) := by decide +kernel
theorem dL_work_10 : decode cL_work 10 = .ok (.goto 11, 3) := by decide +kernel
theorem dL_work_21 : decode cL_work 21 = .ok (.iconst 0, 1) := by decide +kernel
theorem dL_work_22 : decode cL_work 22 = .ok (.ireturn, 1) := by decide +kernel
theorem rL_work_0 {G : kz_G} {d : Nat} {mc ms : Nat} {Qr : Option Value → kz_M → Prop} {Qx : String → kz_M → Prop} {p0 : Nat} {p1 : Int32} {p2 : Int32} {p3 : Nat}  {M : kz_M} (hN : kz_nc G) (h : (∃ fs6, (M).1 p0 = some (.inl (10, fs6))) ∧ ∃ mc3 ms3, 0 + mc3 ≤ mc ∧ 0 + ms3 ≤ ms ∧ kz_C G (d + 8) mc3 ms3 mX11_work [.ref p0, .int p1, .int p2] M (fun v M1 => ∃ r2 : Int32, v = some (.int r2) ∧ (∃ n4 f5, (M1).1 p3 = some (.inr (.long, n4, .inr (.inl f5))) ∧ vp_in (0 : Int32) n4 ∧ (Qr (some (.int 0)) (kz_up M1 p3 (.inr (.long, n4, .inr (.inl (vp_updL f5 (0 : Int32).toNatClampNeg ((r2 : Int32).toInt64))))))))) (fun E M9 => (E = "java/lang/IndexOutOfBoundsException" ∧ Qr (some (.int 1)) M9) ∨ (E = "java/lang/IllegalArgumentException" ∧ Qr (some (.int 2)) M9))) : kz_C G (d + 9) mc ms mL_work [.ref p0, .int p1, .int p2, .ref p3] M Qr Qx := by
  refine kz_enter (n := 4) kmL_work.1 (Nat.le_of_ble_eq_true rfl) (ls := [(0, .ref p0), (1, .int p1), (2, .int p2), (3, .ref p3)]) rfl ?_
  refine kz_aload_n (pc := 0) 3 (v := .ref p3) (i := 3) rfl rfl rfl dL_work_0 ?_
  refine kz_iconst (pc := 1) (v := 0) (by decide) dL_work_1 ?_
  refine kz_aload_n (pc := 2) 0 (v := .ref p0) (i := 0) rfl rfl rfl dL_work_2 ?_
  refine kz_iload_n (pc := 3) 1 (i := 1) rfl rfl dL_work_3 ?_
  refine kz_iload_n (pc := 4) 2 (i := 2) rfl rfl dL_work_4 ?_
  obtain ⟨⟨fs6, he⟩, h⟩ := h
  obtain ⟨mc3, ms3, hc3, hs3, h⟩ := h
  refine kz_callV (pc := 5) (μ' := mX11_work) (ci := 10) (q := (RX11, TX11, 10)) (b := p0) (d' := d + 8) (mc' := mc3) (ms' := ms3) (As := [.int p1, .int p2]) (st := [.int 0, .ref p3]) (c := 0) (sl := 0) kmX11_work kw_740 (by omega) rfl (Nat.le_of_ble_eq_true rfl) he rfl rfl hc3 hs3 dL_work_5 (fun E M9 hx => by
        rcases hx with ⟨rfl, hq⟩ | ⟨rfl, hq⟩
        · refine kz_catchS (pre := []) (suf := [(0, 10, 17, 13)]) (x := (0, 10, 13, 22)) (i := 4) rfl ⟨by decide, by decide⟩ (by decide) kw_636 kw_651 (fun z hz => absurd hz List.not_mem_nil) (by decide) rfl dL_work_13 ?_
          refine kz_iconst (pc := 15) (v := 1) (by decide) dL_work_15 ?_
          exact kz_iret (pc := 16) rfl hc3 hs3 dL_work_16 hq
        · refine kz_catchS (pre := [(0, 10, 13, 22)]) (suf := []) (x := (0, 10, 17, 13)) (i := 4) rfl ⟨by decide, by decide⟩ (by decide) kw_516 kw_551 (fun z hz => by rw [List.mem_singleton.mp hz]; exact ⟨by decide, _, kw_636, hN.1⟩) (by decide) rfl dL_work_17 ?_
          refine kz_iconst (pc := 19) (v := 2) (by decide) dL_work_19 ?_
          exact kz_iret (pc := 20) rfl hc3 hs3 dL_work_20 hq) (kz_Cmono (fun v M1 h => ?_) (fun _ _ h => h) h)
  obtain ⟨r2, rfl, h⟩ := h
  show kz_Z G (d + 9) mc ms mL_work Qr Qx 8 [(0, .ref p0), (1, .int p1), (2, .int p2), (3, .ref p3)] [.int r2, .int 0, .ref p3] M1 (0 + mc3) (0 + ms3)
  refine kz_i2l (pc := 8) dL_work_8 ?_
  obtain ⟨n4, f5, hM, hi, h⟩ := h
  refine kz_last (pc := 9) hM hi dL_work_9 ?_
  refine kz_goto (pc := 10) (tgt := 21) (by decide) dL_work_10 ?_
  refine kz_iconst (pc := 21) (v := 0) (by decide) dL_work_21 ?_
  exact kz_iret (pc := 22) rfl hc3 hs3 dL_work_22 h
theorem dL_line_15 : decode cL_line 15 = .ok (.astore 5, 2) := by decide +kernel
theorem dL_line_17 : decode cL_line 17 = .ok (.iconst 1, 1) := by decide +kernel
theorem dL_line_18 : decode cL_line 18 = .ok (.ireturn, 1) := by decide +kernel
theorem dL_line_19 : decode cL_line 19 = .ok (.astore 5, 2) := by decide +kernel
theorem dL_line_21 : decode cL_line 21 = .ok (.iconst 2, 1) := by decide +kernel
theorem dL_line_22 : decode cL_line 22 = .ok (.ireturn, 1) := by decide +kernel
theorem dL_line_0 : decode cL_line 0 = .ok (.aload 4, 2) := by decide +kernel
theorem dL_line_2 : decode cL_line 2 = .ok (.iconst 0, 1) := by decide +kernel
theorem dL_line_3 : decode cL_line 3 = .ok (.aload_n 0, 1) := by decide +kernel
theorem dL_line_4 : decode cL_line 4 = .ok (.iload_n 1, 1) := by decide +kernel
theorem dL_line_5 : decode cL_line 5 = .ok (.iload_n 2, 1) := by decide +kernel
theorem dL_line_6 : decode cL_line 6 = .ok (.iload_n 3, 1) := by decide +kernel
theorem dL_line_7 : decode cL_line 7 = .ok (.invokevirtual 27, 3) := by decide +kernel
theorem dL_line_10 : decode cL_line 10 = .ok (.i2l, 1) := by decide +kernel
theorem dL_line_11 : decode cL_line 11 = .ok (.lastore, 1) := by decide +kernel
theorem dL_line_12 : decode cL_line 12 = .ok (.goto 11, 3) := by decide +kernel
theorem dL_line_23 : decode cL_line 23 = .ok (.iconst 0, 1) := by decide +kernel
theorem dL_line_24 : decode cL_line 24 = .ok (.ireturn, 1) := by decide +kernel
theorem rL_line_0 {G : kz_G} {d : Nat} {mc ms : Nat} {Qr : Option Value → kz_M → Prop} {Qx : String → kz_M → Prop} {p0 : Nat} {p1 : Int32} {p2 : Int32} {p3 : Int32} {p4 : Nat}  {M : kz_M} (hN : kz_nc G) (h : (∃ fs6, (M).1 p0 = some (.inl (10, fs6))) ∧ ∃ mc3 ms3, 0 + mc3 ≤ mc ∧ 0 + ms3 ≤ ms ∧ kz_C G (d + 9) mc3 ms3 mX11_line [.ref p0, .int p1, .int p2, .int p3] M (fun v M1 => ∃ r2 : Int32, v = some (.int r2) ∧ (∃ n4 f5, (M1).1 p4 = some (.inr (.long, n4, .inr (.inl f5))) ∧ vp_in (0 : Int32) n4 ∧ (Qr (some (.int 0)) (kz_up M1 p4 (.inr (.long, n4, .inr (.inl (vp_updL f5 (0 : Int32).toNatClampNeg ((r2 : Int32).toInt64))))))))) (fun E M9 => (E = "java/lang/IndexOutOfBoundsException" ∧ Qr (some (.int 1)) M9) ∨ (E = "java/lang/IllegalArgumentException" ∧ Qr (some (.int 2)) M9))) : kz_C G (d + 10) mc ms mL_line [.ref p0, .int p1, .int p2, .int p3, .ref p4] M Qr Qx := by
  refine kz_enter (n := 5) kmL_line.1 (Nat.le_of_ble_eq_true rfl) (ls := [(0, .ref p0), (1, .int p1), (2, .int p2), (3, .int p3), (4, .ref p4)]) rfl ?_
  refine kz_aload (pc := 0) 4 (v := .ref p4) (i := 4) rfl rfl dL_line_0 ?_
  refine kz_iconst (pc := 2) (v := 0) (by decide) dL_line_2 ?_
  refine kz_aload_n (pc := 3) 0 (v := .ref p0) (i := 0) rfl rfl rfl dL_line_3 ?_
  refine kz_iload_n (pc := 4) 1 (i := 1) rfl rfl dL_line_4 ?_
  refine kz_iload_n (pc := 5) 2 (i := 2) rfl rfl dL_line_5 ?_
  refine kz_iload_n (pc := 6) 3 (i := 3) rfl rfl dL_line_6 ?_
  obtain ⟨⟨fs6, he⟩, h⟩ := h
  obtain ⟨mc3, ms3, hc3, hs3, h⟩ := h
  refine kz_callV (pc := 7) (μ' := mX11_line) (ci := 10) (q := (RX11, TX11, 10)) (b := p0) (d' := d + 9) (mc' := mc3) (ms' := ms3) (As := [.int p1, .int p2, .int p3]) (st := [.int 0, .ref p4]) (c := 0) (sl := 0) kmX11_line kw_766 (by omega) rfl (Nat.le_of_ble_eq_true rfl) he rfl rfl hc3 hs3 dL_line_7 (fun E M9 hx => by
        rcases hx with ⟨rfl, hq⟩ | ⟨rfl, hq⟩
        · refine kz_catchS (pre := []) (suf := [(0, 12, 19, 13)]) (x := (0, 12, 15, 22)) (i := 5) rfl ⟨by decide, by decide⟩ (by decide) kw_636 kw_651 (fun z hz => absurd hz List.not_mem_nil) (by decide) rfl dL_line_15 ?_
          refine kz_iconst (pc := 17) (v := 1) (by decide) dL_line_17 ?_
          exact kz_iret (pc := 18) rfl hc3 hs3 dL_line_18 hq
        · refine kz_catchS (pre := [(0, 12, 15, 22)]) (suf := []) (x := (0, 12, 19, 13)) (i := 5) rfl ⟨by decide, by decide⟩ (by decide) kw_516 kw_551 (fun z hz => by rw [List.mem_singleton.mp hz]; exact ⟨by decide, _, kw_636, hN.1⟩) (by decide) rfl dL_line_19 ?_
          refine kz_iconst (pc := 21) (v := 2) (by decide) dL_line_21 ?_
          exact kz_iret (pc := 22) rfl hc3 hs3 dL_line_22 hq) (kz_Cmono (fun v M1 h => ?_) (fun _ _ h => h) h)
  obtain ⟨r2, rfl, h⟩ := h
  show kz_Z G (d + 10) mc ms mL_line Qr Qx 10 [(0, .ref p0), (1, .int p1), (2, .int p2), (3, .int p3), (4, .ref p4)] [.int r2, .int 0, .ref p4] M1 (0 + mc3) (0 + ms3)
  refine kz_i2l (pc := 10) dL_line_10 ?_
  obtain ⟨n4, f5, hM, hi, h⟩ := h
  refine kz_last (pc := 11) hM hi dL_line_11 ?_
  refine kz_goto (pc := 12) (tgt := 23) (by decide) dL_line_12 ?_
  refine kz_iconst (pc := 23) (v := 0) (by decide) dL_line_23 ?_
  exact kz_iret (pc := 24) rfl hc3 hs3 dL_line_24 h
theorem dL_likeLine_13 : decode cL_likeLine 13 = .ok (.astore 4, 2) := by decide +kernel
theorem dL_likeLine_15 : decode cL_likeLine 15 = .ok (.iconst 1, 1) := by decide +kernel
theorem dL_likeLine_16 : decode cL_likeLine 16 = .ok (.ireturn, 1) := by decide +kernel
theorem dL_likeLine_0 : decode cL_likeLine 0 = .ok (.aload_n 3, 1) := by decide +kernel
theorem dL_likeLine_1 : decode cL_likeLine 1 = .ok (.iconst 0, 1) := by decide +kernel
theorem dL_likeLine_2 : decode cL_likeLine 2 = .ok (.aload_n 0, 1) := by decide +kernel
theorem dL_likeLine_3 : decode cL_likeLine 3 = .ok (.iload_n 1, 1) := by decide +kernel
theorem dL_likeLine_4 : decode cL_likeLine 4 = .ok (.iload_n 2, 1) := by decide +kernel
theorem dL_likeLine_5 : decode cL_likeLine 5 = .ok (.invokevirtual 31, 3) := by decide +kernel
theorem dL_likeLine_8 : decode cL_likeLine 8 = .ok (.i2l, 1) := by decide +kernel
theorem dL_likeLine_9 : decode cL_likeLine 9 = .ok (.lastore, 1) := by decide +kernel
theorem dL_likeLine_10 : decode cL_likeLine 10 = .ok (.goto 7, 3) := by decide +kernel
theorem dL_likeLine_17 : decode cL_likeLine 17 = .ok (.iconst 0, 1) := by decide +kernel
theorem dL_likeLine_18 : decode cL_likeLine 18 = .ok (.ireturn, 1) := by decide +kernel
theorem rL_likeLine_0 {G : kz_G} {d : Nat} {mc ms : Nat} {Qr : Option Value → kz_M → Prop} {Qx : String → kz_M → Prop} {p0 : Nat} {p1 : Int32} {p2 : Int32} {p3 : Nat}  {M : kz_M} (h : (∃ fs6, (M).1 p0 = some (.inl (10, fs6))) ∧ ∃ mc3 ms3, 0 + mc3 ≤ mc ∧ 0 + ms3 ≤ ms ∧ kz_C G (d + 9) mc3 ms3 mX11_likeLine [.ref p0, .int p1, .int p2] M (fun v M1 => ∃ r2 : Int32, v = some (.int r2) ∧ (∃ n4 f5, (M1).1 p3 = some (.inr (.long, n4, .inr (.inl f5))) ∧ vp_in (0 : Int32) n4 ∧ (Qr (some (.int 0)) (kz_up M1 p3 (.inr (.long, n4, .inr (.inl (vp_updL f5 (0 : Int32).toNatClampNeg ((r2 : Int32).toInt64))))))))) (fun E M9 => (E = "java/lang/IndexOutOfBoundsException" ∧ Qr (some (.int 1)) M9))) : kz_C G (d + 10) mc ms mL_likeLine [.ref p0, .int p1, .int p2, .ref p3] M Qr Qx := by
  refine kz_enter (n := 4) kmL_likeLine.1 (Nat.le_of_ble_eq_true rfl) (ls := [(0, .ref p0), (1, .int p1), (2, .int p2), (3, .ref p3)]) rfl ?_
  refine kz_aload_n (pc := 0) 3 (v := .ref p3) (i := 3) rfl rfl rfl dL_likeLine_0 ?_
  refine kz_iconst (pc := 1) (v := 0) (by decide) dL_likeLine_1 ?_
  refine kz_aload_n (pc := 2) 0 (v := .ref p0) (i := 0) rfl rfl rfl dL_likeLine_2 ?_
  refine kz_iload_n (pc := 3) 1 (i := 1) rfl rfl dL_likeLine_3 ?_
  refine kz_iload_n (pc := 4) 2 (i := 2) rfl rfl dL_likeLine_4 ?_
  obtain ⟨⟨fs6, he⟩, h⟩ := h
  obtain ⟨mc3, ms3, hc3, hs3, h⟩ := h
  refine kz_callV (pc := 5) (μ' := mX11_likeLine) (ci := 10) (q := (RX11, TX11, 10)) (b := p0) (d' := d + 9) (mc' := mc3) (ms' := ms3) (As := [.int p1, .int p2]) (st := [.int 0, .ref p3]) (c := 0) (sl := 0) kmX11_likeLine kw_785 (by omega) rfl (Nat.le_of_ble_eq_true rfl) he rfl rfl hc3 hs3 dL_likeLine_5 (fun E M9 hx => by
        rcases hx with ⟨rfl, hq⟩
        · refine kz_catchS (pre := []) (suf := []) (x := (0, 10, 13, 22)) (i := 4) rfl ⟨by decide, by decide⟩ (by decide) kw_636 kw_651 (fun z hz => absurd hz List.not_mem_nil) (by decide) rfl dL_likeLine_13 ?_
          refine kz_iconst (pc := 15) (v := 1) (by decide) dL_likeLine_15 ?_
          exact kz_iret (pc := 16) rfl hc3 hs3 dL_likeLine_16 hq) (kz_Cmono (fun v M1 h => ?_) (fun _ _ h => h) h)
  obtain ⟨r2, rfl, h⟩ := h
  show kz_Z G (d + 10) mc ms mL_likeLine Qr Qx 8 [(0, .ref p0), (1, .int p1), (2, .int p2), (3, .ref p3)] [.int r2, .int 0, .ref p3] M1 (0 + mc3) (0 + ms3)
  refine kz_i2l (pc := 8) dL_likeLine_8 ?_
  obtain ⟨n4, f5, hM, hi, h⟩ := h
  refine kz_last (pc := 9) hM hi dL_likeLine_9 ?_
  refine kz_goto (pc := 10) (tgt := 17) (by decide) dL_likeLine_10 ?_
  refine kz_iconst (pc := 17) (v := 0) (by decide) dL_likeLine_17 ?_
  exact kz_iret (pc := 18) rfl hc3 hs3 dL_likeLine_18 h
theorem dL_letters_13 : decode cL_letters 13 = .ok (.astore 4, 2) := by decide +kernel
theorem dL_letters_15 : decode cL_letters 15 = .ok (.iconst 1, 1) := by decide +kernel
theorem dL_letters_16 : decode cL_letters 16 = .ok (.ireturn, 1) := by decide +kernel
theorem dL_letters_0 : decode cL_letters 0 = .ok (.aload_n 3, 1) := by decide +kernel
theorem dL_letters_1 : decode cL_letters 1 = .ok (.iconst 0, 1) := by decide +kernel
theorem dL_letters_2 : decode cL_letters 2 = .ok (.aload_n 0, 1) := by decide +kernel
theorem dL_letters_3 : decode cL_letters 3 = .ok (.iload_n 1, 1) := by decide +kernel
theorem dL_letters_4 : decode cL_letters 4 = .ok (.iload_n 2, 1) := by decide +kernel
theorem dL_letters_5 : decode cL_letters 5 = .ok (.invokevirtual 34, 3) := by decide +kernel
theorem dL_letters_8 : decode cL_letters 8 = .ok (.i2l, 1) := by decide +kernel
theorem dL_letters_9 : decode cL_letters 9 = .ok (.lastore, 1) := by decide +kernel
theorem dL_letters_10 : decode cL_letters 10 = .ok (.goto 7, 3) := by decide +kernel
theorem dL_letters_17 : decode cL_letters 17 = .ok (.iconst 0, 1) := by decide +kernel
theorem dL_letters_18 : decode cL_letters 18 = .ok (.ireturn, 1) := by decide +kernel
theorem rL_letters_0 {G : kz_G} {d : Nat} {mc ms : Nat} {Qr : Option Value → kz_M → Prop} {Qx : String → kz_M → Prop} {p0 : Nat} {p1 : Int32} {p2 : Int32} {p3 : Nat}  {M : kz_M} (h : (∃ fs6, (M).1 p0 = some (.inl (10, fs6))) ∧ ∃ mc3 ms3, 0 + mc3 ≤ mc ∧ 0 + ms3 ≤ ms ∧ kz_C G (d + 8) mc3 ms3 mX11_letters [.ref p0, .int p1, .int p2] M (fun v M1 => ∃ r2 : Int32, v = some (.int r2) ∧ (∃ n4 f5, (M1).1 p3 = some (.inr (.long, n4, .inr (.inl f5))) ∧ vp_in (0 : Int32) n4 ∧ (Qr (some (.int 0)) (kz_up M1 p3 (.inr (.long, n4, .inr (.inl (vp_updL f5 (0 : Int32).toNatClampNeg ((r2 : Int32).toInt64))))))))) (fun E M9 => (E = "java/lang/IndexOutOfBoundsException" ∧ Qr (some (.int 1)) M9))) : kz_C G (d + 9) mc ms mL_letters [.ref p0, .int p1, .int p2, .ref p3] M Qr Qx := by
  refine kz_enter (n := 4) kmL_letters.1 (Nat.le_of_ble_eq_true rfl) (ls := [(0, .ref p0), (1, .int p1), (2, .int p2), (3, .ref p3)]) rfl ?_
  refine kz_aload_n (pc := 0) 3 (v := .ref p3) (i := 3) rfl rfl rfl dL_letters_0 ?_
  refine kz_iconst (pc := 1) (v := 0) (by decide) dL_letters_1 ?_
  refine kz_aload_n (pc := 2) 0 (v := .ref p0) (i := 0) rfl rfl rfl dL_letters_2 ?_
  refine kz_iload_n (pc := 3) 1 (i := 1) rfl rfl dL_letters_3 ?_
  refine kz_iload_n (pc := 4) 2 (i := 2) rfl rfl dL_letters_4 ?_
  obtain ⟨⟨fs6, he⟩, h⟩ := h
  obtain ⟨mc3, ms3, hc3, hs3, h⟩ := h
  refine kz_callV (pc := 5) (μ' := mX11_letters) (ci := 10) (q := (RX11, TX11, 10)) (b := p0) (d' := d + 8) (mc' := mc3) (ms' := ms3) (As := [.int p1, .int p2]) (st := [.int 0, .ref p3]) (c := 0) (sl := 0) kmX11_letters kw_801 (by omega) rfl (Nat.le_of_ble_eq_true rfl) he rfl rfl hc3 hs3 dL_letters_5 (fun E M9 hx => by
        rcases hx with ⟨rfl, hq⟩
        · refine kz_catchS (pre := []) (suf := []) (x := (0, 10, 13, 22)) (i := 4) rfl ⟨by decide, by decide⟩ (by decide) kw_636 kw_651 (fun z hz => absurd hz List.not_mem_nil) (by decide) rfl dL_letters_13 ?_
          refine kz_iconst (pc := 15) (v := 1) (by decide) dL_letters_15 ?_
          exact kz_iret (pc := 16) rfl hc3 hs3 dL_letters_16 hq) (kz_Cmono (fun v M1 h => ?_) (fun _ _ h => h) h)
  obtain ⟨r2, rfl, h⟩ := h
  show kz_Z G (d + 9) mc ms mL_letters Qr Qx 8 [(0, .ref p0), (1, .int p1), (2, .int p2), (3, .ref p3)] [.int r2, .int 0, .ref p3] M1 (0 + mc3) (0 + ms3)
  refine kz_i2l (pc := 8) dL_letters_8 ?_
  obtain ⟨n4, f5, hM, hi, h⟩ := h
  refine kz_last (pc := 9) hM hi dL_letters_9 ?_
  refine kz_goto (pc := 10) (tgt := 17) (by decide) dL_letters_10 ?_
  refine kz_iconst (pc := 17) (v := 0) (by decide) dL_letters_17 ?_
  exact kz_iret (pc := 18) rfl hc3 hs3 dL_letters_18 h
theorem dL_uses_12 : decode cL_uses 12 = .ok (.astore_n 3, 1) := by decide +kernel
theorem dL_uses_13 : decode cL_uses 13 = .ok (.iconst 1, 1) := by decide +kernel
theorem dL_uses_14 : decode cL_uses 14 = .ok (.ireturn, 1) := by decide +kernel
theorem dL_uses_0 : decode cL_uses 0 = .ok (.aload_n 2, 1) := by decide +kernel
theorem dL_uses_1 : decode cL_uses 1 = .ok (.iconst 0, 1) := by decide +kernel
theorem dL_uses_2 : decode cL_uses 2 = .ok (.aload_n 0, 1) := by decide +kernel
theorem dL_uses_3 : decode cL_uses 3 = .ok (.iload_n 1, 1) := by decide +kernel
theorem dL_uses_4 : decode cL_uses 4 = .ok (.invokevirtual 37, 3) := by decide +kernel
theorem dL_uses_7 : decode cL_uses 7 = .ok (.i2l, 1) := by decide +kernel
theorem dL_uses_8 : decode cL_uses 8 = .ok (.lastore, 1) := by decide +kernel
theorem dL_uses_9 : decode cL_uses 9 = .ok (.goto 6, 3) := by decide +kernel
theorem dL_uses_15 : decode cL_uses 15 = .ok (.iconst 0, 1) := by decide +kernel
theorem dL_uses_16 : decode cL_uses 16 = .ok (.ireturn, 1) := by decide +kernel
theorem rL_uses_0 {G : kz_G} {d : Nat} {mc ms : Nat} {Qr : Option Value → kz_M → Prop} {Qx : String → kz_M → Prop} {p0 : Nat} {p1 : Int32} {p2 : Nat}  {M : kz_M} (h : (∃ fs6, (M).1 p0 = some (.inl (10, fs6))) ∧ ∃ mc3 ms3, 0 + mc3 ≤ mc ∧ 0 + ms3 ≤ ms ∧ kz_C G (d + 8) mc3 ms3 mX11_uses [.ref p0, .int p1] M (fun v M1 => ∃ r2 : Int32, v = some (.int r2) ∧ (∃ n4 f5, (M1).1 p2 = some (.inr (.long, n4, .inr (.inl f5))) ∧ vp_in (0 : Int32) n4 ∧ (Qr (some (.int 0)) (kz_up M1 p2 (.inr (.long, n4, .inr (.inl (vp_updL f5 (0 : Int32).toNatClampNeg ((r2 : Int32).toInt64))))))))) (fun E M9 => (E = "java/lang/IndexOutOfBoundsException" ∧ Qr (some (.int 1)) M9))) : kz_C G (d + 9) mc ms mL_uses [.ref p0, .int p1, .ref p2] M Qr Qx := by
  refine kz_enter (n := 3) kmL_uses.1 (Nat.le_of_ble_eq_true rfl) (ls := [(0, .ref p0), (1, .int p1), (2, .ref p2)]) rfl ?_
  refine kz_aload_n (pc := 0) 2 (v := .ref p2) (i := 2) rfl rfl rfl dL_uses_0 ?_
  refine kz_iconst (pc := 1) (v := 0) (by decide) dL_uses_1 ?_
  refine kz_aload_n (pc := 2) 0 (v := .ref p0) (i := 0) rfl rfl rfl dL_uses_2 ?_
  refine kz_iload_n (pc := 3) 1 (i := 1) rfl rfl dL_uses_3 ?_
  obtain ⟨⟨fs6, he⟩, h⟩ := h
  obtain ⟨mc3, ms3, hc3, hs3, h⟩ := h
  refine kz_callV (pc := 4) (μ' := mX11_uses) (ci := 10) (q := (RX11, TX11, 10)) (b := p0) (d' := d + 8) (mc' := mc3) (ms' := ms3) (As := [.int p1]) (st := [.int 0, .ref p2]) (c := 0) (sl := 0) kmX11_uses kw_809 (by omega) rfl (Nat.le_of_ble_eq_true rfl) he rfl rfl hc3 hs3 dL_uses_4 (fun E M9 hx => by
        rcases hx with ⟨rfl, hq⟩
        · refine kz_catchN (pre := []) (suf := []) (x := (0, 9, 12, 22)) (i := 3) rfl ⟨by decide, by decide⟩ (by decide) kw_636 kw_651 (fun z hz => absurd hz List.not_mem_nil) rfl (by decide) rfl dL_uses_12 ?_
          refine kz_iconst (pc := 13) (v := 1) (by decide) dL_uses_13 ?_
          exact kz_iret (pc := 14) rfl hc3 hs3 dL_uses_14 hq) (kz_Cmono (fun v M1 h => ?_) (fun _ _ h => h) h)
  obtain ⟨r2, rfl, h⟩ := h
  show kz_Z G (d + 9) mc ms mL_uses Qr Qx 7 [(0, .ref p0), (1, .int p1), (2, .ref p2)] [.int r2, .int 0, .ref p2] M1 (0 + mc3) (0 + ms3)
  refine kz_i2l (pc := 7) dL_uses_7 ?_
  obtain ⟨n4, f5, hM, hi, h⟩ := h
  refine kz_last (pc := 8) hM hi dL_uses_8 ?_
  refine kz_goto (pc := 9) (tgt := 15) (by decide) dL_uses_9 ?_
  refine kz_iconst (pc := 15) (v := 0) (by decide) dL_uses_15 ?_
  exact kz_iret (pc := 16) rfl hc3 hs3 dL_uses_16 h
theorem dL_favourite_12 : decode cL_favourite 12 = .ok (.astore_n 3, 1) := by decide +kernel
theorem dL_favourite_13 : decode cL_favourite 13 = .ok (.iconst 1, 1) := by decide +kernel
theorem dL_favourite_14 : decode cL_favourite 14 = .ok (.ireturn, 1) := by decide +kernel
theorem dL_favourite_0 : decode cL_favourite 0 = .ok (.aload_n 2, 1) := by decide +kernel
theorem dL_favourite_1 : decode cL_favourite 1 = .ok (.iconst 0, 1) := by decide +kernel
theorem dL_favourite_2 : decode cL_favourite 2 = .ok (.aload_n 0, 1) := by decide +kernel
theorem dL_favourite_3 : decode cL_favourite 3 = .ok (.iload_n 1, 1) := by decide +kernel
theorem dL_favourite_4 : decode cL_favourite 4 = .ok (.invokevirtual 40, 3) := by decide +kernel
theorem dL_favourite_7 : decode cL_favourite 7 = .ok (.i2l, 1) := by decide +kernel
theorem dL_favourite_8 : decode cL_favourite 8 = .ok (.lastore, 1) := by decide +kernel
theorem dL_favourite_9 : decode cL_favourite 9 = .ok (.goto 6, 3) := by decide +kernel
theorem dL_favourite_15 : decode cL_favourite 15 = .ok (.iconst 0, 1) := by decide +kernel
theorem dL_favourite_16 : decode cL_favourite 16 = .ok (.ireturn, 1) := by decide +kernel
theorem rL_favourite_0 {G : kz_G} {d : Nat} {mc ms : Nat} {Qr : Option Value → kz_M → Prop} {Qx : String → kz_M → Prop} {p0 : Nat} {p1 : Int32} {p2 : Nat}  {M : kz_M} (h : (∃ fs6, (M).1 p0 = some (.inl (10, fs6))) ∧ ∃ mc3 ms3, 0 + mc3 ≤ mc ∧ 0 + ms3 ≤ ms ∧ kz_C G (d + 8) mc3 ms3 mX11_favourite [.ref p0, .int p1] M (fun v M1 => ∃ r2 : Int32, v = some (.int r2) ∧ (∃ n4 f5, (M1).1 p2 = some (.inr (.long, n4, .inr (.inl f5))) ∧ vp_in (0 : Int32) n4 ∧ (Qr (some (.int 0)) (kz_up M1 p2 (.inr (.long, n4, .inr (.inl (vp_updL f5 (0 : Int32).toNatClampNeg ((r2 : Int32).toInt64))))))))) (fun E M9 => (E = "java/lang/IndexOutOfBoundsException" ∧ Qr (some (.int 1)) M9))) : kz_C G (d + 9) mc ms mL_favourite [.ref p0, .int p1, .ref p2] M Qr Qx := by
  refine kz_enter (n := 3) kmL_favourite.1 (Nat.le_of_ble_eq_true rfl) (ls := [(0, .ref p0), (1, .int p1), (2, .ref p2)]) rfl ?_
  refine kz_aload_n (pc := 0) 2 (v := .ref p2) (i := 2) rfl rfl rfl dL_favourite_0 ?_
  refine kz_iconst (pc := 1) (v := 0) (by decide) dL_favourite_1 ?_
  refine kz_aload_n (pc := 2) 0 (v := .ref p0) (i := 0) rfl rfl rfl dL_favourite_2 ?_
  refine kz_iload_n (pc := 3) 1 (i := 1) rfl rfl dL_favourite_3 ?_
  obtain ⟨⟨fs6, he⟩, h⟩ := h
  obtain ⟨mc3, ms3, hc3, hs3, h⟩ := h
  refine kz_callV (pc := 4) (μ' := mX11_favourite) (ci := 10) (q := (RX11, TX11, 10)) (b := p0) (d' := d + 8) (mc' := mc3) (ms' := ms3) (As := [.int p1]) (st := [.int 0, .ref p2]) (c := 0) (sl := 0) kmX11_favourite kw_816 (by omega) rfl (Nat.le_of_ble_eq_true rfl) he rfl rfl hc3 hs3 dL_favourite_4 (fun E M9 hx => by
        rcases hx with ⟨rfl, hq⟩
        · refine kz_catchN (pre := []) (suf := []) (x := (0, 9, 12, 22)) (i := 3) rfl ⟨by decide, by decide⟩ (by decide) kw_636 kw_651 (fun z hz => absurd hz List.not_mem_nil) rfl (by decide) rfl dL_favourite_12 ?_
          refine kz_iconst (pc := 13) (v := 1) (by decide) dL_favourite_13 ?_
          exact kz_iret (pc := 14) rfl hc3 hs3 dL_favourite_14 hq) (kz_Cmono (fun v M1 h => ?_) (fun _ _ h => h) h)
  obtain ⟨r2, rfl, h⟩ := h
  show kz_Z G (d + 9) mc ms mL_favourite Qr Qx 7 [(0, .ref p0), (1, .int p1), (2, .ref p2)] [.int r2, .int 0, .ref p2] M1 (0 + mc3) (0 + ms3)
  refine kz_i2l (pc := 7) dL_favourite_7 ?_
  obtain ⟨n4, f5, hM, hi, h⟩ := h
  refine kz_last (pc := 8) hM hi dL_favourite_8 ?_
  refine kz_goto (pc := 9) (tgt := 15) (by decide) dL_favourite_9 ?_
  refine kz_iconst (pc := 15) (v := 0) (by decide) dL_favourite_15 ?_
  exact kz_iret (pc := 16) rfl hc3 hs3 dL_favourite_16 h
theorem dL_common_13 : decode cL_common 13 = .ok (.astore 4, 2) := by decide +kernel
theorem dL_common_15 : decode cL_common 15 = .ok (.iconst 1, 1) := by decide +kernel
theorem dL_common_16 : decode cL_common 16 = .ok (.ireturn, 1) := by decide +kernel
theorem dL_common_0 : decode cL_common 0 = .ok (.aload_n 3, 1) := by decide +kernel
theorem dL_common_1 : decode cL_common 1 = .ok (.iconst 0, 1) := by decide +kernel
theorem dL_common_2 : decode cL_common 2 = .ok (.aload_n 0, 1) := by decide +kernel
theorem dL_common_3 : decode cL_common 3 = .ok (.iload_n 1, 1) := by decide +kernel
theorem dL_common_4 : decode cL_common 4 = .ok (.iload_n 2, 1) := by decide +kernel
theorem dL_common_5 : decode cL_common 5 = .ok (.invokevirtual 43, 3) := by decide +kernel
theorem dL_common_8 : decode cL_common 8 = .ok (.i2l, 1) := by decide +kernel
theorem dL_common_9 : decode cL_common 9 = .ok (.lastore, 1) := by decide +kernel
theorem dL_common_10 : decode cL_common 10 = .ok (.goto 7, 3) := by decide +kernel
theorem dL_common_17 : decode cL_common 17 = .ok (.iconst 0, 1) := by decide +kernel
theorem dL_common_18 : decode cL_common 18 = .ok (.ireturn, 1) := by decide +kernel
theorem rL_common_0 {G : kz_G} {d : Nat} {mc ms : Nat} {Qr : Option Value → kz_M → Prop} {Qx : String → kz_M → Prop} {p0 : Nat} {p1 : Int32} {p2 : Int32} {p3 : Nat}  {M : kz_M} (h : (∃ fs6, (M).1 p0 = some (.inl (10, fs6))) ∧ ∃ mc3 ms3, 0 + mc3 ≤ mc ∧ 0 + ms3 ≤ ms ∧ kz_C G (d + 8) mc3 ms3 mX11_common [.ref p0, .int p1, .int p2] M (fun v M1 => ∃ r2 : Int32, v = some (.int r2) ∧ (∃ n4 f5, (M1).1 p3 = some (.inr (.long, n4, .inr (.inl f5))) ∧ vp_in (0 : Int32) n4 ∧ (Qr (some (.int 0)) (kz_up M1 p3 (.inr (.long, n4, .inr (.inl (vp_updL f5 (0 : Int32).toNatClampNeg ((r2 : Int32).toInt64))))))))) (fun E M9 => (E = "java/lang/IndexOutOfBoundsException" ∧ Qr (some (.int 1)) M9))) : kz_C G (d + 9) mc ms mL_common [.ref p0, .int p1, .int p2, .ref p3] M Qr Qx := by
  refine kz_enter (n := 4) kmL_common.1 (Nat.le_of_ble_eq_true rfl) (ls := [(0, .ref p0), (1, .int p1), (2, .int p2), (3, .ref p3)]) rfl ?_
  refine kz_aload_n (pc := 0) 3 (v := .ref p3) (i := 3) rfl rfl rfl dL_common_0 ?_
  refine kz_iconst (pc := 1) (v := 0) (by decide) dL_common_1 ?_
  refine kz_aload_n (pc := 2) 0 (v := .ref p0) (i := 0) rfl rfl rfl dL_common_2 ?_
  refine kz_iload_n (pc := 3) 1 (i := 1) rfl rfl dL_common_3 ?_
  refine kz_iload_n (pc := 4) 2 (i := 2) rfl rfl dL_common_4 ?_
  obtain ⟨⟨fs6, he⟩, h⟩ := h
  obtain ⟨mc3, ms3, hc3, hs3, h⟩ := h
  refine kz_callV (pc := 5) (μ' := mX11_common) (ci := 10) (q := (RX11, TX11, 10)) (b := p0) (d' := d + 8) (mc' := mc3) (ms' := ms3) (As := [.int p1, .int p2]) (st := [.int 0, .ref p3]) (c := 0) (sl := 0) kmX11_common kw_823 (by omega) rfl (Nat.le_of_ble_eq_true rfl) he rfl rfl hc3 hs3 dL_common_5 (fun E M9 hx => by
        rcases hx with ⟨rfl, hq⟩
        · refine kz_catchS (pre := []) (suf := []) (x := (0, 10, 13, 22)) (i := 4) rfl ⟨by decide, by decide⟩ (by decide) kw_636 kw_651 (fun z hz => absurd hz List.not_mem_nil) (by decide) rfl dL_common_13 ?_
          refine kz_iconst (pc := 15) (v := 1) (by decide) dL_common_15 ?_
          exact kz_iret (pc := 16) rfl hc3 hs3 dL_common_16 hq) (kz_Cmono (fun v M1 h => ?_) (fun _ _ h => h) h)
  obtain ⟨r2, rfl, h⟩ := h
  show kz_Z G (d + 9) mc ms mL_common Qr Qx 8 [(0, .ref p0), (1, .int p1), (2, .int p2), (3, .ref p3)] [.int r2, .int 0, .ref p3] M1 (0 + mc3) (0 + ms3)
  refine kz_i2l (pc := 8) dL_common_8 ?_
  obtain ⟨n4, f5, hM, hi, h⟩ := h
  refine kz_last (pc := 9) hM hi dL_common_9 ?_
  refine kz_goto (pc := 10) (tgt := 17) (by decide) dL_common_10 ?_
  refine kz_iconst (pc := 17) (v := 0) (by decide) dL_common_17 ?_
  exact kz_iret (pc := 18) rfl hc3 hs3 dL_common_18 h
theorem dL_newWords_12 : decode cL_newWords 12 = .ok (.astore_n 3, 1) := by decide +kernel
theorem dL_newWords_13 : decode cL_newWords 13 = .ok (.iconst 1, 1) := by decide +kernel
theorem dL_newWords_14 : decode cL_newWords 14 = .ok (.ireturn, 1) := by decide +kernel
theorem dL_newWords_0 : decode cL_newWords 0 = .ok (.aload_n 2, 1) := by decide +kernel
theorem dL_newWords_1 : decode cL_newWords 1 = .ok (.iconst 0, 1) := by decide +kernel
theorem dL_newWords_2 : decode cL_newWords 2 = .ok (.aload_n 0, 1) := by decide +kernel
theorem dL_newWords_3 : decode cL_newWords 3 = .ok (.iload_n 1, 1) := by decide +kernel
theorem dL_newWords_4 : decode cL_newWords 4 = .ok (.invokevirtual 46, 3) := by decide +kernel
theorem dL_newWords_7 : decode cL_newWords 7 = .ok (.i2l, 1) := by decide +kernel
theorem dL_newWords_8 : decode cL_newWords 8 = .ok (.lastore, 1) := by decide +kernel
theorem dL_newWords_9 : decode cL_newWords 9 = .ok (.goto 6, 3) := by decide +kernel
theorem dL_newWords_15 : decode cL_newWords 15 = .ok (.iconst 0, 1) := by decide +kernel
theorem dL_newWords_16 : decode cL_newWords 16 = .ok (.ireturn, 1) := by decide +kernel
theorem rL_newWords_0 {G : kz_G} {d : Nat} {mc ms : Nat} {Qr : Option Value → kz_M → Prop} {Qx : String → kz_M → Prop} {p0 : Nat} {p1 : Int32} {p2 : Nat}  {M : kz_M} (h : (∃ fs6, (M).1 p0 = some (.inl (10, fs6))) ∧ ∃ mc3 ms3, 0 + mc3 ≤ mc ∧ 0 + ms3 ≤ ms ∧ kz_C G (d + 8) mc3 ms3 mX11_newWords [.ref p0, .int p1] M (fun v M1 => ∃ r2 : Int32, v = some (.int r2) ∧ (∃ n4 f5, (M1).1 p2 = some (.inr (.long, n4, .inr (.inl f5))) ∧ vp_in (0 : Int32) n4 ∧ (Qr (some (.int 0)) (kz_up M1 p2 (.inr (.long, n4, .inr (.inl (vp_updL f5 (0 : Int32).toNatClampNeg ((r2 : Int32).toInt64))))))))) (fun E M9 => (E = "java/lang/IndexOutOfBoundsException" ∧ Qr (some (.int 1)) M9))) : kz_C G (d + 9) mc ms mL_newWords [.ref p0, .int p1, .ref p2] M Qr Qx := by
  refine kz_enter (n := 3) kmL_newWords.1 (Nat.le_of_ble_eq_true rfl) (ls := [(0, .ref p0), (1, .int p1), (2, .ref p2)]) rfl ?_
  refine kz_aload_n (pc := 0) 2 (v := .ref p2) (i := 2) rfl rfl rfl dL_newWords_0 ?_
  refine kz_iconst (pc := 1) (v := 0) (by decide) dL_newWords_1 ?_
  refine kz_aload_n (pc := 2) 0 (v := .ref p0) (i := 0) rfl rfl rfl dL_newWords_2 ?_
  refine kz_iload_n (pc := 3) 1 (i := 1) rfl rfl dL_newWords_3 ?_
  obtain ⟨⟨fs6, he⟩, h⟩ := h
  obtain ⟨mc3, ms3, hc3, hs3, h⟩ := h
  refine kz_callV (pc := 4) (μ' := mX11_newWords) (ci := 10) (q := (RX11, TX11, 10)) (b := p0) (d' := d + 8) (mc' := mc3) (ms' := ms3) (As := [.int p1]) (st := [.int 0, .ref p2]) (c := 0) (sl := 0) kmX11_newWords kw_831 (by omega) rfl (Nat.le_of_ble_eq_true rfl) he rfl rfl hc3 hs3 dL_newWords_4 (fun E M9 hx => by
        rcases hx with ⟨rfl, hq⟩
        · refine kz_catchN (pre := []) (suf := []) (x := (0, 9, 12, 22)) (i := 3) rfl ⟨by decide, by decide⟩ (by decide) kw_636 kw_651 (fun z hz => absurd hz List.not_mem_nil) rfl (by decide) rfl dL_newWords_12 ?_
          refine kz_iconst (pc := 13) (v := 1) (by decide) dL_newWords_13 ?_
          exact kz_iret (pc := 14) rfl hc3 hs3 dL_newWords_14 hq) (kz_Cmono (fun v M1 h => ?_) (fun _ _ h => h) h)
  obtain ⟨r2, rfl, h⟩ := h
  show kz_Z G (d + 9) mc ms mL_newWords Qr Qx 7 [(0, .ref p0), (1, .int p1), (2, .ref p2)] [.int r2, .int 0, .ref p2] M1 (0 + mc3) (0 + ms3)
  refine kz_i2l (pc := 7) dL_newWords_7 ?_
  obtain ⟨n4, f5, hM, hi, h⟩ := h
  refine kz_last (pc := 8) hM hi dL_newWords_8 ?_
  refine kz_goto (pc := 9) (tgt := 15) (by decide) dL_newWords_9 ?_
  refine kz_iconst (pc := 15) (v := 0) (by decide) dL_newWords_15 ?_
  exact kz_iret (pc := 16) rfl hc3 hs3 dL_newWords_16 h
theorem dL_widest_12 : decode cL_widest 12 = .ok (.astore_n 3, 1) := by decide +kernel
theorem dL_widest_13 : decode cL_widest 13 = .ok (.iconst 1, 1) := by decide +kernel
theorem dL_widest_14 : decode cL_widest 14 = .ok (.ireturn, 1) := by decide +kernel
theorem dL_widest_0 : decode cL_widest 0 = .ok (.aload_n 2, 1) := by decide +kernel
theorem dL_widest_1 : decode cL_widest 1 = .ok (.iconst 0, 1) := by decide +kernel
theorem dL_widest_2 : decode cL_widest 2 = .ok (.aload_n 0, 1) := by decide +kernel
theorem dL_widest_3 : decode cL_widest 3 = .ok (.iload_n 1, 1) := by decide +kernel
theorem dL_widest_4 : decode cL_widest 4 = .ok (.invokevirtual 49, 3) := by decide +kernel
theorem dL_widest_7 : decode cL_widest 7 = .ok (.i2l, 1) := by decide +kernel
theorem dL_widest_8 : decode cL_widest 8 = .ok (.lastore, 1) := by decide +kernel
theorem dL_widest_9 : decode cL_widest 9 = .ok (.goto 6, 3) := by decide +kernel
theorem dL_widest_15 : decode cL_widest 15 = .ok (.iconst 0, 1) := by decide +kernel
theorem dL_widest_16 : decode cL_widest 16 = .ok (.ireturn, 1) := by decide +kernel
theorem rL_widest_0 {G : kz_G} {d : Nat} {mc ms : Nat} {Qr : Option Value → kz_M → Prop} {Qx : String → kz_M → Prop} {p0 : Nat} {p1 : Int32} {p2 : Nat}  {M : kz_M} (h : (∃ fs6, (M).1 p0 = some (.inl (10, fs6))) ∧ ∃ mc3 ms3, 0 + mc3 ≤ mc ∧ 0 + ms3 ≤ ms ∧ kz_C G (d + 8) mc3 ms3 mX11_widest [.ref p0, .int p1] M (fun v M1 => ∃ r2 : Int32, v = some (.int r2) ∧ (∃ n4 f5, (M1).1 p2 = some (.inr (.long, n4, .inr (.inl f5))) ∧ vp_in (0 : Int32) n4 ∧ (Qr (some (.int 0)) (kz_up M1 p2 (.inr (.long, n4, .inr (.inl (vp_updL f5 (0 : Int32).toNatClampNeg ((r2 : Int32).toInt64))))))))) (fun E M9 => (E = "java/lang/IndexOutOfBoundsException" ∧ Qr (some (.int 1)) M9))) : kz_C G (d + 9) mc ms mL_widest [.ref p0, .int p1, .ref p2] M Qr Qx := by
  refine kz_enter (n := 3) kmL_widest.1 (Nat.le_of_ble_eq_true rfl) (ls := [(0, .ref p0), (1, .int p1), (2, .ref p2)]) rfl ?_
  refine kz_aload_n (pc := 0) 2 (v := .ref p2) (i := 2) rfl rfl rfl dL_widest_0 ?_
  refine kz_iconst (pc := 1) (v := 0) (by decide) dL_widest_1 ?_
  refine kz_aload_n (pc := 2) 0 (v := .ref p0) (i := 0) rfl rfl rfl dL_widest_2 ?_
  refine kz_iload_n (pc := 3) 1 (i := 1) rfl rfl dL_widest_3 ?_
  obtain ⟨⟨fs6, he⟩, h⟩ := h
  obtain ⟨mc3, ms3, hc3, hs3, h⟩ := h
  refine kz_callV (pc := 4) (μ' := mX11_widest) (ci := 10) (q := (RX11, TX11, 10)) (b := p0) (d' := d + 8) (mc' := mc3) (ms' := ms3) (As := [.int p1]) (st := [.int 0, .ref p2]) (c := 0) (sl := 0) kmX11_widest kw_838 (by omega) rfl (Nat.le_of_ble_eq_true rfl) he rfl rfl hc3 hs3 dL_widest_4 (fun E M9 hx => by
        rcases hx with ⟨rfl, hq⟩
        · refine kz_catchN (pre := []) (suf := []) (x := (0, 9, 12, 22)) (i := 3) rfl ⟨by decide, by decide⟩ (by decide) kw_636 kw_651 (fun z hz => absurd hz List.not_mem_nil) rfl (by decide) rfl dL_widest_12 ?_
          refine kz_iconst (pc := 13) (v := 1) (by decide) dL_widest_13 ?_
          exact kz_iret (pc := 14) rfl hc3 hs3 dL_widest_14 hq) (kz_Cmono (fun v M1 h => ?_) (fun _ _ h => h) h)
  obtain ⟨r2, rfl, h⟩ := h
  show kz_Z G (d + 9) mc ms mL_widest Qr Qx 7 [(0, .ref p0), (1, .int p1), (2, .ref p2)] [.int r2, .int 0, .ref p2] M1 (0 + mc3) (0 + ms3)
  refine kz_i2l (pc := 7) dL_widest_7 ?_
  obtain ⟨n4, f5, hM, hi, h⟩ := h
  refine kz_last (pc := 8) hM hi dL_widest_8 ?_
  refine kz_goto (pc := 9) (tgt := 15) (by decide) dL_widest_9 ?_
  refine kz_iconst (pc := 15) (v := 0) (by decide) dL_widest_15 ?_
  exact kz_iret (pc := 16) rfl hc3 hs3 dL_widest_16 h
theorem dL_copiedFrom_12 : decode cL_copiedFrom 12 = .ok (.astore_n 3, 1) := by decide +kernel
theorem dL_copiedFrom_13 : decode cL_copiedFrom 13 = .ok (.iconst 1, 1) := by decide +kernel
theorem dL_copiedFrom_14 : decode cL_copiedFrom 14 = .ok (.ireturn, 1) := by decide +kernel
theorem dL_copiedFrom_0 : decode cL_copiedFrom 0 = .ok (.aload_n 2, 1) := by decide +kernel
theorem dL_copiedFrom_1 : decode cL_copiedFrom 1 = .ok (.iconst 0, 1) := by decide +kernel
theorem dL_copiedFrom_2 : decode cL_copiedFrom 2 = .ok (.aload_n 0, 1) := by decide +kernel
theorem dL_copiedFrom_3 : decode cL_copiedFrom 3 = .ok (.iload_n 1, 1) := by decide +kernel
theorem dL_copiedFrom_4 : decode cL_copiedFrom 4 = .ok (.invokevirtual 52, 3) := by decide +kernel
theorem dL_copiedFrom_7 : decode cL_copiedFrom 7 = .ok (.i2l, 1) := by decide +kernel
theorem dL_copiedFrom_8 : decode cL_copiedFrom 8 = .ok (.lastore, 1) := by decide +kernel
theorem dL_copiedFrom_9 : decode cL_copiedFrom 9 = .ok (.goto 6, 3) := by decide +kernel
theorem dL_copiedFrom_15 : decode cL_copiedFrom 15 = .ok (.iconst 0, 1) := by decide +kernel
theorem dL_copiedFrom_16 : decode cL_copiedFrom 16 = .ok (.ireturn, 1) := by decide +kernel
theorem rL_copiedFrom_0 {G : kz_G} {d : Nat} {mc ms : Nat} {Qr : Option Value → kz_M → Prop} {Qx : String → kz_M → Prop} {p0 : Nat} {p1 : Int32} {p2 : Nat}  {M : kz_M} (h : (∃ fs6, (M).1 p0 = some (.inl (10, fs6))) ∧ ∃ mc3 ms3, 0 + mc3 ≤ mc ∧ 0 + ms3 ≤ ms ∧ kz_C G (d + 8) mc3 ms3 mX11_copiedFrom [.ref p0, .int p1] M (fun v M1 => ∃ r2 : Int32, v = some (.int r2) ∧ (∃ n4 f5, (M1).1 p2 = some (.inr (.long, n4, .inr (.inl f5))) ∧ vp_in (0 : Int32) n4 ∧ (Qr (some (.int 0)) (kz_up M1 p2 (.inr (.long, n4, .inr (.inl (vp_updL f5 (0 : Int32).toNatClampNeg ((r2 : Int32).toInt64))))))))) (fun E M9 => (E = "java/lang/IndexOutOfBoundsException" ∧ Qr (some (.int 1)) M9))) : kz_C G (d + 9) mc ms mL_copiedFrom [.ref p0, .int p1, .ref p2] M Qr Qx := by
  refine kz_enter (n := 3) kmL_copiedFrom.1 (Nat.le_of_ble_eq_true rfl) (ls := [(0, .ref p0), (1, .int p1), (2, .ref p2)]) rfl ?_
  refine kz_aload_n (pc := 0) 2 (v := .ref p2) (i := 2) rfl rfl rfl dL_copiedFrom_0 ?_
  refine kz_iconst (pc := 1) (v := 0) (by decide) dL_copiedFrom_1 ?_
  refine kz_aload_n (pc := 2) 0 (v := .ref p0) (i := 0) rfl rfl rfl dL_copiedFrom_2 ?_
  refine kz_iload_n (pc := 3) 1 (i := 1) rfl rfl dL_copiedFrom_3 ?_
  obtain ⟨⟨fs6, he⟩, h⟩ := h
  obtain ⟨mc3, ms3, hc3, hs3, h⟩ := h
  refine kz_callV (pc := 4) (μ' := mX11_copiedFrom) (ci := 10) (q := (RX11, TX11, 10)) (b := p0) (d' := d + 8) (mc' := mc3) (ms' := ms3) (As := [.int p1]) (st := [.int 0, .ref p2]) (c := 0) (sl := 0) kmX11_copiedFrom kw_850 (by omega) rfl (Nat.le_of_ble_eq_true rfl) he rfl rfl hc3 hs3 dL_copiedFrom_4 (fun E M9 hx => by
        rcases hx with ⟨rfl, hq⟩
        · refine kz_catchN (pre := []) (suf := []) (x := (0, 9, 12, 22)) (i := 3) rfl ⟨by decide, by decide⟩ (by decide) kw_636 kw_651 (fun z hz => absurd hz List.not_mem_nil) rfl (by decide) rfl dL_copiedFrom_12 ?_
          refine kz_iconst (pc := 13) (v := 1) (by decide) dL_copiedFrom_13 ?_
          exact kz_iret (pc := 14) rfl hc3 hs3 dL_copiedFrom_14 hq) (kz_Cmono (fun v M1 h => ?_) (fun _ _ h => h) h)
  obtain ⟨r2, rfl, h⟩ := h
  show kz_Z G (d + 9) mc ms mL_copiedFrom Qr Qx 7 [(0, .ref p0), (1, .int p1), (2, .ref p2)] [.int r2, .int 0, .ref p2] M1 (0 + mc3) (0 + ms3)
  refine kz_i2l (pc := 7) dL_copiedFrom_7 ?_
  obtain ⟨n4, f5, hM, hi, h⟩ := h
  refine kz_last (pc := 8) hM hi dL_copiedFrom_8 ?_
  refine kz_goto (pc := 9) (tgt := 15) (by decide) dL_copiedFrom_9 ?_
  refine kz_iconst (pc := 15) (v := 0) (by decide) dL_copiedFrom_15 ?_
  exact kz_iret (pc := 16) rfl hc3 hs3 dL_copiedFrom_16 h
theorem dL_entry_13 : decode cL_entry 13 = .ok (.astore 4, 2) := by decide +kernel
theorem dL_entry_15 : decode cL_entry 15 = .ok (.iconst 1, 1) := by decide +kernel
theorem dL_entry_16 : decode cL_entry 16 = .ok (.ireturn, 1) := by decide +kernel
theorem dL_entry_17 : decode cL_entry 17 = .ok (.astore 4, 2) := by decide +kernel
theorem dL_entry_19 : decode cL_entry 19 = .ok (.iconst 2, 1) := by decide +kernel
theorem dL_entry_20 : decode cL_entry 20 = .ok (.ireturn, 1) := by decide +kernel
theorem dL_entry_0 : decode cL_entry 0 = .ok (.aload_n 3, 1) := by decide +kernel
theorem dL_entry_1 : decode cL_entry 1 = .ok (.iconst 0, 1) := by decide +kernel
theorem dL_entry_2 : decode cL_entry 2 = .ok (.aload_n 0, 1) := by decide +kernel
theorem dL_entry_3 : decode cL_entry 3 = .ok (.iload_n 1, 1) := by decide +kernel
theorem dL_entry_4 : decode cL_entry 4 = .ok (.iload_n 2, 1) := by decide +kernel
theorem dL_entry_5 : decode cL_entry 5 = .ok (.invokevirtual 55, 3) := by decide +kernel
theorem dL_entry_8 : decode cL_entry 8 = .ok (.i2l, 1) := by decide +kernel
theorem dL_entry_9 : decode cL_entry 9 = .ok (.lastore, 1) := by decide +kernel
theorem dL_entry_10 : decode cL_entry 10 = .ok (.goto 11, 3) := by decide +kernel
theorem dL_entry_21 : decode cL_entry 21 = .ok (.iconst 0, 1) := by decide +kernel
theorem dL_entry_22 : decode cL_entry 22 = .ok (.ireturn, 1) := by decide +kernel
theorem rL_entry_0 {G : kz_G} {d : Nat} {mc ms : Nat} {Qr : Option Value → kz_M → Prop} {Qx : String → kz_M → Prop} {p0 : Nat} {p1 : Int32} {p2 : Int32} {p3 : Nat}  {M : kz_M} (hN : kz_nc G) (h : (∃ fs6, (M).1 p0 = some (.inl (10, fs6))) ∧ ∃ mc3 ms3, 0 + mc3 ≤ mc ∧ 0 + ms3 ≤ ms ∧ kz_C G (d + 7) mc3 ms3 mX11_entry [.ref p0, .int p1, .int p2] M (fun v M1 => ∃ r2 : Int32, v = some (.int r2) ∧ (∃ n4 f5, (M1).1 p3 = some (.inr (.long, n4, .inr (.inl f5))) ∧ vp_in (0 : Int32) n4 ∧ (Qr (some (.int 0)) (kz_up M1 p3 (.inr (.long, n4, .inr (.inl (vp_updL f5 (0 : Int32).toNatClampNeg ((r2 : Int32).toInt64))))))))) (fun E M9 => (E = "java/lang/IndexOutOfBoundsException" ∧ Qr (some (.int 1)) M9) ∨ (E = "java/lang/IllegalArgumentException" ∧ Qr (some (.int 2)) M9))) : kz_C G (d + 8) mc ms mL_entry [.ref p0, .int p1, .int p2, .ref p3] M Qr Qx := by
  refine kz_enter (n := 4) kmL_entry.1 (Nat.le_of_ble_eq_true rfl) (ls := [(0, .ref p0), (1, .int p1), (2, .int p2), (3, .ref p3)]) rfl ?_
  refine kz_aload_n (pc := 0) 3 (v := .ref p3) (i := 3) rfl rfl rfl dL_entry_0 ?_
  refine kz_iconst (pc := 1) (v := 0) (by decide) dL_entry_1 ?_
  refine kz_aload_n (pc := 2) 0 (v := .ref p0) (i := 0) rfl rfl rfl dL_entry_2 ?_
  refine kz_iload_n (pc := 3) 1 (i := 1) rfl rfl dL_entry_3 ?_
  refine kz_iload_n (pc := 4) 2 (i := 2) rfl rfl dL_entry_4 ?_
  obtain ⟨⟨fs6, he⟩, h⟩ := h
  obtain ⟨mc3, ms3, hc3, hs3, h⟩ := h
  refine kz_callV (pc := 5) (μ' := mX11_entry) (ci := 10) (q := (RX11, TX11, 10)) (b := p0) (d' := d + 7) (mc' := mc3) (ms' := ms3) (As := [.int p1, .int p2]) (st := [.int 0, .ref p3]) (c := 0) (sl := 0) kmX11_entry kw_862 (by omega) rfl (Nat.le_of_ble_eq_true rfl) he rfl rfl hc3 hs3 dL_entry_5 (fun E M9 hx => by
        rcases hx with ⟨rfl, hq⟩ | ⟨rfl, hq⟩
        · refine kz_catchS (pre := []) (suf := [(0, 10, 17, 13)]) (x := (0, 10, 13, 22)) (i := 4) rfl ⟨by decide, by decide⟩ (by decide) kw_636 kw_651 (fun z hz => absurd hz List.not_mem_nil) (by decide) rfl dL_entry_13 ?_
          refine kz_iconst (pc := 15) (v := 1) (by decide) dL_entry_15 ?_
          exact kz_iret (pc := 16) rfl hc3 hs3 dL_entry_16 hq
        · refine kz_catchS (pre := [(0, 10, 13, 22)]) (suf := []) (x := (0, 10, 17, 13)) (i := 4) rfl ⟨by decide, by decide⟩ (by decide) kw_516 kw_551 (fun z hz => by rw [List.mem_singleton.mp hz]; exact ⟨by decide, _, kw_636, hN.1⟩) (by decide) rfl dL_entry_17 ?_
          refine kz_iconst (pc := 19) (v := 2) (by decide) dL_entry_19 ?_
          exact kz_iret (pc := 20) rfl hc3 hs3 dL_entry_20 hq) (kz_Cmono (fun v M1 h => ?_) (fun _ _ h => h) h)
  obtain ⟨r2, rfl, h⟩ := h
  show kz_Z G (d + 8) mc ms mL_entry Qr Qx 8 [(0, .ref p0), (1, .int p1), (2, .int p2), (3, .ref p3)] [.int r2, .int 0, .ref p3] M1 (0 + mc3) (0 + ms3)
  refine kz_i2l (pc := 8) dL_entry_8 ?_
  obtain ⟨n4, f5, hM, hi, h⟩ := h
  refine kz_last (pc := 9) hM hi dL_entry_9 ?_
  refine kz_goto (pc := 10) (tgt := 21) (by decide) dL_entry_10 ?_
  refine kz_iconst (pc := 21) (v := 0) (by decide) dL_entry_21 ?_
  exact kz_iret (pc := 22) rfl hc3 hs3 dL_entry_22 h
theorem dL_booked_15 : decode cL_booked 15 = .ok (.astore 5, 2) := by decide +kernel
theorem dL_booked_17 : decode cL_booked 17 = .ok (.iconst 1, 1) := by decide +kernel
theorem dL_booked_18 : decode cL_booked 18 = .ok (.ireturn, 1) := by decide +kernel
theorem dL_booked_0 : decode cL_booked 0 = .ok (.aload 4, 2) := by decide +kernel
theorem dL_booked_2 : decode cL_booked 2 = .ok (.iconst 0, 1) := by decide +kernel
theorem dL_booked_3 : decode cL_booked 3 = .ok (.aload_n 0, 1) := by decide +kernel
theorem dL_booked_4 : decode cL_booked 4 = .ok (.iload_n 1, 1) := by decide +kernel
theorem dL_booked_5 : decode cL_booked 5 = .ok (.iload_n 2, 1) := by decide +kernel
theorem dL_booked_6 : decode cL_booked 6 = .ok (.iload_n 3, 1) := by decide +kernel
theorem dL_booked_7 : decode cL_booked 7 = .ok (.invokevirtual 58, 3) := by decide +kernel
theorem dL_booked_10 : decode cL_booked 10 = .ok (.i2l, 1) := by decide +kernel
theorem dL_booked_11 : decode cL_booked 11 = .ok (.lastore, 1) := by decide +kernel
theorem dL_booked_12 : decode cL_booked 12 = .ok (.goto 7, 3) := by decide +kernel
theorem dL_booked_19 : decode cL_booked 19 = .ok (.iconst 0, 1) := by decide +kernel
theorem dL_booked_20 : decode cL_booked 20 = .ok (.ireturn, 1) := by decide +kernel
theorem rL_booked_0 {G : kz_G} {d : Nat} {mc ms : Nat} {Qr : Option Value → kz_M → Prop} {Qx : String → kz_M → Prop} {p0 : Nat} {p1 : Int32} {p2 : Int32} {p3 : Int32} {p4 : Nat}  {M : kz_M} (h : (∃ fs6, (M).1 p0 = some (.inl (10, fs6))) ∧ ∃ mc3 ms3, 0 + mc3 ≤ mc ∧ 0 + ms3 ≤ ms ∧ kz_C G (d + 8) mc3 ms3 mX11_booked [.ref p0, .int p1, .int p2, .int p3] M (fun v M1 => ∃ r2 : Int32, v = some (.int r2) ∧ (∃ n4 f5, (M1).1 p4 = some (.inr (.long, n4, .inr (.inl f5))) ∧ vp_in (0 : Int32) n4 ∧ (Qr (some (.int 0)) (kz_up M1 p4 (.inr (.long, n4, .inr (.inl (vp_updL f5 (0 : Int32).toNatClampNeg ((r2 : Int32).toInt64))))))))) (fun E M9 => (E = "java/lang/IndexOutOfBoundsException" ∧ Qr (some (.int 1)) M9))) : kz_C G (d + 9) mc ms mL_booked [.ref p0, .int p1, .int p2, .int p3, .ref p4] M Qr Qx := by
  refine kz_enter (n := 5) kmL_booked.1 (Nat.le_of_ble_eq_true rfl) (ls := [(0, .ref p0), (1, .int p1), (2, .int p2), (3, .int p3), (4, .ref p4)]) rfl ?_
  refine kz_aload (pc := 0) 4 (v := .ref p4) (i := 4) rfl rfl dL_booked_0 ?_
  refine kz_iconst (pc := 2) (v := 0) (by decide) dL_booked_2 ?_
  refine kz_aload_n (pc := 3) 0 (v := .ref p0) (i := 0) rfl rfl rfl dL_booked_3 ?_
  refine kz_iload_n (pc := 4) 1 (i := 1) rfl rfl dL_booked_4 ?_
  refine kz_iload_n (pc := 5) 2 (i := 2) rfl rfl dL_booked_5 ?_
  refine kz_iload_n (pc := 6) 3 (i := 3) rfl rfl dL_booked_6 ?_
  obtain ⟨⟨fs6, he⟩, h⟩ := h
  obtain ⟨mc3, ms3, hc3, hs3, h⟩ := h
  refine kz_callV (pc := 7) (μ' := mX11_booked) (ci := 10) (q := (RX11, TX11, 10)) (b := p0) (d' := d + 8) (mc' := mc3) (ms' := ms3) (As := [.int p1, .int p2, .int p3]) (st := [.int 0, .ref p4]) (c := 0) (sl := 0) kmX11_booked kw_876 (by omega) rfl (Nat.le_of_ble_eq_true rfl) he rfl rfl hc3 hs3 dL_booked_7 (fun E M9 hx => by
        rcases hx with ⟨rfl, hq⟩
        · refine kz_catchS (pre := []) (suf := []) (x := (0, 12, 15, 22)) (i := 5) rfl ⟨by decide, by decide⟩ (by decide) kw_636 kw_651 (fun z hz => absurd hz List.not_mem_nil) (by decide) rfl dL_booked_15 ?_
          refine kz_iconst (pc := 17) (v := 1) (by decide) dL_booked_17 ?_
          exact kz_iret (pc := 18) rfl hc3 hs3 dL_booked_18 hq) (kz_Cmono (fun v M1 h => ?_) (fun _ _ h => h) h)
  obtain ⟨r2, rfl, h⟩ := h
  show kz_Z G (d + 9) mc ms mL_booked Qr Qx 10 [(0, .ref p0), (1, .int p1), (2, .int p2), (3, .int p3), (4, .ref p4)] [.int r2, .int 0, .ref p4] M1 (0 + mc3) (0 + ms3)
  refine kz_i2l (pc := 10) dL_booked_10 ?_
  obtain ⟨n4, f5, hM, hi, h⟩ := h
  refine kz_last (pc := 11) hM hi dL_booked_11 ?_
  refine kz_goto (pc := 12) (tgt := 19) (by decide) dL_booked_12 ?_
  refine kz_iconst (pc := 19) (v := 0) (by decide) dL_booked_19 ?_
  exact kz_iret (pc := 20) rfl hc3 hs3 dL_booked_20 h
theorem dL_rank_12 : decode cL_rank 12 = .ok (.astore_n 3, 1) := by decide +kernel
theorem dL_rank_13 : decode cL_rank 13 = .ok (.iconst 1, 1) := by decide +kernel
theorem dL_rank_14 : decode cL_rank 14 = .ok (.ireturn, 1) := by decide +kernel
theorem dL_rank_0 : decode cL_rank 0 = .ok (.aload_n 2, 1) := by decide +kernel
theorem dL_rank_1 : decode cL_rank 1 = .ok (.iconst 0, 1) := by decide +kernel
theorem dL_rank_2 : decode cL_rank 2 = .ok (.aload_n 0, 1) := by decide +kernel
theorem dL_rank_3 : decode cL_rank 3 = .ok (.iload_n 1, 1) := by decide +kernel
theorem dL_rank_4 : decode cL_rank 4 = .ok (.invokevirtual 61, 3) := by decide +kernel
theorem dL_rank_7 : decode cL_rank 7 = .ok (.i2l, 1) := by decide +kernel
theorem dL_rank_8 : decode cL_rank 8 = .ok (.lastore, 1) := by decide +kernel
theorem dL_rank_9 : decode cL_rank 9 = .ok (.goto 6, 3) := by decide +kernel
theorem dL_rank_15 : decode cL_rank 15 = .ok (.iconst 0, 1) := by decide +kernel
theorem dL_rank_16 : decode cL_rank 16 = .ok (.ireturn, 1) := by decide +kernel
theorem rL_rank_0 {G : kz_G} {d : Nat} {mc ms : Nat} {Qr : Option Value → kz_M → Prop} {Qx : String → kz_M → Prop} {p0 : Nat} {p1 : Int32} {p2 : Nat}  {M : kz_M} (h : (∃ fs6, (M).1 p0 = some (.inl (10, fs6))) ∧ ∃ mc3 ms3, 0 + mc3 ≤ mc ∧ 0 + ms3 ≤ ms ∧ kz_C G (d + 8) mc3 ms3 mX11_rank [.ref p0, .int p1] M (fun v M1 => ∃ r2 : Int32, v = some (.int r2) ∧ (∃ n4 f5, (M1).1 p2 = some (.inr (.long, n4, .inr (.inl f5))) ∧ vp_in (0 : Int32) n4 ∧ (Qr (some (.int 0)) (kz_up M1 p2 (.inr (.long, n4, .inr (.inl (vp_updL f5 (0 : Int32).toNatClampNeg ((r2 : Int32).toInt64))))))))) (fun E M9 => (E = "java/lang/IndexOutOfBoundsException" ∧ Qr (some (.int 1)) M9))) : kz_C G (d + 9) mc ms mL_rank [.ref p0, .int p1, .ref p2] M Qr Qx := by
  refine kz_enter (n := 3) kmL_rank.1 (Nat.le_of_ble_eq_true rfl) (ls := [(0, .ref p0), (1, .int p1), (2, .ref p2)]) rfl ?_
  refine kz_aload_n (pc := 0) 2 (v := .ref p2) (i := 2) rfl rfl rfl dL_rank_0 ?_
  refine kz_iconst (pc := 1) (v := 0) (by decide) dL_rank_1 ?_
  refine kz_aload_n (pc := 2) 0 (v := .ref p0) (i := 0) rfl rfl rfl dL_rank_2 ?_
  refine kz_iload_n (pc := 3) 1 (i := 1) rfl rfl dL_rank_3 ?_
  obtain ⟨⟨fs6, he⟩, h⟩ := h
  obtain ⟨mc3, ms3, hc3, hs3, h⟩ := h
  refine kz_callV (pc := 4) (μ' := mX11_rank) (ci := 10) (q := (RX11, TX11, 10)) (b := p0) (d' := d + 8) (mc' := mc3) (ms' := ms3) (As := [.int p1]) (st := [.int 0, .ref p2]) (c := 0) (sl := 0) kmX11_rank kw_888 (by omega) rfl (Nat.le_of_ble_eq_true rfl) he rfl rfl hc3 hs3 dL_rank_4 (fun E M9 hx => by
        rcases hx with ⟨rfl, hq⟩
        · refine kz_catchN (pre := []) (suf := []) (x := (0, 9, 12, 22)) (i := 3) rfl ⟨by decide, by decide⟩ (by decide) kw_636 kw_651 (fun z hz => absurd hz List.not_mem_nil) rfl (by decide) rfl dL_rank_12 ?_
          refine kz_iconst (pc := 13) (v := 1) (by decide) dL_rank_13 ?_
          exact kz_iret (pc := 14) rfl hc3 hs3 dL_rank_14 hq) (kz_Cmono (fun v M1 h => ?_) (fun _ _ h => h) h)
  obtain ⟨r2, rfl, h⟩ := h
  show kz_Z G (d + 9) mc ms mL_rank Qr Qx 7 [(0, .ref p0), (1, .int p1), (2, .ref p2)] [.int r2, .int 0, .ref p2] M1 (0 + mc3) (0 + ms3)
  refine kz_i2l (pc := 7) dL_rank_7 ?_
  obtain ⟨n4, f5, hM, hi, h⟩ := h
  refine kz_last (pc := 8) hM hi dL_rank_8 ?_
  refine kz_goto (pc := 9) (tgt := 15) (by decide) dL_rank_9 ?_
  refine kz_iconst (pc := 15) (v := 0) (by decide) dL_rank_15 ?_
  exact kz_iret (pc := 16) rfl hc3 hs3 dL_rank_16 h
theorem dL_meanWidth_11 : decode cL_meanWidth 11 = .ok (.astore_n 3, 1) := by decide +kernel
theorem dL_meanWidth_12 : decode cL_meanWidth 12 = .ok (.iconst 1, 1) := by decide +kernel
theorem dL_meanWidth_13 : decode cL_meanWidth 13 = .ok (.ireturn, 1) := by decide +kernel
theorem dL_meanWidth_0 : decode cL_meanWidth 0 = .ok (.aload_n 2, 1) := by decide +kernel
theorem dL_meanWidth_1 : decode cL_meanWidth 1 = .ok (.iconst 0, 1) := by decide +kernel
theorem dL_meanWidth_2 : decode cL_meanWidth 2 = .ok (.aload_n 0, 1) := by decide +kernel
theorem dL_meanWidth_3 : decode cL_meanWidth 3 = .ok (.iload_n 1, 1) := by decide +kernel
theorem dL_meanWidth_4 : decode cL_meanWidth 4 = .ok (.invokevirtual 64, 3) := by decide +kernel
theorem dL_meanWidth_7 : decode cL_meanWidth 7 = .ok (.dastore, 1) := by decide +kernel
theorem dL_meanWidth_8 : decode cL_meanWidth 8 = .ok (.goto 6, 3) := by decide +kernel
theorem dL_meanWidth_14 : decode cL_meanWidth 14 = .ok (.iconst 0, 1) := by decide +kernel
theorem dL_meanWidth_15 : decode cL_meanWidth 15 = .ok (.ireturn, 1) := by decide +kernel
theorem rL_meanWidth_0 {G : kz_G} {d : Nat} {mc ms : Nat} {Qr : Option Value → kz_M → Prop} {Qx : String → kz_M → Prop} {p0 : Nat} {p1 : Int32} {p2 : Nat}  {M : kz_M} (h : (∃ fs6, (M).1 p0 = some (.inl (10, fs6))) ∧ ∃ mc3 ms3, 0 + mc3 ≤ mc ∧ 0 + ms3 ≤ ms ∧ kz_C G (d + 8) mc3 ms3 mX11_meanWidth [.ref p0, .int p1] M (fun v M1 => ∃ r2 : UInt64, v = some (.double r2) ∧ (∃ n4 f5, (M1).1 p2 = some (.inr (.double, n4, .inr (.inr (.inr (.inl f5))))) ∧ vp_in (0 : Int32) n4 ∧ (Qr (some (.int 0)) (kz_up M1 p2 (.inr (.double, n4, .inr (.inr (.inr (.inl (vf_upd f5 (0 : Int32).toNatClampNeg r2)))))))))) (fun E M9 => (E = "java/lang/IndexOutOfBoundsException" ∧ Qr (some (.int 1)) M9))) : kz_C G (d + 9) mc ms mL_meanWidth [.ref p0, .int p1, .ref p2] M Qr Qx := by
  refine kz_enter (n := 3) kmL_meanWidth.1 (Nat.le_of_ble_eq_true rfl) (ls := [(0, .ref p0), (1, .int p1), (2, .ref p2)]) rfl ?_
  refine kz_aload_n (pc := 0) 2 (v := .ref p2) (i := 2) rfl rfl rfl dL_meanWidth_0 ?_
  refine kz_iconst (pc := 1) (v := 0) (by decide) dL_meanWidth_1 ?_
  refine kz_aload_n (pc := 2) 0 (v := .ref p0) (i := 0) rfl rfl rfl dL_meanWidth_2 ?_
  refine kz_iload_n (pc := 3) 1 (i := 1) rfl rfl dL_meanWidth_3 ?_
  obtain ⟨⟨fs6, he⟩, h⟩ := h
  obtain ⟨mc3, ms3, hc3, hs3, h⟩ := h
  refine kz_callV (pc := 4) (μ' := mX11_meanWidth) (ci := 10) (q := (RX11, TX11, 10)) (b := p0) (d' := d + 8) (mc' := mc3) (ms' := ms3) (As := [.int p1]) (st := [.int 0, .ref p2]) (c := 0) (sl := 0) kmX11_meanWidth kw_895 (by omega) rfl (Nat.le_of_ble_eq_true rfl) he rfl rfl hc3 hs3 dL_meanWidth_4 (fun E M9 hx => by
        rcases hx with ⟨rfl, hq⟩
        · refine kz_catchN (pre := []) (suf := []) (x := (0, 8, 11, 22)) (i := 3) rfl ⟨by decide, by decide⟩ (by decide) kw_636 kw_651 (fun z hz => absurd hz List.not_mem_nil) rfl (by decide) rfl dL_meanWidth_11 ?_
          refine kz_iconst (pc := 12) (v := 1) (by decide) dL_meanWidth_12 ?_
          exact kz_iret (pc := 13) rfl hc3 hs3 dL_meanWidth_13 hq) (kz_Cmono (fun v M1 h => ?_) (fun _ _ h => h) h)
  obtain ⟨r2, rfl, h⟩ := h
  show kz_Z G (d + 9) mc ms mL_meanWidth Qr Qx 7 [(0, .ref p0), (1, .int p1), (2, .ref p2)] [.double r2, .int 0, .ref p2] M1 (0 + mc3) (0 + ms3)
  obtain ⟨n4, f5, hM, hi, h⟩ := h
  refine kz_dast (pc := 7) hM hi dL_meanWidth_7 ?_
  refine kz_goto (pc := 8) (tgt := 14) (by decide) dL_meanWidth_8 ?_
  refine kz_iconst (pc := 14) (v := 0) (by decide) dL_meanWidth_14 ?_
  exact kz_iret (pc := 15) rfl hc3 hs3 dL_meanWidth_15 h
theorem dL_caughtShare_12 : decode cL_caughtShare 12 = .ok (.astore_n 3, 1) := by decide +kernel
theorem dL_caughtShare_13 : decode cL_caughtShare 13 = .ok (.iconst 1, 1) := by decide +kernel
theorem dL_caughtShare_14 : decode cL_caughtShare 14 = .ok (.ireturn, 1) := by decide +kernel
theorem dL_caughtShare_0 : decode cL_caughtShare 0 = .ok (.aload_n 2, 1) := by decide +kernel
theorem dL_caughtShare_1 : decode cL_caughtShare 1 = .ok (.iconst 0, 1) := by decide +kernel
theorem dL_caughtShare_2 : decode cL_caughtShare 2 = .ok (.aload_n 0, 1) := by decide +kernel
theorem dL_caughtShare_3 : decode cL_caughtShare 3 = .ok (.iload_n 1, 1) := by decide +kernel
theorem dL_caughtShare_4 : decode cL_caughtShare 4 = .ok (.invokevirtual 68, 3) := by decide +kernel
theorem dL_caughtShare_7 : decode cL_caughtShare 7 = .ok (.f2d, 1) := by decide +kernel
theorem dL_caughtShare_8 : decode cL_caughtShare 8 = .ok (.dastore, 1) := by decide +kernel
theorem dL_caughtShare_9 : decode cL_caughtShare 9 = .ok (.goto 6, 3) := by decide +kernel
theorem dL_caughtShare_15 : decode cL_caughtShare 15 = .ok (.iconst 0, 1) := by decide +kernel
theorem dL_caughtShare_16 : decode cL_caughtShare 16 = .ok (.ireturn, 1) := by decide +kernel
theorem rL_caughtShare_0 {G : kz_G} {d : Nat} {mc ms : Nat} {Qr : Option Value → kz_M → Prop} {Qx : String → kz_M → Prop} {p0 : Nat} {p1 : Int32} {p2 : Nat}  {M : kz_M} (h : (∃ fs6, (M).1 p0 = some (.inl (10, fs6))) ∧ ∃ mc3 ms3, 0 + mc3 ≤ mc ∧ 0 + ms3 ≤ ms ∧ kz_C G (d + 8) mc3 ms3 mX11_caughtShare [.ref p0, .int p1] M (fun v M1 => ∃ r2 : UInt32, v = some (.float r2) ∧ (vf_n64 (FP.f2d r2) ∧ (∃ n4 f5, (M1).1 p2 = some (.inr (.double, n4, .inr (.inr (.inr (.inl f5))))) ∧ vp_in (0 : Int32) n4 ∧ (Qr (some (.int 0)) (kz_up M1 p2 (.inr (.double, n4, .inr (.inr (.inr (.inl (vf_upd f5 (0 : Int32).toNatClampNeg (FP.f2d r2)))))))))))) (fun E M9 => (E = "java/lang/IndexOutOfBoundsException" ∧ Qr (some (.int 1)) M9))) : kz_C G (d + 9) mc ms mL_caughtShare [.ref p0, .int p1, .ref p2] M Qr Qx := by
  refine kz_enter (n := 3) kmL_caughtShare.1 (Nat.le_of_ble_eq_true rfl) (ls := [(0, .ref p0), (1, .int p1), (2, .ref p2)]) rfl ?_
  refine kz_aload_n (pc := 0) 2 (v := .ref p2) (i := 2) rfl rfl rfl dL_caughtShare_0 ?_
  refine kz_iconst (pc := 1) (v := 0) (by decide) dL_caughtShare_1 ?_
  refine kz_aload_n (pc := 2) 0 (v := .ref p0) (i := 0) rfl rfl rfl dL_caughtShare_2 ?_
  refine kz_iload_n (pc := 3) 1 (i := 1) rfl rfl dL_caughtShare_3 ?_
  obtain ⟨⟨fs6, he⟩, h⟩ := h
  obtain ⟨mc3, ms3, hc3, hs3, h⟩ := h
  refine kz_callV (pc := 4) (μ' := mX11_caughtShare) (ci := 10) (q := (RX11, TX11, 10)) (b := p0) (d' := d + 8) (mc' := mc3) (ms' := ms3) (As := [.int p1]) (st := [.int 0, .ref p2]) (c := 0) (sl := 0) kmX11_caughtShare kw_902 (by omega) rfl (Nat.le_of_ble_eq_true rfl) he rfl rfl hc3 hs3 dL_caughtShare_4 (fun E M9 hx => by
        rcases hx with ⟨rfl, hq⟩
        · refine kz_catchN (pre := []) (suf := []) (x := (0, 9, 12, 22)) (i := 3) rfl ⟨by decide, by decide⟩ (by decide) kw_636 kw_651 (fun z hz => absurd hz List.not_mem_nil) rfl (by decide) rfl dL_caughtShare_12 ?_
          refine kz_iconst (pc := 13) (v := 1) (by decide) dL_caughtShare_13 ?_
          exact kz_iret (pc := 14) rfl hc3 hs3 dL_caughtShare_14 hq) (kz_Cmono (fun v M1 h => ?_) (fun _ _ h => h) h)
  obtain ⟨r2, rfl, h⟩ := h
  show kz_Z G (d + 9) mc ms mL_caughtShare Qr Qx 7 [(0, .ref p0), (1, .int p1), (2, .ref p2)] [.float r2, .int 0, .ref p2] M1 (0 + mc3) (0 + ms3)
  obtain ⟨hz, h⟩ := h
  refine kz_f2d (pc := 7) hz dL_caughtShare_7 ?_
  obtain ⟨n4, f5, hM, hi, h⟩ := h
  refine kz_dast (pc := 8) hM hi dL_caughtShare_8 ?_
  refine kz_goto (pc := 9) (tgt := 15) (by decide) dL_caughtShare_9 ?_
  refine kz_iconst (pc := 15) (v := 0) (by decide) dL_caughtShare_15 ?_
  exact kz_iret (pc := 16) rfl hc3 hs3 dL_caughtShare_16 h
theorem dL_linesIf_13 : decode cL_linesIf 13 = .ok (.astore 4, 2) := by decide +kernel
theorem dL_linesIf_15 : decode cL_linesIf 15 = .ok (.iconst 1, 1) := by decide +kernel
theorem dL_linesIf_16 : decode cL_linesIf 16 = .ok (.ireturn, 1) := by decide +kernel
theorem dL_linesIf_17 : decode cL_linesIf 17 = .ok (.astore 4, 2) := by decide +kernel
theorem dL_linesIf_19 : decode cL_linesIf 19 = .ok (.iconst 2, 1) := by decide +kernel
theorem dL_linesIf_20 : decode cL_linesIf 20 = .ok (.ireturn, 1) := by decide +kernel
theorem dL_linesIf_0 : decode cL_linesIf 0 = .ok (.aload_n 3, 1) := by decide +kernel
theorem dL_linesIf_1 : decode cL_linesIf 1 = .ok (.iconst 0, 1) := by decide +kernel
theorem dL_linesIf_2 : decode cL_linesIf 2 = .ok (.aload_n 0, 1) := by decide +kernel
theorem dL_linesIf_3 : decode cL_linesIf 3 = .ok (.iload_n 1, 1) := by decide +kernel
theorem dL_linesIf_4 : decode cL_linesIf 4 = .ok (.iload_n 2, 1) := by decide +kernel
theorem dL_linesIf_5 : decode cL_linesIf 5 = .ok (.invokevirtual 72, 3) := by decide +kernel
theorem dL_linesIf_8 : decode cL_linesIf 8 = .ok (.i2l, 1) := by decide +kernel
theorem dL_linesIf_9 : decode cL_linesIf 9 = .ok (.lastore, 1) := by decide +kernel
theorem dL_linesIf_10 : decode cL_linesIf 10 = .ok (.goto 11, 3) := by decide +kernel
theorem dL_linesIf_21 : decode cL_linesIf 21 = .ok (.iconst 0, 1) := by decide +kernel
theorem dL_linesIf_22 : decode cL_linesIf 22 = .ok (.ireturn, 1) := by decide +kernel
theorem rL_linesIf_0 {G : kz_G} {d : Nat} {mc ms : Nat} {Qr : Option Value → kz_M → Prop} {Qx : String → kz_M → Prop} {p0 : Nat} {p1 : Int32} {p2 : Int32} {p3 : Nat}  {M : kz_M} (hN : kz_nc G) (h : (∃ fs6, (M).1 p0 = some (.inl (10, fs6))) ∧ ∃ mc3 ms3, 0 + mc3 ≤ mc ∧ 0 + ms3 ≤ ms ∧ kz_C G (d + 8) mc3 ms3 mX11_linesIf [.ref p0, .int p1, .int p2] M (fun v M1 => ∃ r2 : Int32, v = some (.int r2) ∧ (∃ n4 f5, (M1).1 p3 = some (.inr (.long, n4, .inr (.inl f5))) ∧ vp_in (0 : Int32) n4 ∧ (Qr (some (.int 0)) (kz_up M1 p3 (.inr (.long, n4, .inr (.inl (vp_updL f5 (0 : Int32).toNatClampNeg ((r2 : Int32).toInt64))))))))) (fun E M9 => (E = "java/lang/IndexOutOfBoundsException" ∧ Qr (some (.int 1)) M9) ∨ (E = "java/lang/IllegalArgumentException" ∧ Qr (some (.int 2)) M9))) : kz_C G (d + 9) mc ms mL_linesIf [.ref p0, .int p1, .int p2, .ref p3] M Qr Qx := by
  refine kz_enter (n := 4) kmL_linesIf.1 (Nat.le_of_ble_eq_true rfl) (ls := [(0, .ref p0), (1, .int p1), (2, .int p2), (3, .ref p3)]) rfl ?_
  refine kz_aload_n (pc := 0) 3 (v := .ref p3) (i := 3) rfl rfl rfl dL_linesIf_0 ?_
  refine kz_iconst (pc := 1) (v := 0) (by decide) dL_linesIf_1 ?_
  refine kz_aload_n (pc := 2) 0 (v := .ref p0) (i := 0) rfl rfl rfl dL_linesIf_2 ?_
  refine kz_iload_n (pc := 3) 1 (i := 1) rfl rfl dL_linesIf_3 ?_
  refine kz_iload_n (pc := 4) 2 (i := 2) rfl rfl dL_linesIf_4 ?_
  obtain ⟨⟨fs6, he⟩, h⟩ := h
  obtain ⟨mc3, ms3, hc3, hs3, h⟩ := h
  refine kz_callV (pc := 5) (μ' := mX11_linesIf) (ci := 10) (q := (RX11, TX11, 10)) (b := p0) (d' := d + 8) (mc' := mc3) (ms' := ms3) (As := [.int p1, .int p2]) (st := [.int 0, .ref p3]) (c := 0) (sl := 0) kmX11_linesIf kw_909 (by omega) rfl (Nat.le_of_ble_eq_true rfl) he rfl rfl hc3 hs3 dL_linesIf_5 (fun E M9 hx => by
        rcases hx with ⟨rfl, hq⟩ | ⟨rfl, hq⟩
        · refine kz_catchS (pre := []) (suf := [(0, 10, 17, 13)]) (x := (0, 10, 13, 22)) (i := 4) rfl ⟨by decide, by decide⟩ (by decide) kw_636 kw_651 (fun z hz => absurd hz List.not_mem_nil) (by decide) rfl dL_linesIf_13 ?_
          refine kz_iconst (pc := 15) (v := 1) (by decide) dL_linesIf_15 ?_
          exact kz_iret (pc := 16) rfl hc3 hs3 dL_linesIf_16 hq
        · refine kz_catchS (pre := [(0, 10, 13, 22)]) (suf := []) (x := (0, 10, 17, 13)) (i := 4) rfl ⟨by decide, by decide⟩ (by decide) kw_516 kw_551 (fun z hz => by rw [List.mem_singleton.mp hz]; exact ⟨by decide, _, kw_636, hN.1⟩) (by decide) rfl dL_linesIf_17 ?_
          refine kz_iconst (pc := 19) (v := 2) (by decide) dL_linesIf_19 ?_
          exact kz_iret (pc := 20) rfl hc3 hs3 dL_linesIf_20 hq) (kz_Cmono (fun v M1 h => ?_) (fun _ _ h => h) h)
  obtain ⟨r2, rfl, h⟩ := h
  show kz_Z G (d + 9) mc ms mL_linesIf Qr Qx 8 [(0, .ref p0), (1, .int p1), (2, .int p2), (3, .ref p3)] [.int r2, .int 0, .ref p3] M1 (0 + mc3) (0 + ms3)
  refine kz_i2l (pc := 8) dL_linesIf_8 ?_
  obtain ⟨n4, f5, hM, hi, h⟩ := h
  refine kz_last (pc := 9) hM hi dL_linesIf_9 ?_
  refine kz_goto (pc := 10) (tgt := 21) (by decide) dL_linesIf_10 ?_
  refine kz_iconst (pc := 21) (v := 0) (by decide) dL_linesIf_21 ?_
  exact kz_iret (pc := 22) rfl hc3 hs3 dL_linesIf_22 h
theorem dL_payIf_13 : decode cL_payIf 13 = .ok (.astore 4, 2) := by decide +kernel
theorem dL_payIf_15 : decode cL_payIf 15 = .ok (.iconst 1, 1) := by decide +kernel
theorem dL_payIf_16 : decode cL_payIf 16 = .ok (.ireturn, 1) := by decide +kernel
theorem dL_payIf_17 : decode cL_payIf 17 = .ok (.astore 4, 2) := by decide +kernel
theorem dL_payIf_19 : decode cL_payIf 19 = .ok (.iconst 2, 1) := by decide +kernel
theorem dL_payIf_20 : decode cL_payIf 20 = .ok (.ireturn, 1) := by decide +kernel
theorem dL_payIf_0 : decode cL_payIf 0 = .ok (.aload_n 3, 1) := by decide +kernel
theorem dL_payIf_1 : decode cL_payIf 1 = .ok (.iconst 0, 1) := by decide +kernel
theorem dL_payIf_2 : decode cL_payIf 2 = .ok (.aload_n 0, 1) := by decide +kernel
theorem dL_payIf_3 : decode cL_payIf 3 = .ok (.iload_n 1, 1) := by decide +kernel
theorem dL_payIf_4 : decode cL_payIf 4 = .ok (.iload_n 2, 1) := by decide +kernel
theorem dL_payIf_5 : decode cL_payIf 5 = .ok (.invokevirtual 75, 3) := by decide +kernel
theorem dL_payIf_8 : decode cL_payIf 8 = .ok (.i2l, 1) := by decide +kernel
theorem dL_payIf_9 : decode cL_payIf 9 = .ok (.lastore, 1) := by decide +kernel
theorem dL_payIf_10 : decode cL_payIf 10 = .ok (.goto 11, 3) := by decide +kernel
theorem dL_payIf_21 : decode cL_payIf 21 = .ok (.iconst 0, 1) := by decide +kernel
theorem dL_payIf_22 : decode cL_payIf 22 = .ok (.ireturn, 1) := by decide +kernel
theorem rL_payIf_0 {G : kz_G} {d : Nat} {mc ms : Nat} {Qr : Option Value → kz_M → Prop} {Qx : String → kz_M → Prop} {p0 : Nat} {p1 : Int32} {p2 : Int32} {p3 : Nat}  {M : kz_M} (hN : kz_nc G) (h : (∃ fs6, (M).1 p0 = some (.inl (10, fs6))) ∧ ∃ mc3 ms3, 0 + mc3 ≤ mc ∧ 0 + ms3 ≤ ms ∧ kz_C G (d + 8) mc3 ms3 mX11_payIf [.ref p0, .int p1, .int p2] M (fun v M1 => ∃ r2 : Int32, v = some (.int r2) ∧ (∃ n4 f5, (M1).1 p3 = some (.inr (.long, n4, .inr (.inl f5))) ∧ vp_in (0 : Int32) n4 ∧ (Qr (some (.int 0)) (kz_up M1 p3 (.inr (.long, n4, .inr (.inl (vp_updL f5 (0 : Int32).toNatClampNeg ((r2 : Int32).toInt64))))))))) (fun E M9 => (E = "java/lang/IndexOutOfBoundsException" ∧ Qr (some (.int 1)) M9) ∨ (E = "java/lang/IllegalArgumentException" ∧ Qr (some (.int 2)) M9))) : kz_C G (d + 9) mc ms mL_payIf [.ref p0, .int p1, .int p2, .ref p3] M Qr Qx := by
  refine kz_enter (n := 4) kmL_payIf.1 (Nat.le_of_ble_eq_true rfl) (ls := [(0, .ref p0), (1, .int p1), (2, .int p2), (3, .ref p3)]) rfl ?_
  refine kz_aload_n (pc := 0) 3 (v := .ref p3) (i := 3) rfl rfl rfl dL_payIf_0 ?_
  refine kz_iconst (pc := 1) (v := 0) (by decide) dL_payIf_1 ?_
  refine kz_aload_n (pc := 2) 0 (v := .ref p0) (i := 0) rfl rfl rfl dL_payIf_2 ?_
  refine kz_iload_n (pc := 3) 1 (i := 1) rfl rfl dL_payIf_3 ?_
  refine kz_iload_n (pc := 4) 2 (i := 2) rfl rfl dL_payIf_4 ?_
  obtain ⟨⟨fs6, he⟩, h⟩ := h
  obtain ⟨mc3, ms3, hc3, hs3, h⟩ := h
  refine kz_callV (pc := 5) (μ' := mX11_payIf) (ci := 10) (q := (RX11, TX11, 10)) (b := p0) (d' := d + 8) (mc' := mc3) (ms' := ms3) (As := [.int p1, .int p2]) (st := [.int 0, .ref p3]) (c := 0) (sl := 0) kmX11_payIf kw_939 (by omega) rfl (Nat.le_of_ble_eq_true rfl) he rfl rfl hc3 hs3 dL_payIf_5 (fun E M9 hx => by
        rcases hx with ⟨rfl, hq⟩ | ⟨rfl, hq⟩
        · refine kz_catchS (pre := []) (suf := [(0, 10, 17, 13)]) (x := (0, 10, 13, 22)) (i := 4) rfl ⟨by decide, by decide⟩ (by decide) kw_636 kw_651 (fun z hz => absurd hz List.not_mem_nil) (by decide) rfl dL_payIf_13 ?_
          refine kz_iconst (pc := 15) (v := 1) (by decide) dL_payIf_15 ?_
          exact kz_iret (pc := 16) rfl hc3 hs3 dL_payIf_16 hq
        · refine kz_catchS (pre := [(0, 10, 13, 22)]) (suf := []) (x := (0, 10, 17, 13)) (i := 4) rfl ⟨by decide, by decide⟩ (by decide) kw_516 kw_551 (fun z hz => by rw [List.mem_singleton.mp hz]; exact ⟨by decide, _, kw_636, hN.1⟩) (by decide) rfl dL_payIf_17 ?_
          refine kz_iconst (pc := 19) (v := 2) (by decide) dL_payIf_19 ?_
          exact kz_iret (pc := 20) rfl hc3 hs3 dL_payIf_20 hq) (kz_Cmono (fun v M1 h => ?_) (fun _ _ h => h) h)
  obtain ⟨r2, rfl, h⟩ := h
  show kz_Z G (d + 9) mc ms mL_payIf Qr Qx 8 [(0, .ref p0), (1, .int p1), (2, .int p2), (3, .ref p3)] [.int r2, .int 0, .ref p3] M1 (0 + mc3) (0 + ms3)
  refine kz_i2l (pc := 8) dL_payIf_8 ?_
  obtain ⟨n4, f5, hM, hi, h⟩ := h
  refine kz_last (pc := 9) hM hi dL_payIf_9 ?_
  refine kz_goto (pc := 10) (tgt := 21) (by decide) dL_payIf_10 ?_
  refine kz_iconst (pc := 21) (v := 0) (by decide) dL_payIf_21 ?_
  exact kz_iret (pc := 22) rfl hc3 hs3 dL_payIf_22 h
theorem dL_bestMeasure_12 : decode cL_bestMeasure 12 = .ok (.astore_n 3, 1) := by decide +kernel
theorem dL_bestMeasure_13 : decode cL_bestMeasure 13 = .ok (.iconst 1, 1) := by decide +kernel
theorem dL_bestMeasure_14 : decode cL_bestMeasure 14 = .ok (.ireturn, 1) := by decide +kernel
theorem dL_bestMeasure_0 : decode cL_bestMeasure 0 = .ok (.aload_n 2, 1) := by decide +kernel
theorem dL_bestMeasure_1 : decode cL_bestMeasure 1 = .ok (.iconst 0, 1) := by decide +kernel
theorem dL_bestMeasure_2 : decode cL_bestMeasure 2 = .ok (.aload_n 0, 1) := by decide +kernel
theorem dL_bestMeasure_3 : decode cL_bestMeasure 3 = .ok (.iload_n 1, 1) := by decide +kernel
theorem dL_bestMeasure_4 : decode cL_bestMeasure 4 = .ok (.invokevirtual 78, 3) := by decide +kernel
theorem dL_bestMeasure_7 : decode cL_bestMeasure 7 = .ok (.i2l, 1) := by decide +kernel
theorem dL_bestMeasure_8 : decode cL_bestMeasure 8 = .ok (.lastore, 1) := by decide +kernel
theorem dL_bestMeasure_9 : decode cL_bestMeasure 9 = .ok (.goto 6, 3) := by decide +kernel
theorem dL_bestMeasure_15 : decode cL_bestMeasure 15 = .ok (.iconst 0, 1) := by decide +kernel
theorem dL_bestMeasure_16 : decode cL_bestMeasure 16 = .ok (.ireturn, 1) := by decide +kernel
theorem rL_bestMeasure_0 {G : kz_G} {d : Nat} {mc ms : Nat} {Qr : Option Value → kz_M → Prop} {Qx : String → kz_M → Prop} {p0 : Nat} {p1 : Int32} {p2 : Nat}  {M : kz_M} (h : (∃ fs6, (M).1 p0 = some (.inl (10, fs6))) ∧ ∃ mc3 ms3, 0 + mc3 ≤ mc ∧ 0 + ms3 ≤ ms ∧ kz_C G (d + 8) mc3 ms3 mX11_bestMeasure [.ref p0, .int p1] M (fun v M1 => ∃ r2 : Int32, v = some (.int r2) ∧ (∃ n4 f5, (M1).1 p2 = some (.inr (.long, n4, .inr (.inl f5))) ∧ vp_in (0 : Int32) n4 ∧ (Qr (some (.int 0)) (kz_up M1 p2 (.inr (.long, n4, .inr (.inl (vp_updL f5 (0 : Int32).toNatClampNeg ((r2 : Int32).toInt64))))))))) (fun E M9 => (E = "java/lang/IndexOutOfBoundsException" ∧ Qr (some (.int 1)) M9))) : kz_C G (d + 9) mc ms mL_bestMeasure [.ref p0, .int p1, .ref p2] M Qr Qx := by
  refine kz_enter (n := 3) kmL_bestMeasure.1 (Nat.le_of_ble_eq_true rfl) (ls := [(0, .ref p0), (1, .int p1), (2, .ref p2)]) rfl ?_
  refine kz_aload_n (pc := 0) 2 (v := .ref p2) (i := 2) rfl rfl rfl dL_bestMeasure_0 ?_
  refine kz_iconst (pc := 1) (v := 0) (by decide) dL_bestMeasure_1 ?_
  refine kz_aload_n (pc := 2) 0 (v := .ref p0) (i := 0) rfl rfl rfl dL_bestMeasure_2 ?_
  refine kz_iload_n (pc := 3) 1 (i := 1) rfl rfl dL_bestMeasure_3 ?_
  obtain ⟨⟨fs6, he⟩, h⟩ := h
  obtain ⟨mc3, ms3, hc3, hs3, h⟩ := h
  refine kz_callV (pc := 4) (μ' := mX11_bestMeasure) (ci := 10) (q := (RX11, TX11, 10)) (b := p0) (d' := d + 8) (mc' := mc3) (ms' := ms3) (As := [.int p1]) (st := [.int 0, .ref p2]) (c := 0) (sl := 0) kmX11_bestMeasure kw_961 (by omega) rfl (Nat.le_of_ble_eq_true rfl) he rfl rfl hc3 hs3 dL_bestMeasure_4 (fun E M9 hx => by
        rcases hx with ⟨rfl, hq⟩
        · refine kz_catchN (pre := []) (suf := []) (x := (0, 9, 12, 22)) (i := 3) rfl ⟨by decide, by decide⟩ (by decide) kw_636 kw_651 (fun z hz => absurd hz List.not_mem_nil) rfl (by decide) rfl dL_bestMeasure_12 ?_
          refine kz_iconst (pc := 13) (v := 1) (by decide) dL_bestMeasure_13 ?_
          exact kz_iret (pc := 14) rfl hc3 hs3 dL_bestMeasure_14 hq) (kz_Cmono (fun v M1 h => ?_) (fun _ _ h => h) h)
  obtain ⟨r2, rfl, h⟩ := h
  show kz_Z G (d + 9) mc ms mL_bestMeasure Qr Qx 7 [(0, .ref p0), (1, .int p1), (2, .ref p2)] [.int r2, .int 0, .ref p2] M1 (0 + mc3) (0 + ms3)
  refine kz_i2l (pc := 7) dL_bestMeasure_7 ?_
  obtain ⟨n4, f5, hM, hi, h⟩ := h
  refine kz_last (pc := 8) hM hi dL_bestMeasure_8 ?_
  refine kz_goto (pc := 9) (tgt := 15) (by decide) dL_bestMeasure_9 ?_
  refine kz_iconst (pc := 15) (v := 0) (by decide) dL_bestMeasure_15 ?_
  exact kz_iret (pc := 16) rfl hc3 hs3 dL_bestMeasure_16 h
theorem dL_wouldCount_15 : decode cL_wouldCount 15 = .ok (.astore 5, 2) := by decide +kernel
theorem dL_wouldCount_17 : decode cL_wouldCount 17 = .ok (.iconst 1, 1) := by decide +kernel
theorem dL_wouldCount_18 : decode cL_wouldCount 18 = .ok (.ireturn, 1) := by decide +kernel
theorem dL_wouldCount_19 : decode cL_wouldCount 19 = .ok (.astore 5, 2) := by decide +kernel
theorem dL_wouldCount_21 : decode cL_wouldCount 21 = .ok (.iconst 2, 1) := by decide +kernel
theorem dL_wouldCount_22 : decode cL_wouldCount 22 = .ok (.ireturn, 1) := by decide +kernel
theorem dL_wouldCount_0 : decode cL_wouldCount 0 = .ok (.aload 4, 2) := by decide +kernel
theorem dL_wouldCount_2 : decode cL_wouldCount 2 = .ok (.iconst 0, 1) := by decide +kernel
theorem dL_wouldCount_3 : decode cL_wouldCount 3 = .ok (.aload_n 0, 1) := by decide +kernel
theorem dL_wouldCount_4 : decode cL_wouldCount 4 = .ok (.iload_n 1, 1) := by decide +kernel
theorem dL_wouldCount_5 : decode cL_wouldCount 5 = .ok (.iload_n 2, 1) := by decide +kernel
theorem dL_wouldCount_6 : decode cL_wouldCount 6 = .ok (.iload_n 3, 1) := by decide +kernel
theorem dL_wouldCount_7 : decode cL_wouldCount 7 = .ok (.invokevirtual 81, 3) := by decide +kernel
theorem dL_wouldCount_10 : decode cL_wouldCount 10 = .ok (.i2l, 1) := by decide +kernel
theorem dL_wouldCount_11 : decode cL_wouldCount 11 = .ok (.lastore, 1) := by decide +kernel
theorem dL_wouldCount_12 : decode cL_wouldCount 12 = .ok (.goto 11, 3) := by decide +kernel
theorem dL_wouldCount_23 : decode cL_wouldCount 23 = .ok (.iconst 0, 1) := by decide +kernel
theorem dL_wouldCount_24 : decode cL_wouldCount 24 = .ok (.ireturn, 1) := by decide +kernel
theorem rL_wouldCount_0 {G : kz_G} {d : Nat} {mc ms : Nat} {Qr : Option Value → kz_M → Prop} {Qx : String → kz_M → Prop} {p0 : Nat} {p1 : Int32} {p2 : Int32} {p3 : Int32} {p4 : Nat}  {M : kz_M} (hN : kz_nc G) (h : (∃ fs6, (M).1 p0 = some (.inl (10, fs6))) ∧ ∃ mc3 ms3, 0 + mc3 ≤ mc ∧ 0 + ms3 ≤ ms ∧ kz_C G (d + 9) mc3 ms3 mX11_wouldCount [.ref p0, .int p1, .int p2, .int p3] M (fun v M1 => ∃ r2 : Int32, v = some (.int r2) ∧ (∃ n4 f5, (M1).1 p4 = some (.inr (.long, n4, .inr (.inl f5))) ∧ vp_in (0 : Int32) n4 ∧ (Qr (some (.int 0)) (kz_up M1 p4 (.inr (.long, n4, .inr (.inl (vp_updL f5 (0 : Int32).toNatClampNeg ((r2 : Int32).toInt64))))))))) (fun E M9 => (E = "java/lang/IndexOutOfBoundsException" ∧ Qr (some (.int 1)) M9) ∨ (E = "java/lang/IllegalArgumentException" ∧ Qr (some (.int 2)) M9))) : kz_C G (d + 10) mc ms mL_wouldCount [.ref p0, .int p1, .int p2, .int p3, .ref p4] M Qr Qx := by
  refine kz_enter (n := 5) kmL_wouldCount.1 (Nat.le_of_ble_eq_true rfl) (ls := [(0, .ref p0), (1, .int p1), (2, .int p2), (3, .int p3), (4, .ref p4)]) rfl ?_
  refine kz_aload (pc := 0) 4 (v := .ref p4) (i := 4) rfl rfl dL_wouldCount_0 ?_
  refine kz_iconst (pc := 2) (v := 0) (by decide) dL_wouldCount_2 ?_
  refine kz_aload_n (pc := 3) 0 (v := .ref p0) (i := 0) rfl rfl rfl dL_wouldCount_3 ?_
  refine kz_iload_n (pc := 4) 1 (i := 1) rfl rfl dL_wouldCount_4 ?_
  refine kz_iload_n (pc := 5) 2 (i := 2) rfl rfl dL_wouldCount_5 ?_
  refine kz_iload_n (pc := 6) 3 (i := 3) rfl rfl dL_wouldCount_6 ?_
  obtain ⟨⟨fs6, he⟩, h⟩ := h
  obtain ⟨mc3, ms3, hc3, hs3, h⟩ := h
  refine kz_callV (pc := 7) (μ' := mX11_wouldCount) (ci := 10) (q := (RX11, TX11, 10)) (b := p0) (d' := d + 9) (mc' := mc3) (ms' := ms3) (As := [.int p1, .int p2, .int p3]) (st := [.int 0, .ref p4]) (c := 0) (sl := 0) kmX11_wouldCount kw_970 (by omega) rfl (Nat.le_of_ble_eq_true rfl) he rfl rfl hc3 hs3 dL_wouldCount_7 (fun E M9 hx => by
        rcases hx with ⟨rfl, hq⟩ | ⟨rfl, hq⟩
        · refine kz_catchS (pre := []) (suf := [(0, 12, 19, 13)]) (x := (0, 12, 15, 22)) (i := 5) rfl ⟨by decide, by decide⟩ (by decide) kw_636 kw_651 (fun z hz => absurd hz List.not_mem_nil) (by decide) rfl dL_wouldCount_15 ?_
          refine kz_iconst (pc := 17) (v := 1) (by decide) dL_wouldCount_17 ?_
          exact kz_iret (pc := 18) rfl hc3 hs3 dL_wouldCount_18 hq
        · refine kz_catchS (pre := [(0, 12, 15, 22)]) (suf := []) (x := (0, 12, 19, 13)) (i := 5) rfl ⟨by decide, by decide⟩ (by decide) kw_516 kw_551 (fun z hz => by rw [List.mem_singleton.mp hz]; exact ⟨by decide, _, kw_636, hN.1⟩) (by decide) rfl dL_wouldCount_19 ?_
          refine kz_iconst (pc := 21) (v := 2) (by decide) dL_wouldCount_21 ?_
          exact kz_iret (pc := 22) rfl hc3 hs3 dL_wouldCount_22 hq) (kz_Cmono (fun v M1 h => ?_) (fun _ _ h => h) h)
  obtain ⟨r2, rfl, h⟩ := h
  show kz_Z G (d + 10) mc ms mL_wouldCount Qr Qx 10 [(0, .ref p0), (1, .int p1), (2, .int p2), (3, .int p3), (4, .ref p4)] [.int r2, .int 0, .ref p4] M1 (0 + mc3) (0 + ms3)
  refine kz_i2l (pc := 10) dL_wouldCount_10 ?_
  obtain ⟨n4, f5, hM, hi, h⟩ := h
  refine kz_last (pc := 11) hM hi dL_wouldCount_11 ?_
  refine kz_goto (pc := 12) (tgt := 23) (by decide) dL_wouldCount_12 ?_
  refine kz_iconst (pc := 23) (v := 0) (by decide) dL_wouldCount_23 ?_
  exact kz_iret (pc := 24) rfl hc3 hs3 dL_wouldCount_24 h
theorem dL_wouldPay_15 : decode cL_wouldPay 15 = .ok (.astore 5, 2) := by decide +kernel
theorem dL_wouldPay_17 : decode cL_wouldPay 17 = .ok (.iconst 1, 1) := by decide +kernel
theorem dL_wouldPay_18 : decode cL_wouldPay 18 = .ok (.ireturn, 1) := by decide +kernel
theorem dL_wouldPay_19 : decode cL_wouldPay 19 = .ok (.astore 5, 2) := by decide +kernel
theorem dL_wouldPay_21 : decode cL_wouldPay 21 = .ok (.iconst 2, 1) := by decide +kernel
theorem dL_wouldPay_22 : decode cL_wouldPay 22 = .ok (.ireturn, 1) := by decide +kernel
theorem dL_wouldPay_0 : decode cL_wouldPay 0 = .ok (.aload 4, 2) := by decide +kernel
theorem dL_wouldPay_2 : decode cL_wouldPay 2 = .ok (.iconst 0, 1) := by decide +kernel
theorem dL_wouldPay_3 : decode cL_wouldPay 3 = .ok (.aload_n 0, 1) := by decide +kernel
theorem dL_wouldPay_4 : decode cL_wouldPay 4 = .ok (.iload_n 1, 1) := by decide +kernel
theorem dL_wouldPay_5 : decode cL_wouldPay 5 = .ok (.iload_n 2, 1) := by decide +kernel
theorem dL_wouldPay_6 : decode cL_wouldPay 6 = .ok (.iload_n 3, 1) := by decide +kernel
theorem dL_wouldPay_7 : decode cL_wouldPay 7 = .ok (.invokevirtual 84, 3) := by decide +kernel
theorem dL_wouldPay_10 : decode cL_wouldPay 10 = .ok (.i2l, 1) := by decide +kernel
theorem dL_wouldPay_11 : decode cL_wouldPay 11 = .ok (.lastore, 1) := by decide +kernel
theorem dL_wouldPay_12 : decode cL_wouldPay 12 = .ok (.goto 11, 3) := by decide +kernel
theorem dL_wouldPay_23 : decode cL_wouldPay 23 = .ok (.iconst 0, 1) := by decide +kernel
theorem dL_wouldPay_24 : decode cL_wouldPay 24 = .ok (.ireturn, 1) := by decide +kernel
theorem rL_wouldPay_0 {G : kz_G} {d : Nat} {mc ms : Nat} {Qr : Option Value → kz_M → Prop} {Qx : String → kz_M → Prop} {p0 : Nat} {p1 : Int32} {p2 : Int32} {p3 : Int32} {p4 : Nat}  {M : kz_M} (hN : kz_nc G) (h : (∃ fs6, (M).1 p0 = some (.inl (10, fs6))) ∧ ∃ mc3 ms3, 0 + mc3 ≤ mc ∧ 0 + ms3 ≤ ms ∧ kz_C G (d + 9) mc3 ms3 mX11_wouldPay [.ref p0, .int p1, .int p2, .int p3] M (fun v M1 => ∃ r2 : Int32, v = some (.int r2) ∧ (∃ n4 f5, (M1).1 p4 = some (.inr (.long, n4, .inr (.inl f5))) ∧ vp_in (0 : Int32) n4 ∧ (Qr (some (.int 0)) (kz_up M1 p4 (.inr (.long, n4, .inr (.inl (vp_updL f5 (0 : Int32).toNatClampNeg ((r2 : Int32).toInt64))))))))) (fun E M9 => (E = "java/lang/IndexOutOfBoundsException" ∧ Qr (some (.int 1)) M9) ∨ (E = "java/lang/IllegalArgumentException" ∧ Qr (some (.int 2)) M9))) : kz_C G (d + 10) mc ms mL_wouldPay [.ref p0, .int p1, .int p2, .int p3, .ref p4] M Qr Qx := by
  refine kz_enter (n := 5) kmL_wouldPay.1 (Nat.le_of_ble_eq_true rfl) (ls := [(0, .ref p0), (1, .int p1), (2, .int p2), (3, .int p3), (4, .ref p4)]) rfl ?_
  refine kz_aload (pc := 0) 4 (v := .ref p4) (i := 4) rfl rfl dL_wouldPay_0 ?_
  refine kz_iconst (pc := 2) (v := 0) (by decide) dL_wouldPay_2 ?_
  refine kz_aload_n (pc := 3) 0 (v := .ref p0) (i := 0) rfl rfl rfl dL_wouldPay_3 ?_
  refine kz_iload_n (pc := 4) 1 (i := 1) rfl rfl dL_wouldPay_4 ?_
  refine kz_iload_n (pc := 5) 2 (i := 2) rfl rfl dL_wouldPay_5 ?_
  refine kz_iload_n (pc := 6) 3 (i := 3) rfl rfl dL_wouldPay_6 ?_
  obtain ⟨⟨fs6, he⟩, h⟩ := h
  obtain ⟨mc3, ms3, hc3, hs3, h⟩ := h
  refine kz_callV (pc := 7) (μ' := mX11_wouldPay) (ci := 10) (q := (RX11, TX11, 10)) (b := p0) (d' := d + 9) (mc' := mc3) (ms' := ms3) (As := [.int p1, .int p2, .int p3]) (st := [.int 0, .ref p4]) (c := 0) (sl := 0) kmX11_wouldPay kw_1116 (by omega) rfl (Nat.le_of_ble_eq_true rfl) he rfl rfl hc3 hs3 dL_wouldPay_7 (fun E M9 hx => by
        rcases hx with ⟨rfl, hq⟩ | ⟨rfl, hq⟩
        · refine kz_catchS (pre := []) (suf := [(0, 12, 19, 13)]) (x := (0, 12, 15, 22)) (i := 5) rfl ⟨by decide, by decide⟩ (by decide) kw_636 kw_651 (fun z hz => absurd hz List.not_mem_nil) (by decide) rfl dL_wouldPay_15 ?_
          refine kz_iconst (pc := 17) (v := 1) (by decide) dL_wouldPay_17 ?_
          exact kz_iret (pc := 18) rfl hc3 hs3 dL_wouldPay_18 hq
        · refine kz_catchS (pre := [(0, 12, 15, 22)]) (suf := []) (x := (0, 12, 19, 13)) (i := 5) rfl ⟨by decide, by decide⟩ (by decide) kw_516 kw_551 (fun z hz => by rw [List.mem_singleton.mp hz]; exact ⟨by decide, _, kw_636, hN.1⟩) (by decide) rfl dL_wouldPay_19 ?_
          refine kz_iconst (pc := 21) (v := 2) (by decide) dL_wouldPay_21 ?_
          exact kz_iret (pc := 22) rfl hc3 hs3 dL_wouldPay_22 hq) (kz_Cmono (fun v M1 h => ?_) (fun _ _ h => h) h)
  obtain ⟨r2, rfl, h⟩ := h
  show kz_Z G (d + 10) mc ms mL_wouldPay Qr Qx 10 [(0, .ref p0), (1, .int p1), (2, .int p2), (3, .int p3), (4, .ref p4)] [.int r2, .int 0, .ref p4] M1 (0 + mc3) (0 + ms3)
  refine kz_i2l (pc := 10) dL_wouldPay_10 ?_
  obtain ⟨n4, f5, hM, hi, h⟩ := h
  refine kz_last (pc := 11) hM hi dL_wouldPay_11 ?_
  refine kz_goto (pc := 12) (tgt := 23) (by decide) dL_wouldPay_12 ?_
  refine kz_iconst (pc := 23) (v := 0) (by decide) dL_wouldPay_23 ?_
  exact kz_iret (pc := 24) rfl hc3 hs3 dL_wouldPay_24 h
theorem dL_countsIf_15 : decode cL_countsIf 15 = .ok (.astore 5, 2) := by decide +kernel
theorem dL_countsIf_17 : decode cL_countsIf 17 = .ok (.iconst 1, 1) := by decide +kernel
theorem dL_countsIf_18 : decode cL_countsIf 18 = .ok (.ireturn, 1) := by decide +kernel
theorem dL_countsIf_19 : decode cL_countsIf 19 = .ok (.astore 5, 2) := by decide +kernel
theorem dL_countsIf_21 : decode cL_countsIf 21 = .ok (.iconst 2, 1) := by decide +kernel
theorem dL_countsIf_22 : decode cL_countsIf 22 = .ok (.ireturn, 1) := by decide +kernel
theorem dL_countsIf_0 : decode cL_countsIf 0 = .ok (.aload 4, 2) := by decide +kernel
theorem dL_countsIf_2 : decode cL_countsIf 2 = .ok (.iconst 0, 1) := by decide +kernel
theorem dL_countsIf_3 : decode cL_countsIf 3 = .ok (.aload_n 0, 1) := by decide +kernel
theorem dL_countsIf_4 : decode cL_countsIf 4 = .ok (.iload_n 1, 1) := by decide +kernel
theorem dL_countsIf_5 : decode cL_countsIf 5 = .ok (.iload_n 2, 1) := by decide +kernel
theorem dL_countsIf_6 : decode cL_countsIf 6 = .ok (.iload_n 3, 1) := by decide +kernel
theorem dL_countsIf_7 : decode cL_countsIf 7 = .ok (.invokevirtual 87, 3) := by decide +kernel
theorem dL_countsIf_10 : decode cL_countsIf 10 = .ok (.i2l, 1) := by decide +kernel
theorem dL_countsIf_11 : decode cL_countsIf 11 = .ok (.lastore, 1) := by decide +kernel
theorem dL_countsIf_12 : decode cL_countsIf 12 = .ok (.goto 11, 3) := by decide +kernel
theorem dL_countsIf_23 : decode cL_countsIf 23 = .ok (.iconst 0, 1) := by decide +kernel
theorem dL_countsIf_24 : decode cL_countsIf 24 = .ok (.ireturn, 1) := by decide +kernel
theorem rL_countsIf_0 {G : kz_G} {d : Nat} {mc ms : Nat} {Qr : Option Value → kz_M → Prop} {Qx : String → kz_M → Prop} {p0 : Nat} {p1 : Int32} {p2 : Int32} {p3 : Int32} {p4 : Nat}  {M : kz_M} (hN : kz_nc G) (h : (∃ fs6, (M).1 p0 = some (.inl (10, fs6))) ∧ ∃ mc3 ms3, 0 + mc3 ≤ mc ∧ 0 + ms3 ≤ ms ∧ kz_C G (d + 8) mc3 ms3 mX11_countsIf [.ref p0, .int p1, .int p2, .int p3] M (fun v M1 => ∃ r2 : Int32, v = some (.int r2) ∧ (∃ n4 f5, (M1).1 p4 = some (.inr (.long, n4, .inr (.inl f5))) ∧ vp_in (0 : Int32) n4 ∧ (Qr (some (.int 0)) (kz_up M1 p4 (.inr (.long, n4, .inr (.inl (vp_updL f5 (0 : Int32).toNatClampNeg ((r2 : Int32).toInt64))))))))) (fun E M9 => (E = "java/lang/IndexOutOfBoundsException" ∧ Qr (some (.int 1)) M9) ∨ (E = "java/lang/IllegalArgumentException" ∧ Qr (some (.int 2)) M9))) : kz_C G (d + 9) mc ms mL_countsIf [.ref p0, .int p1, .int p2, .int p3, .ref p4] M Qr Qx := by
  refine kz_enter (n := 5) kmL_countsIf.1 (Nat.le_of_ble_eq_true rfl) (ls := [(0, .ref p0), (1, .int p1), (2, .int p2), (3, .int p3), (4, .ref p4)]) rfl ?_
  refine kz_aload (pc := 0) 4 (v := .ref p4) (i := 4) rfl rfl dL_countsIf_0 ?_
  refine kz_iconst (pc := 2) (v := 0) (by decide) dL_countsIf_2 ?_
  refine kz_aload_n (pc := 3) 0 (v := .ref p0) (i := 0) rfl rfl rfl dL_countsIf_3 ?_
  refine kz_iload_n (pc := 4) 1 (i := 1) rfl rfl dL_countsIf_4 ?_
  refine kz_iload_n (pc := 5) 2 (i := 2) rfl rfl dL_countsIf_5 ?_
  refine kz_iload_n (pc := 6) 3 (i := 3) rfl rfl dL_countsIf_6 ?_
  obtain ⟨⟨fs6, he⟩, h⟩ := h
  obtain ⟨mc3, ms3, hc3, hs3, h⟩ := h
  refine kz_callV (pc := 7) (μ' := mX11_countsIf) (ci := 10) (q := (RX11, TX11, 10)) (b := p0) (d' := d + 8) (mc' := mc3) (ms' := ms3) (As := [.int p1, .int p2, .int p3]) (st := [.int 0, .ref p4]) (c := 0) (sl := 0) kmX11_countsIf kw_1128 (by omega) rfl (Nat.le_of_ble_eq_true rfl) he rfl rfl hc3 hs3 dL_countsIf_7 (fun E M9 hx => by
        rcases hx with ⟨rfl, hq⟩ | ⟨rfl, hq⟩
        · refine kz_catchS (pre := []) (suf := [(0, 12, 19, 13)]) (x := (0, 12, 15, 22)) (i := 5) rfl ⟨by decide, by decide⟩ (by decide) kw_636 kw_651 (fun z hz => absurd hz List.not_mem_nil) (by decide) rfl dL_countsIf_15 ?_
          refine kz_iconst (pc := 17) (v := 1) (by decide) dL_countsIf_17 ?_
          exact kz_iret (pc := 18) rfl hc3 hs3 dL_countsIf_18 hq
        · refine kz_catchS (pre := [(0, 12, 15, 22)]) (suf := []) (x := (0, 12, 19, 13)) (i := 5) rfl ⟨by decide, by decide⟩ (by decide) kw_516 kw_551 (fun z hz => by rw [List.mem_singleton.mp hz]; exact ⟨by decide, _, kw_636, hN.1⟩) (by decide) rfl dL_countsIf_19 ?_
          refine kz_iconst (pc := 21) (v := 2) (by decide) dL_countsIf_21 ?_
          exact kz_iret (pc := 22) rfl hc3 hs3 dL_countsIf_22 hq) (kz_Cmono (fun v M1 h => ?_) (fun _ _ h => h) h)
  obtain ⟨r2, rfl, h⟩ := h
  show kz_Z G (d + 9) mc ms mL_countsIf Qr Qx 10 [(0, .ref p0), (1, .int p1), (2, .int p2), (3, .int p3), (4, .ref p4)] [.int r2, .int 0, .ref p4] M1 (0 + mc3) (0 + ms3)
  refine kz_i2l (pc := 10) dL_countsIf_10 ?_
  obtain ⟨n4, f5, hM, hi, h⟩ := h
  refine kz_last (pc := 11) hM hi dL_countsIf_11 ?_
  refine kz_goto (pc := 12) (tgt := 23) (by decide) dL_countsIf_12 ?_
  refine kz_iconst (pc := 23) (v := 0) (by decide) dL_countsIf_23 ?_
  exact kz_iret (pc := 24) rfl hc3 hs3 dL_countsIf_24 h
theorem dL_whyNot_13 : decode cL_whyNot 13 = .ok (.astore 4, 2) := by decide +kernel
theorem dL_whyNot_15 : decode cL_whyNot 15 = .ok (.iconst 1, 1) := by decide +kernel
theorem dL_whyNot_16 : decode cL_whyNot 16 = .ok (.ireturn, 1) := by decide +kernel
theorem dL_whyNot_0 : decode cL_whyNot 0 = .ok (.aload_n 3, 1) := by decide +kernel
theorem dL_whyNot_1 : decode cL_whyNot 1 = .ok (.iconst 0, 1) := by decide +kernel
theorem dL_whyNot_2 : decode cL_whyNot 2 = .ok (.aload_n 0, 1) := by decide +kernel
theorem dL_whyNot_3 : decode cL_whyNot 3 = .ok (.iload_n 1, 1) := by decide +kernel
theorem dL_whyNot_4 : decode cL_whyNot 4 = .ok (.iload_n 2, 1) := by decide +kernel
theorem dL_whyNot_5 : decode cL_whyNot 5 = .ok (.invokevirtual 90, 3) := by decide +kernel
theorem dL_whyNot_8 : decode cL_whyNot 8 = .ok (.i2l, 1) := by decide +kernel
theorem dL_whyNot_9 : decode cL_whyNot 9 = .ok (.lastore, 1) := by decide +kernel
theorem dL_whyNot_10 : decode cL_whyNot 10 = .ok (.goto 7, 3) := by decide +kernel
theorem dL_whyNot_17 : decode cL_whyNot 17 = .ok (.iconst 0, 1) := by decide +kernel
theorem dL_whyNot_18 : decode cL_whyNot 18 = .ok (.ireturn, 1) := by decide +kernel
theorem rL_whyNot_0 {G : kz_G} {d : Nat} {mc ms : Nat} {Qr : Option Value → kz_M → Prop} {Qx : String → kz_M → Prop} {p0 : Nat} {p1 : Int32} {p2 : Int32} {p3 : Nat}  {M : kz_M} (h : (∃ fs6, (M).1 p0 = some (.inl (10, fs6))) ∧ ∃ mc3 ms3, 0 + mc3 ≤ mc ∧ 0 + ms3 ≤ ms ∧ kz_C G (d + 9) mc3 ms3 mX11_whyNot [.ref p0, .int p1, .int p2] M (fun v M1 => ∃ r2 : Int32, v = some (.int r2) ∧ (∃ n4 f5, (M1).1 p3 = some (.inr (.long, n4, .inr (.inl f5))) ∧ vp_in (0 : Int32) n4 ∧ (Qr (some (.int 0)) (kz_up M1 p3 (.inr (.long, n4, .inr (.inl (vp_updL f5 (0 : Int32).toNatClampNeg ((r2 : Int32).toInt64))))))))) (fun E M9 => (E = "java/lang/IndexOutOfBoundsException" ∧ Qr (some (.int 1)) M9))) : kz_C G (d + 10) mc ms mL_whyNot [.ref p0, .int p1, .int p2, .ref p3] M Qr Qx := by
  refine kz_enter (n := 4) kmL_whyNot.1 (Nat.le_of_ble_eq_true rfl) (ls := [(0, .ref p0), (1, .int p1), (2, .int p2), (3, .ref p3)]) rfl ?_
  refine kz_aload_n (pc := 0) 3 (v := .ref p3) (i := 3) rfl rfl rfl dL_whyNot_0 ?_
  refine kz_iconst (pc := 1) (v := 0) (by decide) dL_whyNot_1 ?_
  refine kz_aload_n (pc := 2) 0 (v := .ref p0) (i := 0) rfl rfl rfl dL_whyNot_2 ?_
  refine kz_iload_n (pc := 3) 1 (i := 1) rfl rfl dL_whyNot_3 ?_
  refine kz_iload_n (pc := 4) 2 (i := 2) rfl rfl dL_whyNot_4 ?_
  obtain ⟨⟨fs6, he⟩, h⟩ := h
  obtain ⟨mc3, ms3, hc3, hs3, h⟩ := h
  refine kz_callV (pc := 5) (μ' := mX11_whyNot) (ci := 10) (q := (RX11, TX11, 10)) (b := p0) (d' := d + 9) (mc' := mc3) (ms' := ms3) (As := [.int p1, .int p2]) (st := [.int 0, .ref p3]) (c := 0) (sl := 0) kmX11_whyNot kw_1143 (by omega) rfl (Nat.le_of_ble_eq_true rfl) he rfl rfl hc3 hs3 dL_whyNot_5 (fun E M9 hx => by
        rcases hx with ⟨rfl, hq⟩
        · refine kz_catchS (pre := []) (suf := []) (x := (0, 10, 13, 22)) (i := 4) rfl ⟨by decide, by decide⟩ (by decide) kw_636 kw_651 (fun z hz => absurd hz List.not_mem_nil) (by decide) rfl dL_whyNot_13 ?_
          refine kz_iconst (pc := 15) (v := 1) (by decide) dL_whyNot_15 ?_
          exact kz_iret (pc := 16) rfl hc3 hs3 dL_whyNot_16 hq) (kz_Cmono (fun v M1 h => ?_) (fun _ _ h => h) h)
  obtain ⟨r2, rfl, h⟩ := h
  show kz_Z G (d + 10) mc ms mL_whyNot Qr Qx 8 [(0, .ref p0), (1, .int p1), (2, .int p2), (3, .ref p3)] [.int r2, .int 0, .ref p3] M1 (0 + mc3) (0 + ms3)
  refine kz_i2l (pc := 8) dL_whyNot_8 ?_
  obtain ⟨n4, f5, hM, hi, h⟩ := h
  refine kz_last (pc := 9) hM hi dL_whyNot_9 ?_
  refine kz_goto (pc := 10) (tgt := 17) (by decide) dL_whyNot_10 ?_
  refine kz_iconst (pc := 17) (v := 0) (by decide) dL_whyNot_17 ?_
  exact kz_iret (pc := 18) rfl hc3 hs3 dL_whyNot_18 h
theorem dL_hopes_12 : decode cL_hopes 12 = .ok (.astore_n 3, 1) := by decide +kernel
theorem dL_hopes_13 : decode cL_hopes 13 = .ok (.iconst 1, 1) := by decide +kernel
theorem dL_hopes_14 : decode cL_hopes 14 = .ok (.ireturn, 1) := by decide +kernel
theorem dL_hopes_0 : decode cL_hopes 0 = .ok (.aload_n 2, 1) := by decide +kernel
theorem dL_hopes_1 : decode cL_hopes 1 = .ok (.iconst 0, 1) := by decide +kernel
theorem dL_hopes_2 : decode cL_hopes 2 = .ok (.aload_n 0, 1) := by decide +kernel
theorem dL_hopes_3 : decode cL_hopes 3 = .ok (.iload_n 1, 1) := by decide +kernel
theorem dL_hopes_4 : decode cL_hopes 4 = .ok (.invokevirtual 93, 3) := by decide +kernel
theorem dL_hopes_7 : decode cL_hopes 7 = .ok (.i2l, 1) := by decide +kernel
theorem dL_hopes_8 : decode cL_hopes 8 = .ok (.lastore, 1) := by decide +kernel
theorem dL_hopes_9 : decode cL_hopes 9 = .ok (.goto 6, 3) := by decide +kernel
theorem dL_hopes_15 : decode cL_hopes 15 = .ok (.iconst 0, 1) := by decide +kernel
theorem dL_hopes_16 : decode cL_hopes 16 = .ok (.ireturn, 1) := by decide +kernel
theorem rL_hopes_0 {G : kz_G} {d : Nat} {mc ms : Nat} {Qr : Option Value → kz_M → Prop} {Qx : String → kz_M → Prop} {p0 : Nat} {p1 : Int32} {p2 : Nat}  {M : kz_M} (h : (∃ fs6, (M).1 p0 = some (.inl (10, fs6))) ∧ ∃ mc3 ms3, 0 + mc3 ≤ mc ∧ 0 + ms3 ≤ ms ∧ kz_C G (d + 8) mc3 ms3 mX11_hopes [.ref p0, .int p1] M (fun v M1 => ∃ r2 : Int32, v = some (.int r2) ∧ (∃ n4 f5, (M1).1 p2 = some (.inr (.long, n4, .inr (.inl f5))) ∧ vp_in (0 : Int32) n4 ∧ (Qr (some (.int 0)) (kz_up M1 p2 (.inr (.long, n4, .inr (.inl (vp_updL f5 (0 : Int32).toNatClampNeg ((r2 : Int32).toInt64))))))))) (fun E M9 => (E = "java/lang/IndexOutOfBoundsException" ∧ Qr (some (.int 1)) M9))) : kz_C G (d + 9) mc ms mL_hopes [.ref p0, .int p1, .ref p2] M Qr Qx := by
  refine kz_enter (n := 3) kmL_hopes.1 (Nat.le_of_ble_eq_true rfl) (ls := [(0, .ref p0), (1, .int p1), (2, .ref p2)]) rfl ?_
  refine kz_aload_n (pc := 0) 2 (v := .ref p2) (i := 2) rfl rfl rfl dL_hopes_0 ?_
  refine kz_iconst (pc := 1) (v := 0) (by decide) dL_hopes_1 ?_
  refine kz_aload_n (pc := 2) 0 (v := .ref p0) (i := 0) rfl rfl rfl dL_hopes_2 ?_
  refine kz_iload_n (pc := 3) 1 (i := 1) rfl rfl dL_hopes_3 ?_
  obtain ⟨⟨fs6, he⟩, h⟩ := h
  obtain ⟨mc3, ms3, hc3, hs3, h⟩ := h
  refine kz_callV (pc := 4) (μ' := mX11_hopes) (ci := 10) (q := (RX11, TX11, 10)) (b := p0) (d' := d + 8) (mc' := mc3) (ms' := ms3) (As := [.int p1]) (st := [.int 0, .ref p2]) (c := 0) (sl := 0) kmX11_hopes kw_1163 (by omega) rfl (Nat.le_of_ble_eq_true rfl) he rfl rfl hc3 hs3 dL_hopes_4 (fun E M9 hx => by
        rcases hx with ⟨rfl, hq⟩
        · refine kz_catchN (pre := []) (suf := []) (x := (0, 9, 12, 22)) (i := 3) rfl ⟨by decide, by decide⟩ (by decide) kw_636 kw_651 (fun z hz => absurd hz List.not_mem_nil) rfl (by decide) rfl dL_hopes_12 ?_
          refine kz_iconst (pc := 13) (v := 1) (by decide) dL_hopes_13 ?_
          exact kz_iret (pc := 14) rfl hc3 hs3 dL_hopes_14 hq) (kz_Cmono (fun v M1 h => ?_) (fun _ _ h => h) h)
  obtain ⟨r2, rfl, h⟩ := h
  show kz_Z G (d + 9) mc ms mL_hopes Qr Qx 7 [(0, .ref p0), (1, .int p1), (2, .ref p2)] [.int r2, .int 0, .ref p2] M1 (0 + mc3) (0 + ms3)
  refine kz_i2l (pc := 7) dL_hopes_7 ?_
  obtain ⟨n4, f5, hM, hi, h⟩ := h
  refine kz_last (pc := 8) hM hi dL_hopes_8 ?_
  refine kz_goto (pc := 9) (tgt := 15) (by decide) dL_hopes_9 ?_
  refine kz_iconst (pc := 15) (v := 0) (by decide) dL_hopes_15 ?_
  exact kz_iret (pc := 16) rfl hc3 hs3 dL_hopes_16 h
theorem dL_longestRun_12 : decode cL_longestRun 12 = .ok (.astore_n 3, 1) := by decide +kernel
theorem dL_longestRun_13 : decode cL_longestRun 13 = .ok (.iconst 1, 1) := by decide +kernel
theorem dL_longestRun_14 : decode cL_longestRun 14 = .ok (.ireturn, 1) := by decide +kernel
theorem dL_longestRun_0 : decode cL_longestRun 0 = .ok (.aload_n 2, 1) := by decide +kernel
theorem dL_longestRun_1 : decode cL_longestRun 1 = .ok (.iconst 0, 1) := by decide +kernel
theorem dL_longestRun_2 : decode cL_longestRun 2 = .ok (.aload_n 0, 1) := by decide +kernel
theorem dL_longestRun_3 : decode cL_longestRun 3 = .ok (.iload_n 1, 1) := by decide +kernel
theorem dL_longestRun_4 : decode cL_longestRun 4 = .ok (.invokevirtual 96, 3) := by decide +kernel
theorem dL_longestRun_7 : decode cL_longestRun 7 = .ok (.i2l, 1) := by decide +kernel
theorem dL_longestRun_8 : decode cL_longestRun 8 = .ok (.lastore, 1) := by decide +kernel
theorem dL_longestRun_9 : decode cL_longestRun 9 = .ok (.goto 6, 3) := by decide +kernel
theorem dL_longestRun_15 : decode cL_longestRun 15 = .ok (.iconst 0, 1) := by decide +kernel
theorem dL_longestRun_16 : decode cL_longestRun 16 = .ok (.ireturn, 1) := by decide +kernel
theorem rL_longestRun_0 {G : kz_G} {d : Nat} {mc ms : Nat} {Qr : Option Value → kz_M → Prop} {Qx : String → kz_M → Prop} {p0 : Nat} {p1 : Int32} {p2 : Nat}  {M : kz_M} (h : (∃ fs6, (M).1 p0 = some (.inl (10, fs6))) ∧ ∃ mc3 ms3, 0 + mc3 ≤ mc ∧ 0 + ms3 ≤ ms ∧ kz_C G (d + 8) mc3 ms3 mX11_longestRun [.ref p0, .int p1] M (fun v M1 => ∃ r2 : Int32, v = some (.int r2) ∧ (∃ n4 f5, (M1).1 p2 = some (.inr (.long, n4, .inr (.inl f5))) ∧ vp_in (0 : Int32) n4 ∧ (Qr (some (.int 0)) (kz_up M1 p2 (.inr (.long, n4, .inr (.inl (vp_updL f5 (0 : Int32).toNatClampNeg ((r2 : Int32).toInt64))))))))) (fun E M9 => (E = "java/lang/IndexOutOfBoundsException" ∧ Qr (some (.int 1)) M9))) : kz_C G (d + 9) mc ms mL_longestRun [.ref p0, .int p1, .ref p2] M Qr Qx := by
  refine kz_enter (n := 3) kmL_longestRun.1 (Nat.le_of_ble_eq_true rfl) (ls := [(0, .ref p0), (1, .int p1), (2, .ref p2)]) rfl ?_
  refine kz_aload_n (pc := 0) 2 (v := .ref p2) (i := 2) rfl rfl rfl dL_longestRun_0 ?_
  refine kz_iconst (pc := 1) (v := 0) (by decide) dL_longestRun_1 ?_
  refine kz_aload_n (pc := 2) 0 (v := .ref p0) (i := 0) rfl rfl rfl dL_longestRun_2 ?_
  refine kz_iload_n (pc := 3) 1 (i := 1) rfl rfl dL_longestRun_3 ?_
  obtain ⟨⟨fs6, he⟩, h⟩ := h
  obtain ⟨mc3, ms3, hc3, hs3, h⟩ := h
  refine kz_callV (pc := 4) (μ' := mX11_longestRun) (ci := 10) (q := (RX11, TX11, 10)) (b := p0) (d' := d + 8) (mc' := mc3) (ms' := ms3) (As := [.int p1]) (st := [.int 0, .ref p2]) (c := 0) (sl := 0) kmX11_longestRun kw_1177 (by omega) rfl (Nat.le_of_ble_eq_true rfl) he rfl rfl hc3 hs3 dL_longestRun_4 (fun E M9 hx => by
        rcases hx with ⟨rfl, hq⟩
        · refine kz_catchN (pre := []) (suf := []) (x := (0, 9, 12, 22)) (i := 3) rfl ⟨by decide, by decide⟩ (by decide) kw_636 kw_651 (fun z hz => absurd hz List.not_mem_nil) rfl (by decide) rfl dL_longestRun_12 ?_
          refine kz_iconst (pc := 13) (v := 1) (by decide) dL_longestRun_13 ?_
          exact kz_iret (pc := 14) rfl hc3 hs3 dL_longestRun_14 hq) (kz_Cmono (fun v M1 h => ?_) (fun _ _ h => h) h)
  obtain ⟨r2, rfl, h⟩ := h
  show kz_Z G (d + 9) mc ms mL_longestRun Qr Qx 7 [(0, .ref p0), (1, .int p1), (2, .ref p2)] [.int r2, .int 0, .ref p2] M1 (0 + mc3) (0 + ms3)
  refine kz_i2l (pc := 7) dL_longestRun_7 ?_
  obtain ⟨n4, f5, hM, hi, h⟩ := h
  refine kz_last (pc := 8) hM hi dL_longestRun_8 ?_
  refine kz_goto (pc := 9) (tgt := 15) (by decide) dL_longestRun_9 ?_
  refine kz_iconst (pc := 15) (v := 0) (by decide) dL_longestRun_15 ?_
  exact kz_iret (pc := 16) rfl hc3 hs3 dL_longestRun_16 h
theorem dL_submit_15 : decode cL_submit 15 = .ok (.astore 5, 2) := by decide +kernel
theorem dL_submit_17 : decode cL_submit 17 = .ok (.iconst 1, 1) := by decide +kernel
theorem dL_submit_18 : decode cL_submit 18 = .ok (.ireturn, 1) := by decide +kernel
theorem dL_submit_19 : decode cL_submit 19 = .ok (.astore 5, 2) := by decide +kernel
theorem dL_submit_21 : decode cL_submit 21 = .ok (.iconst 2, 1) := by decide +kernel
theorem dL_submit_22 : decode cL_submit 22 = .ok (.ireturn, 1) := by decide +kernel
theorem dL_submit_0 : decode cL_submit 0 = .ok (.aload 4, 2) := by decide +kernel
theorem dL_submit_2 : decode cL_submit 2 = .ok (.iconst 0, 1) := by decide +kernel
theorem dL_submit_3 : decode cL_submit 3 = .ok (.aload_n 0, 1) := by decide +kernel
theorem dL_submit_4 : decode cL_submit 4 = .ok (.iload_n 1, 1) := by decide +kernel
theorem dL_submit_5 : decode cL_submit 5 = .ok (.iload_n 2, 1) := by decide +kernel
theorem dL_submit_6 : decode cL_submit 6 = .ok (.iload_n 3, 1) := by decide +kernel
theorem dL_submit_7 : decode cL_submit 7 = .ok (.invokevirtual 99, 3) := by decide +kernel
theorem dL_submit_10 : decode cL_submit 10 = .ok (.i2l, 1) := by decide +kernel
theorem dL_submit_11 : decode cL_submit 11 = .ok (.lastore, 1) := by decide +kernel
theorem dL_submit_12 : decode cL_submit 12 = .ok (.goto 11, 3) := by decide +kernel
theorem dL_submit_23 : decode cL_submit 23 = .ok (.iconst 0, 1) := by decide +kernel
theorem dL_submit_24 : decode cL_submit 24 = .ok (.ireturn, 1) := by decide +kernel
theorem rL_submit_0 {G : kz_G} {d : Nat} {mc ms : Nat} {Qr : Option Value → kz_M → Prop} {Qx : String → kz_M → Prop} {p0 : Nat} {p1 : Int32} {p2 : Int32} {p3 : Int32} {p4 : Nat}  {M : kz_M} (hN : kz_nc G) (h : (∃ fs6, (M).1 p0 = some (.inl (10, fs6))) ∧ ∃ mc3 ms3, 0 + mc3 ≤ mc ∧ 0 + ms3 ≤ ms ∧ kz_C G (d + 9) mc3 ms3 mX11_submit [.ref p0, .int p1, .int p2, .int p3] M (fun v M1 => ∃ r2 : Int32, v = some (.int r2) ∧ (∃ n4 f5, (M1).1 p4 = some (.inr (.long, n4, .inr (.inl f5))) ∧ vp_in (0 : Int32) n4 ∧ (Qr (some (.int 0)) (kz_up M1 p4 (.inr (.long, n4, .inr (.inl (vp_updL f5 (0 : Int32).toNatClampNeg ((r2 : Int32).toInt64))))))))) (fun E M9 => (E = "java/lang/IndexOutOfBoundsException" ∧ Qr (some (.int 1)) M9) ∨ (E = "java/lang/IllegalArgumentException" ∧ Qr (some (.int 2)) M9))) : kz_C G (d + 10) mc ms mL_submit [.ref p0, .int p1, .int p2, .int p3, .ref p4] M Qr Qx := by
  refine kz_enter (n := 5) kmL_submit.1 (Nat.le_of_ble_eq_true rfl) (ls := [(0, .ref p0), (1, .int p1), (2, .int p2), (3, .int p3), (4, .ref p4)]) rfl ?_
  refine kz_aload (pc := 0) 4 (v := .ref p4) (i := 4) rfl rfl dL_submit_0 ?_
  refine kz_iconst (pc := 2) (v := 0) (by decide) dL_submit_2 ?_
  refine kz_aload_n (pc := 3) 0 (v := .ref p0) (i := 0) rfl rfl rfl dL_submit_3 ?_
  refine kz_iload_n (pc := 4) 1 (i := 1) rfl rfl dL_submit_4 ?_
  refine kz_iload_n (pc := 5) 2 (i := 2) rfl rfl dL_submit_5 ?_
  refine kz_iload_n (pc := 6) 3 (i := 3) rfl rfl dL_submit_6 ?_
  obtain ⟨⟨fs6, he⟩, h⟩ := h
  obtain ⟨mc3, ms3, hc3, hs3, h⟩ := h
  refine kz_callV (pc := 7) (μ' := mX11_submit) (ci := 10) (q := (RX11, TX11, 10)) (b := p0) (d' := d + 9) (mc' := mc3) (ms' := ms3) (As := [.int p1, .int p2, .int p3]) (st := [.int 0, .ref p4]) (c := 0) (sl := 0) kmX11_submit kw_1189 (by omega) rfl (Nat.le_of_ble_eq_true rfl) he rfl rfl hc3 hs3 dL_submit_7 (fun E M9 hx => by
        rcases hx with ⟨rfl, hq⟩ | ⟨rfl, hq⟩
        · refine kz_catchS (pre := []) (suf := [(0, 12, 19, 13)]) (x := (0, 12, 15, 22)) (i := 5) rfl ⟨by decide, by decide⟩ (by decide) kw_636 kw_651 (fun z hz => absurd hz List.not_mem_nil) (by decide) rfl dL_submit_15 ?_
          refine kz_iconst (pc := 17) (v := 1) (by decide) dL_submit_17 ?_
          exact kz_iret (pc := 18) rfl hc3 hs3 dL_submit_18 hq
        · refine kz_catchS (pre := [(0, 12, 15, 22)]) (suf := []) (x := (0, 12, 19, 13)) (i := 5) rfl ⟨by decide, by decide⟩ (by decide) kw_516 kw_551 (fun z hz => by rw [List.mem_singleton.mp hz]; exact ⟨by decide, _, kw_636, hN.1⟩) (by decide) rfl dL_submit_19 ?_
          refine kz_iconst (pc := 21) (v := 2) (by decide) dL_submit_21 ?_
          exact kz_iret (pc := 22) rfl hc3 hs3 dL_submit_22 hq) (kz_Cmono (fun v M1 h => ?_) (fun _ _ h => h) h)
  obtain ⟨r2, rfl, h⟩ := h
  show kz_Z G (d + 10) mc ms mL_submit Qr Qx 10 [(0, .ref p0), (1, .int p1), (2, .int p2), (3, .int p3), (4, .ref p4)] [.int r2, .int 0, .ref p4] M1 (0 + mc3) (0 + ms3)
  refine kz_i2l (pc := 10) dL_submit_10 ?_
  obtain ⟨n4, f5, hM, hi, h⟩ := h
  refine kz_last (pc := 11) hM hi dL_submit_11 ?_
  refine kz_goto (pc := 12) (tgt := 23) (by decide) dL_submit_12 ?_
  refine kz_iconst (pc := 23) (v := 0) (by decide) dL_submit_23 ?_
  exact kz_iret (pc := 24) rfl hc3 hs3 dL_submit_24 h
theorem dL_appeal_13 : decode cL_appeal 13 = .ok (.astore 4, 2) := by decide +kernel
theorem dL_appeal_15 : decode cL_appeal 15 = .ok (.iconst 1, 1) := by decide +kernel
theorem dL_appeal_16 : decode cL_appeal 16 = .ok (.ireturn, 1) := by decide +kernel
theorem dL_appeal_0 : decode cL_appeal 0 = .ok (.aload_n 3, 1) := by decide +kernel
theorem dL_appeal_1 : decode cL_appeal 1 = .ok (.iconst 0, 1) := by decide +kernel
theorem dL_appeal_2 : decode cL_appeal 2 = .ok (.aload_n 0, 1) := by decide +kernel
theorem dL_appeal_3 : decode cL_appeal 3 = .ok (.iload_n 1, 1) := by decide +kernel
theorem dL_appeal_4 : decode cL_appeal 4 = .ok (.iload_n 2, 1) := by decide +kernel
theorem dL_appeal_5 : decode cL_appeal 5 = .ok (.invokevirtual 102, 3) := by decide +kernel
theorem dL_appeal_8 : decode cL_appeal 8 = .ok (.i2l, 1) := by decide +kernel
theorem dL_appeal_9 : decode cL_appeal 9 = .ok (.lastore, 1) := by decide +kernel
theorem dL_appeal_10 : decode cL_appeal 10 = .ok (.goto 7, 3) := by decide +kernel
theorem dL_appeal_17 : decode cL_appeal 17 = .ok (.iconst 0, 1) := by decide +kernel
theorem dL_appeal_18 : decode cL_appeal 18 = .ok (.ireturn, 1) := by decide +kernel
theorem rL_appeal_0 {G : kz_G} {d : Nat} {mc ms : Nat} {Qr : Option Value → kz_M → Prop} {Qx : String → kz_M → Prop} {p0 : Nat} {p1 : Int32} {p2 : Int32} {p3 : Nat}  {M : kz_M} (h : (∃ fs6, (M).1 p0 = some (.inl (10, fs6))) ∧ ∃ mc3 ms3, 0 + mc3 ≤ mc ∧ 0 + ms3 ≤ ms ∧ kz_C G (d + 9) mc3 ms3 mX11_appeal [.ref p0, .int p1, .int p2] M (fun v M1 => ∃ r2 : Int32, v = some (.int r2) ∧ (∃ n4 f5, (M1).1 p3 = some (.inr (.long, n4, .inr (.inl f5))) ∧ vp_in (0 : Int32) n4 ∧ (Qr (some (.int 0)) (kz_up M1 p3 (.inr (.long, n4, .inr (.inl (vp_updL f5 (0 : Int32).toNatClampNeg ((r2 : Int32).toInt64))))))))) (fun E M9 => (E = "java/lang/IndexOutOfBoundsException" ∧ Qr (some (.int 1)) M9))) : kz_C G (d + 10) mc ms mL_appeal [.ref p0, .int p1, .int p2, .ref p3] M Qr Qx := by
  refine kz_enter (n := 4) kmL_appeal.1 (Nat.le_of_ble_eq_true rfl) (ls := [(0, .ref p0), (1, .int p1), (2, .int p2), (3, .ref p3)]) rfl ?_
  refine kz_aload_n (pc := 0) 3 (v := .ref p3) (i := 3) rfl rfl rfl dL_appeal_0 ?_
  refine kz_iconst (pc := 1) (v := 0) (by decide) dL_appeal_1 ?_
  refine kz_aload_n (pc := 2) 0 (v := .ref p0) (i := 0) rfl rfl rfl dL_appeal_2 ?_
  refine kz_iload_n (pc := 3) 1 (i := 1) rfl rfl dL_appeal_3 ?_
  refine kz_iload_n (pc := 4) 2 (i := 2) rfl rfl dL_appeal_4 ?_
  obtain ⟨⟨fs6, he⟩, h⟩ := h
  obtain ⟨mc3, ms3, hc3, hs3, h⟩ := h
  refine kz_callV (pc := 5) (μ' := mX11_appeal) (ci := 10) (q := (RX11, TX11, 10)) (b := p0) (d' := d + 9) (mc' := mc3) (ms' := ms3) (As := [.int p1, .int p2]) (st := [.int 0, .ref p3]) (c := 0) (sl := 0) kmX11_appeal kw_1215 (by omega) rfl (Nat.le_of_ble_eq_true rfl) he rfl rfl hc3 hs3 dL_appeal_5 (fun E M9 hx => by
        rcases hx with ⟨rfl, hq⟩
        · refine kz_catchS (pre := []) (suf := []) (x := (0, 10, 13, 22)) (i := 4) rfl ⟨by decide, by decide⟩ (by decide) kw_636 kw_651 (fun z hz => absurd hz List.not_mem_nil) (by decide) rfl dL_appeal_13 ?_
          refine kz_iconst (pc := 15) (v := 1) (by decide) dL_appeal_15 ?_
          exact kz_iret (pc := 16) rfl hc3 hs3 dL_appeal_16 hq) (kz_Cmono (fun v M1 h => ?_) (fun _ _ h => h) h)
  obtain ⟨r2, rfl, h⟩ := h
  show kz_Z G (d + 10) mc ms mL_appeal Qr Qx 8 [(0, .ref p0), (1, .int p1), (2, .int p2), (3, .ref p3)] [.int r2, .int 0, .ref p3] M1 (0 + mc3) (0 + ms3)
  refine kz_i2l (pc := 8) dL_appeal_8 ?_
  obtain ⟨n4, f5, hM, hi, h⟩ := h
  refine kz_last (pc := 9) hM hi dL_appeal_9 ?_
  refine kz_goto (pc := 10) (tgt := 17) (by decide) dL_appeal_10 ?_
  refine kz_iconst (pc := 17) (v := 0) (by decide) dL_appeal_17 ?_
  exact kz_iret (pc := 18) rfl hc3 hs3 dL_appeal_18 h
theorem dL_payOut_12 : decode cL_payOut 12 = .ok (.astore_n 3, 1) := by decide +kernel
theorem dL_payOut_13 : decode cL_payOut 13 = .ok (.iconst 1, 1) := by decide +kernel
theorem dL_payOut_14 : decode cL_payOut 14 = .ok (.ireturn, 1) := by decide +kernel
theorem dL_payOut_0 : decode cL_payOut 0 = .ok (.aload_n 2, 1) := by decide +kernel
theorem dL_payOut_1 : decode cL_payOut 1 = .ok (.iconst 0, 1) := by decide +kernel
theorem dL_payOut_2 : decode cL_payOut 2 = .ok (.aload_n 0, 1) := by decide +kernel
theorem dL_payOut_3 : decode cL_payOut 3 = .ok (.iload_n 1, 1) := by decide +kernel
theorem dL_payOut_4 : decode cL_payOut 4 = .ok (.invokevirtual 105, 3) := by decide +kernel
theorem dL_payOut_7 : decode cL_payOut 7 = .ok (.i2l, 1) := by decide +kernel
theorem dL_payOut_8 : decode cL_payOut 8 = .ok (.lastore, 1) := by decide +kernel
theorem dL_payOut_9 : decode cL_payOut 9 = .ok (.goto 6, 3) := by decide +kernel
theorem dL_payOut_15 : decode cL_payOut 15 = .ok (.iconst 0, 1) := by decide +kernel
theorem dL_payOut_16 : decode cL_payOut 16 = .ok (.ireturn, 1) := by decide +kernel
theorem rL_payOut_0 {G : kz_G} {d : Nat} {mc ms : Nat} {Qr : Option Value → kz_M → Prop} {Qx : String → kz_M → Prop} {p0 : Nat} {p1 : Int32} {p2 : Nat}  {M : kz_M} (h : (∃ fs6, (M).1 p0 = some (.inl (10, fs6))) ∧ ∃ mc3 ms3, 0 + mc3 ≤ mc ∧ 0 + ms3 ≤ ms ∧ kz_C G (d + 8) mc3 ms3 mX11_payOut [.ref p0, .int p1] M (fun v M1 => ∃ r2 : Int32, v = some (.int r2) ∧ (∃ n4 f5, (M1).1 p2 = some (.inr (.long, n4, .inr (.inl f5))) ∧ vp_in (0 : Int32) n4 ∧ (Qr (some (.int 0)) (kz_up M1 p2 (.inr (.long, n4, .inr (.inl (vp_updL f5 (0 : Int32).toNatClampNeg ((r2 : Int32).toInt64))))))))) (fun E M9 => (E = "java/lang/IndexOutOfBoundsException" ∧ Qr (some (.int 1)) M9))) : kz_C G (d + 9) mc ms mL_payOut [.ref p0, .int p1, .ref p2] M Qr Qx := by
  refine kz_enter (n := 3) kmL_payOut.1 (Nat.le_of_ble_eq_true rfl) (ls := [(0, .ref p0), (1, .int p1), (2, .ref p2)]) rfl ?_
  refine kz_aload_n (pc := 0) 2 (v := .ref p2) (i := 2) rfl rfl rfl dL_payOut_0 ?_
  refine kz_iconst (pc := 1) (v := 0) (by decide) dL_payOut_1 ?_
  refine kz_aload_n (pc := 2) 0 (v := .ref p0) (i := 0) rfl rfl rfl dL_payOut_2 ?_
  refine kz_iload_n (pc := 3) 1 (i := 1) rfl rfl dL_payOut_3 ?_
  obtain ⟨⟨fs6, he⟩, h⟩ := h
  obtain ⟨mc3, ms3, hc3, hs3, h⟩ := h
  refine kz_callV (pc := 4) (μ' := mX11_payOut) (ci := 10) (q := (RX11, TX11, 10)) (b := p0) (d' := d + 8) (mc' := mc3) (ms' := ms3) (As := [.int p1]) (st := [.int 0, .ref p2]) (c := 0) (sl := 0) kmX11_payOut kw_1245 (by omega) rfl (Nat.le_of_ble_eq_true rfl) he rfl rfl hc3 hs3 dL_payOut_4 (fun E M9 hx => by
        rcases hx with ⟨rfl, hq⟩
        · refine kz_catchN (pre := []) (suf := []) (x := (0, 9, 12, 22)) (i := 3) rfl ⟨by decide, by decide⟩ (by decide) kw_636 kw_651 (fun z hz => absurd hz List.not_mem_nil) rfl (by decide) rfl dL_payOut_12 ?_
          refine kz_iconst (pc := 13) (v := 1) (by decide) dL_payOut_13 ?_
          exact kz_iret (pc := 14) rfl hc3 hs3 dL_payOut_14 hq) (kz_Cmono (fun v M1 h => ?_) (fun _ _ h => h) h)
  obtain ⟨r2, rfl, h⟩ := h
  show kz_Z G (d + 9) mc ms mL_payOut Qr Qx 7 [(0, .ref p0), (1, .int p1), (2, .ref p2)] [.int r2, .int 0, .ref p2] M1 (0 + mc3) (0 + ms3)
  refine kz_i2l (pc := 7) dL_payOut_7 ?_
  obtain ⟨n4, f5, hM, hi, h⟩ := h
  refine kz_last (pc := 8) hM hi dL_payOut_8 ?_
  refine kz_goto (pc := 9) (tgt := 15) (by decide) dL_payOut_9 ?_
  refine kz_iconst (pc := 15) (v := 0) (by decide) dL_payOut_15 ?_
  exact kz_iret (pc := 16) rfl hc3 hs3 dL_payOut_16 h
theorem dL_advance_13 : decode cL_advance 13 = .ok (.astore 4, 2) := by decide +kernel
theorem dL_advance_15 : decode cL_advance 15 = .ok (.iconst 1, 1) := by decide +kernel
theorem dL_advance_16 : decode cL_advance 16 = .ok (.ireturn, 1) := by decide +kernel
theorem dL_advance_17 : decode cL_advance 17 = .ok (.astore 4, 2) := by decide +kernel
theorem dL_advance_19 : decode cL_advance 19 = .ok (.iconst 2, 1) := by decide +kernel
theorem dL_advance_20 : decode cL_advance 20 = .ok (.ireturn, 1) := by decide +kernel
theorem dL_advance_21 : decode cL_advance 21 = .ok (.astore 4, 2) := by decide +kernel
theorem dL_advance_23 : decode cL_advance 23 = .ok (.iconst 3, 1) := by decide +kernel
theorem dL_advance_24 : decode cL_advance 24 = .ok (.ireturn, 1) := by decide +kernel
theorem dL_advance_0 : decode cL_advance 0 = .ok (.aload_n 3, 1) := by decide +kernel
theorem dL_advance_1 : decode cL_advance 1 = .ok (.iconst 0, 1) := by decide +kernel
theorem dL_advance_2 : decode cL_advance 2 = .ok (.aload_n 0, 1) := by decide +kernel
theorem dL_advance_3 : decode cL_advance 3 = .ok (.iload_n 1, 1) := by decide +kernel
theorem dL_advance_4 : decode cL_advance 4 = .ok (.iload_n 2, 1) := by decide +kernel
theorem dL_advance_5 : decode cL_advance 5 = .ok (.invokevirtual 108, 3) := by decide +kernel
theorem dL_advance_8 : decode cL_advance 8 = .ok (.i2l, 1) := by decide +kernel
theorem dL_advance_9 : decode cL_advance 9 = .ok (.lastore, 1) := by decide +kernel
theorem dL_advance_10 : decode cL_advance 10 = .ok (.goto 15, 3) := by decide +kernel
theorem dL_advance_25 : decode cL_advance 25 = .ok (.iconst 0, 1) := by decide +kernel
theorem dL_advance_26 : decode cL_advance 26 = .ok (.ireturn, 1) := by decide +kernel
theorem rL_advance_0 {G : kz_G} {d : Nat} {mc ms : Nat} {Qr : Option Value → kz_M → Prop} {Qx : String → kz_M → Prop} {p0 : Nat} {p1 : Int32} {p2 : Int32} {p3 : Nat}  {M : kz_M} (hN : kz_nc G) (h : (∃ fs6, (M).1 p0 = some (.inl (10, fs6))) ∧ ∃ mc3 ms3, 0 + mc3 ≤ mc ∧ 0 + ms3 ≤ ms ∧ kz_C G (d + 8) mc3 ms3 mX11_advance [.ref p0, .int p1, .int p2] M (fun v M1 => ∃ r2 : Int32, v = some (.int r2) ∧ (∃ n4 f5, (M1).1 p3 = some (.inr (.long, n4, .inr (.inl f5))) ∧ vp_in (0 : Int32) n4 ∧ (Qr (some (.int 0)) (kz_up M1 p3 (.inr (.long, n4, .inr (.inl (vp_updL f5 (0 : Int32).toNatClampNeg ((r2 : Int32).toInt64))))))))) (fun E M9 => (E = "java/lang/IndexOutOfBoundsException" ∧ Qr (some (.int 1)) M9) ∨ (E = "java/lang/IllegalArgumentException" ∧ Qr (some (.int 2)) M9) ∨ (E = "java/lang/IllegalStateException" ∧ Qr (some (.int 3)) M9))) : kz_C G (d + 9) mc ms mL_advance [.ref p0, .int p1, .int p2, .ref p3] M Qr Qx := by
  refine kz_enter (n := 4) kmL_advance.1 (Nat.le_of_ble_eq_true rfl) (ls := [(0, .ref p0), (1, .int p1), (2, .int p2), (3, .ref p3)]) rfl ?_
  refine kz_aload_n (pc := 0) 3 (v := .ref p3) (i := 3) rfl rfl rfl dL_advance_0 ?_
  refine kz_iconst (pc := 1) (v := 0) (by decide) dL_advance_1 ?_
  refine kz_aload_n (pc := 2) 0 (v := .ref p0) (i := 0) rfl rfl rfl dL_advance_2 ?_
  refine kz_iload_n (pc := 3) 1 (i := 1) rfl rfl dL_advance_3 ?_
  refine kz_iload_n (pc := 4) 2 (i := 2) rfl rfl dL_advance_4 ?_
  obtain ⟨⟨fs6, he⟩, h⟩ := h
  obtain ⟨mc3, ms3, hc3, hs3, h⟩ := h
  refine kz_callV (pc := 5) (μ' := mX11_advance) (ci := 10) (q := (RX11, TX11, 10)) (b := p0) (d' := d + 8) (mc' := mc3) (ms' := ms3) (As := [.int p1, .int p2]) (st := [.int 0, .ref p3]) (c := 0) (sl := 0) kmX11_advance kw_1261 (by omega) rfl (Nat.le_of_ble_eq_true rfl) he rfl rfl hc3 hs3 dL_advance_5 (fun E M9 hx => by
        rcases hx with ⟨rfl, hq⟩ | ⟨rfl, hq⟩ | ⟨rfl, hq⟩
        · refine kz_catchS (pre := []) (suf := [(0, 10, 17, 13), (0, 10, 21, 111)]) (x := (0, 10, 13, 22)) (i := 4) rfl ⟨by decide, by decide⟩ (by decide) kw_636 kw_651 (fun z hz => absurd hz List.not_mem_nil) (by decide) rfl dL_advance_13 ?_
          refine kz_iconst (pc := 15) (v := 1) (by decide) dL_advance_15 ?_
          exact kz_iret (pc := 16) rfl hc3 hs3 dL_advance_16 hq
        · refine kz_catchS (pre := [(0, 10, 13, 22)]) (suf := [(0, 10, 21, 111)]) (x := (0, 10, 17, 13)) (i := 4) rfl ⟨by decide, by decide⟩ (by decide) kw_516 kw_551 (fun z hz => by rw [List.mem_singleton.mp hz]; exact ⟨by decide, _, kw_636, hN.1⟩) (by decide) rfl dL_advance_17 ?_
          refine kz_iconst (pc := 19) (v := 2) (by decide) dL_advance_19 ?_
          exact kz_iret (pc := 20) rfl hc3 hs3 dL_advance_20 hq
        · refine kz_catchS (pre := [(0, 10, 13, 22), (0, 10, 17, 13)]) (suf := []) (x := (0, 10, 21, 111)) (i := 4) rfl ⟨by decide, by decide⟩ (by decide) kw_1260 kw_1268 (fun z hz => by
            rcases List.mem_cons.mp hz with rfl | hz
            · exact ⟨by decide, _, kw_636, hN.2.1⟩
            · rw [List.mem_singleton.mp hz]; exact ⟨by decide, _, kw_516, hN.2.2⟩) (by decide) rfl dL_advance_21 ?_
          refine kz_iconst (pc := 23) (v := 3) (by decide) dL_advance_23 ?_
          exact kz_iret (pc := 24) rfl hc3 hs3 dL_advance_24 hq) (kz_Cmono (fun v M1 h => ?_) (fun _ _ h => h) h)
  obtain ⟨r2, rfl, h⟩ := h
  show kz_Z G (d + 9) mc ms mL_advance Qr Qx 8 [(0, .ref p0), (1, .int p1), (2, .int p2), (3, .ref p3)] [.int r2, .int 0, .ref p3] M1 (0 + mc3) (0 + ms3)
  refine kz_i2l (pc := 8) dL_advance_8 ?_
  obtain ⟨n4, f5, hM, hi, h⟩ := h
  refine kz_last (pc := 9) hM hi dL_advance_9 ?_
  refine kz_goto (pc := 10) (tgt := 25) (by decide) dL_advance_10 ?_
  refine kz_iconst (pc := 25) (v := 0) (by decide) dL_advance_25 ?_
  exact kz_iret (pc := 26) rfl hc3 hs3 dL_advance_26 h
theorem dL_endow_12 : decode cL_endow 12 = .ok (.astore_n 3, 1) := by decide +kernel
theorem dL_endow_13 : decode cL_endow 13 = .ok (.iconst 1, 1) := by decide +kernel
theorem dL_endow_14 : decode cL_endow 14 = .ok (.ireturn, 1) := by decide +kernel
theorem dL_endow_0 : decode cL_endow 0 = .ok (.aload_n 2, 1) := by decide +kernel
theorem dL_endow_1 : decode cL_endow 1 = .ok (.iconst 0, 1) := by decide +kernel
theorem dL_endow_2 : decode cL_endow 2 = .ok (.aload_n 0, 1) := by decide +kernel
theorem dL_endow_3 : decode cL_endow 3 = .ok (.iload_n 1, 1) := by decide +kernel
theorem dL_endow_4 : decode cL_endow 4 = .ok (.invokevirtual 113, 3) := by decide +kernel
theorem dL_endow_7 : decode cL_endow 7 = .ok (.i2l, 1) := by decide +kernel
theorem dL_endow_8 : decode cL_endow 8 = .ok (.lastore, 1) := by decide +kernel
theorem dL_endow_9 : decode cL_endow 9 = .ok (.goto 6, 3) := by decide +kernel
theorem dL_endow_15 : decode cL_endow 15 = .ok (.iconst 0, 1) := by decide +kernel
theorem dL_endow_16 : decode cL_endow 16 = .ok (.ireturn, 1) := by decide +kernel
theorem rL_endow_0 {G : kz_G} {d : Nat} {mc ms : Nat} {Qr : Option Value → kz_M → Prop} {Qx : String → kz_M → Prop} {p0 : Nat} {p1 : Int32} {p2 : Nat}  {M : kz_M} (h : (∃ fs6, (M).1 p0 = some (.inl (10, fs6))) ∧ ∃ mc3 ms3, 0 + mc3 ≤ mc ∧ 0 + ms3 ≤ ms ∧ kz_C G (d + 7) mc3 ms3 mX11_endow [.ref p0, .int p1] M (fun v M1 => ∃ r2 : Int32, v = some (.int r2) ∧ (∃ n4 f5, (M1).1 p2 = some (.inr (.long, n4, .inr (.inl f5))) ∧ vp_in (0 : Int32) n4 ∧ (Qr (some (.int 0)) (kz_up M1 p2 (.inr (.long, n4, .inr (.inl (vp_updL f5 (0 : Int32).toNatClampNeg ((r2 : Int32).toInt64))))))))) (fun E M9 => (E = "java/lang/IllegalArgumentException" ∧ Qr (some (.int 1)) M9))) : kz_C G (d + 8) mc ms mL_endow [.ref p0, .int p1, .ref p2] M Qr Qx := by
  refine kz_enter (n := 3) kmL_endow.1 (Nat.le_of_ble_eq_true rfl) (ls := [(0, .ref p0), (1, .int p1), (2, .ref p2)]) rfl ?_
  refine kz_aload_n (pc := 0) 2 (v := .ref p2) (i := 2) rfl rfl rfl dL_endow_0 ?_
  refine kz_iconst (pc := 1) (v := 0) (by decide) dL_endow_1 ?_
  refine kz_aload_n (pc := 2) 0 (v := .ref p0) (i := 0) rfl rfl rfl dL_endow_2 ?_
  refine kz_iload_n (pc := 3) 1 (i := 1) rfl rfl dL_endow_3 ?_
  obtain ⟨⟨fs6, he⟩, h⟩ := h
  obtain ⟨mc3, ms3, hc3, hs3, h⟩ := h
  refine kz_callV (pc := 4) (μ' := mX11_endow) (ci := 10) (q := (RX11, TX11, 10)) (b := p0) (d' := d + 7) (mc' := mc3) (ms' := ms3) (As := [.int p1]) (st := [.int 0, .ref p2]) (c := 0) (sl := 0) kmX11_endow kw_1285 (by omega) rfl (Nat.le_of_ble_eq_true rfl) he rfl rfl hc3 hs3 dL_endow_4 (fun E M9 hx => by
        rcases hx with ⟨rfl, hq⟩
        · refine kz_catchN (pre := []) (suf := []) (x := (0, 9, 12, 13)) (i := 3) rfl ⟨by decide, by decide⟩ (by decide) kw_516 kw_551 (fun z hz => absurd hz List.not_mem_nil) rfl (by decide) rfl dL_endow_12 ?_
          refine kz_iconst (pc := 13) (v := 1) (by decide) dL_endow_13 ?_
          exact kz_iret (pc := 14) rfl hc3 hs3 dL_endow_14 hq) (kz_Cmono (fun v M1 h => ?_) (fun _ _ h => h) h)
  obtain ⟨r2, rfl, h⟩ := h
  show kz_Z G (d + 8) mc ms mL_endow Qr Qx 7 [(0, .ref p0), (1, .int p1), (2, .ref p2)] [.int r2, .int 0, .ref p2] M1 (0 + mc3) (0 + ms3)
  refine kz_i2l (pc := 7) dL_endow_7 ?_
  obtain ⟨n4, f5, hM, hi, h⟩ := h
  refine kz_last (pc := 8) hM hi dL_endow_8 ?_
  refine kz_goto (pc := 9) (tgt := 15) (by decide) dL_endow_9 ?_
  refine kz_iconst (pc := 15) (v := 0) (by decide) dL_endow_15 ?_
  exact kz_iret (pc := 16) rfl hc3 hs3 dL_endow_16 h
theorem dL_pass_12 : decode cL_pass 12 = .ok (.astore_n 3, 1) := by decide +kernel
theorem dL_pass_13 : decode cL_pass 13 = .ok (.iconst 1, 1) := by decide +kernel
theorem dL_pass_14 : decode cL_pass 14 = .ok (.ireturn, 1) := by decide +kernel
theorem dL_pass_15 : decode cL_pass 15 = .ok (.astore_n 3, 1) := by decide +kernel
theorem dL_pass_16 : decode cL_pass 16 = .ok (.iconst 2, 1) := by decide +kernel
theorem dL_pass_17 : decode cL_pass 17 = .ok (.ireturn, 1) := by decide +kernel
theorem dL_pass_0 : decode cL_pass 0 = .ok (.aload_n 2, 1) := by decide +kernel
theorem dL_pass_1 : decode cL_pass 1 = .ok (.iconst 0, 1) := by decide +kernel
theorem dL_pass_2 : decode cL_pass 2 = .ok (.aload_n 0, 1) := by decide +kernel
theorem dL_pass_3 : decode cL_pass 3 = .ok (.iload_n 1, 1) := by decide +kernel
theorem dL_pass_4 : decode cL_pass 4 = .ok (.invokevirtual 116, 3) := by decide +kernel
theorem dL_pass_7 : decode cL_pass 7 = .ok (.i2l, 1) := by decide +kernel
theorem dL_pass_8 : decode cL_pass 8 = .ok (.lastore, 1) := by decide +kernel
theorem dL_pass_9 : decode cL_pass 9 = .ok (.goto 9, 3) := by decide +kernel
theorem dL_pass_18 : decode cL_pass 18 = .ok (.iconst 0, 1) := by decide +kernel
theorem dL_pass_19 : decode cL_pass 19 = .ok (.ireturn, 1) := by decide +kernel
theorem rL_pass_0 {G : kz_G} {d : Nat} {mc ms : Nat} {Qr : Option Value → kz_M → Prop} {Qx : String → kz_M → Prop} {p0 : Nat} {p1 : Int32} {p2 : Nat}  {M : kz_M} (hN : kz_nc G) (h : (∃ fs6, (M).1 p0 = some (.inl (10, fs6))) ∧ ∃ mc3 ms3, 0 + mc3 ≤ mc ∧ 0 + ms3 ≤ ms ∧ kz_C G (d + 7) mc3 ms3 mX11_pass [.ref p0, .int p1] M (fun v M1 => ∃ r2 : Int32, v = some (.int r2) ∧ (∃ n4 f5, (M1).1 p2 = some (.inr (.long, n4, .inr (.inl f5))) ∧ vp_in (0 : Int32) n4 ∧ (Qr (some (.int 0)) (kz_up M1 p2 (.inr (.long, n4, .inr (.inl (vp_updL f5 (0 : Int32).toNatClampNeg ((r2 : Int32).toInt64))))))))) (fun E M9 => (E = "java/lang/IllegalArgumentException" ∧ Qr (some (.int 1)) M9) ∨ (E = "java/lang/IllegalStateException" ∧ Qr (some (.int 2)) M9))) : kz_C G (d + 8) mc ms mL_pass [.ref p0, .int p1, .ref p2] M Qr Qx := by
  refine kz_enter (n := 3) kmL_pass.1 (Nat.le_of_ble_eq_true rfl) (ls := [(0, .ref p0), (1, .int p1), (2, .ref p2)]) rfl ?_
  refine kz_aload_n (pc := 0) 2 (v := .ref p2) (i := 2) rfl rfl rfl dL_pass_0 ?_
  refine kz_iconst (pc := 1) (v := 0) (by decide) dL_pass_1 ?_
  refine kz_aload_n (pc := 2) 0 (v := .ref p0) (i := 0) rfl rfl rfl dL_pass_2 ?_
  refine kz_iload_n (pc := 3) 1 (i := 1) rfl rfl dL_pass_3 ?_
  obtain ⟨⟨fs6, he⟩, h⟩ := h
  obtain ⟨mc3, ms3, hc3, hs3, h⟩ := h
  refine kz_callV (pc := 4) (μ' := mX11_pass) (ci := 10) (q := (RX11, TX11, 10)) (b := p0) (d' := d + 7) (mc' := mc3) (ms' := ms3) (As := [.int p1]) (st := [.int 0, .ref p2]) (c := 0) (sl := 0) kmX11_pass kw_1294 (by omega) rfl (Nat.le_of_ble_eq_true rfl) he rfl rfl hc3 hs3 dL_pass_4 (fun E M9 hx => by
        rcases hx with ⟨rfl, hq⟩ | ⟨rfl, hq⟩
        · refine kz_catchN (pre := []) (suf := [(0, 9, 15, 111)]) (x := (0, 9, 12, 13)) (i := 3) rfl ⟨by decide, by decide⟩ (by decide) kw_516 kw_551 (fun z hz => absurd hz List.not_mem_nil) rfl (by decide) rfl dL_pass_12 ?_
          refine kz_iconst (pc := 13) (v := 1) (by decide) dL_pass_13 ?_
          exact kz_iret (pc := 14) rfl hc3 hs3 dL_pass_14 hq
        · refine kz_catchN (pre := [(0, 9, 12, 13)]) (suf := []) (x := (0, 9, 15, 111)) (i := 3) rfl ⟨by decide, by decide⟩ (by decide) kw_1260 kw_1268 (fun z hz => by rw [List.mem_singleton.mp hz]; exact ⟨by decide, _, kw_516, hN.2.2⟩) rfl (by decide) rfl dL_pass_15 ?_
          refine kz_iconst (pc := 16) (v := 2) (by decide) dL_pass_16 ?_
          exact kz_iret (pc := 17) rfl hc3 hs3 dL_pass_17 hq) (kz_Cmono (fun v M1 h => ?_) (fun _ _ h => h) h)
  obtain ⟨r2, rfl, h⟩ := h
  show kz_Z G (d + 8) mc ms mL_pass Qr Qx 7 [(0, .ref p0), (1, .int p1), (2, .ref p2)] [.int r2, .int 0, .ref p2] M1 (0 + mc3) (0 + ms3)
  refine kz_i2l (pc := 7) dL_pass_7 ?_
  obtain ⟨n4, f5, hM, hi, h⟩ := h
  refine kz_last (pc := 8) hM hi dL_pass_8 ?_
  refine kz_goto (pc := 9) (tgt := 18) (by decide) dL_pass_9 ?_
  refine kz_iconst (pc := 18) (v := 0) (by decide) dL_pass_18 ?_
  exact kz_iret (pc := 19) rfl hc3 hs3 dL_pass_19 h
theorem dL_set_13 : decode cL_set 13 = .ok (.astore 4, 2) := by decide +kernel
theorem dL_set_15 : decode cL_set 15 = .ok (.iconst 1, 1) := by decide +kernel
theorem dL_set_16 : decode cL_set 16 = .ok (.ireturn, 1) := by decide +kernel
theorem dL_set_0 : decode cL_set 0 = .ok (.aload_n 3, 1) := by decide +kernel
theorem dL_set_1 : decode cL_set 1 = .ok (.iconst 0, 1) := by decide +kernel
theorem dL_set_2 : decode cL_set 2 = .ok (.aload_n 0, 1) := by decide +kernel
theorem dL_set_3 : decode cL_set 3 = .ok (.iload_n 1, 1) := by decide +kernel
theorem dL_set_4 : decode cL_set 4 = .ok (.iload_n 2, 1) := by decide +kernel
theorem dL_set_5 : decode cL_set 5 = .ok (.invokevirtual 119, 3) := by decide +kernel
theorem dL_set_8 : decode cL_set 8 = .ok (.i2l, 1) := by decide +kernel
theorem dL_set_9 : decode cL_set 9 = .ok (.lastore, 1) := by decide +kernel
theorem dL_set_10 : decode cL_set 10 = .ok (.goto 7, 3) := by decide +kernel
theorem dL_set_17 : decode cL_set 17 = .ok (.iconst 0, 1) := by decide +kernel
theorem dL_set_18 : decode cL_set 18 = .ok (.ireturn, 1) := by decide +kernel
theorem rL_set_0 {G : kz_G} {d : Nat} {mc ms : Nat} {Qr : Option Value → kz_M → Prop} {Qx : String → kz_M → Prop} {p0 : Nat} {p1 : Int32} {p2 : Int32} {p3 : Nat}  {M : kz_M} (h : (∃ fs6, (M).1 p0 = some (.inl (10, fs6))) ∧ ∃ mc3 ms3, 0 + mc3 ≤ mc ∧ 0 + ms3 ≤ ms ∧ kz_C G (d + 8) mc3 ms3 mX11_set [.ref p0, .int p1, .int p2] M (fun v M1 => ∃ r2 : Int32, v = some (.int r2) ∧ (∃ n4 f5, (M1).1 p3 = some (.inr (.long, n4, .inr (.inl f5))) ∧ vp_in (0 : Int32) n4 ∧ (Qr (some (.int 0)) (kz_up M1 p3 (.inr (.long, n4, .inr (.inl (vp_updL f5 (0 : Int32).toNatClampNeg ((r2 : Int32).toInt64))))))))) (fun E M9 => (E = "java/lang/IllegalArgumentException" ∧ Qr (some (.int 1)) M9))) : kz_C G (d + 9) mc ms mL_set [.ref p0, .int p1, .int p2, .ref p3] M Qr Qx := by
  refine kz_enter (n := 4) kmL_set.1 (Nat.le_of_ble_eq_true rfl) (ls := [(0, .ref p0), (1, .int p1), (2, .int p2), (3, .ref p3)]) rfl ?_
  refine kz_aload_n (pc := 0) 3 (v := .ref p3) (i := 3) rfl rfl rfl dL_set_0 ?_
  refine kz_iconst (pc := 1) (v := 0) (by decide) dL_set_1 ?_
  refine kz_aload_n (pc := 2) 0 (v := .ref p0) (i := 0) rfl rfl rfl dL_set_2 ?_
  refine kz_iload_n (pc := 3) 1 (i := 1) rfl rfl dL_set_3 ?_
  refine kz_iload_n (pc := 4) 2 (i := 2) rfl rfl dL_set_4 ?_
  obtain ⟨⟨fs6, he⟩, h⟩ := h
  obtain ⟨mc3, ms3, hc3, hs3, h⟩ := h
  refine kz_callV (pc := 5) (μ' := mX11_set) (ci := 10) (q := (RX11, TX11, 10)) (b := p0) (d' := d + 8) (mc' := mc3) (ms' := ms3) (As := [.int p1, .int p2]) (st := [.int 0, .ref p3]) (c := 0) (sl := 0) kmX11_set kw_1303 (by omega) rfl (Nat.le_of_ble_eq_true rfl) he rfl rfl hc3 hs3 dL_set_5 (fun E M9 hx => by
        rcases hx with ⟨rfl, hq⟩
        · refine kz_catchS (pre := []) (suf := []) (x := (0, 10, 13, 13)) (i := 4) rfl ⟨by decide, by decide⟩ (by decide) kw_516 kw_551 (fun z hz => absurd hz List.not_mem_nil) (by decide) rfl dL_set_13 ?_
          refine kz_iconst (pc := 15) (v := 1) (by decide) dL_set_15 ?_
          exact kz_iret (pc := 16) rfl hc3 hs3 dL_set_16 hq) (kz_Cmono (fun v M1 h => ?_) (fun _ _ h => h) h)
  obtain ⟨r2, rfl, h⟩ := h
  show kz_Z G (d + 9) mc ms mL_set Qr Qx 8 [(0, .ref p0), (1, .int p1), (2, .int p2), (3, .ref p3)] [.int r2, .int 0, .ref p3] M1 (0 + mc3) (0 + ms3)
  refine kz_i2l (pc := 8) dL_set_8 ?_
  obtain ⟨n4, f5, hM, hi, h⟩ := h
  refine kz_last (pc := 9) hM hi dL_set_9 ?_
  refine kz_goto (pc := 10) (tgt := 17) (by decide) dL_set_10 ?_
  refine kz_iconst (pc := 17) (v := 0) (by decide) dL_set_17 ?_
  exact kz_iret (pc := 18) rfl hc3 hs3 dL_set_18 h
theorem dL_undo_11 : decode cL_undo 11 = .ok (.astore_n 2, 1) := by decide +kernel
theorem dL_undo_12 : decode cL_undo 12 = .ok (.iconst 1, 1) := by decide +kernel
theorem dL_undo_13 : decode cL_undo 13 = .ok (.ireturn, 1) := by decide +kernel
theorem dL_undo_0 : decode cL_undo 0 = .ok (.aload_n 1, 1) := by decide +kernel
theorem dL_undo_1 : decode cL_undo 1 = .ok (.iconst 0, 1) := by decide +kernel
theorem dL_undo_2 : decode cL_undo 2 = .ok (.aload_n 0, 1) := by decide +kernel
theorem dL_undo_3 : decode cL_undo 3 = .ok (.invokevirtual 122, 3) := by decide +kernel
theorem dL_undo_6 : decode cL_undo 6 = .ok (.i2l, 1) := by decide +kernel
theorem dL_undo_7 : decode cL_undo 7 = .ok (.lastore, 1) := by decide +kernel
theorem dL_undo_8 : decode cL_undo 8 = .ok (.goto 6, 3) := by decide +kernel
theorem dL_undo_14 : decode cL_undo 14 = .ok (.iconst 0, 1) := by decide +kernel
theorem dL_undo_15 : decode cL_undo 15 = .ok (.ireturn, 1) := by decide +kernel
theorem rL_undo_0 {G : kz_G} {d : Nat} {mc ms : Nat} {Qr : Option Value → kz_M → Prop} {Qx : String → kz_M → Prop} {p0 : Nat} {p1 : Nat}  {M : kz_M} (h : (∃ fs6, (M).1 p0 = some (.inl (10, fs6))) ∧ ∃ mc3 ms3, 0 + mc3 ≤ mc ∧ 0 + ms3 ≤ ms ∧ kz_C G (d + 7) mc3 ms3 mX11_undo [.ref p0] M (fun v M1 => ∃ r2 : Int32, v = some (.int r2) ∧ (∃ n4 f5, (M1).1 p1 = some (.inr (.long, n4, .inr (.inl f5))) ∧ vp_in (0 : Int32) n4 ∧ (Qr (some (.int 0)) (kz_up M1 p1 (.inr (.long, n4, .inr (.inl (vp_updL f5 (0 : Int32).toNatClampNeg ((r2 : Int32).toInt64))))))))) (fun E M9 => (E = "java/util/NoSuchElementException" ∧ Qr (some (.int 1)) M9))) : kz_C G (d + 8) mc ms mL_undo [.ref p0, .ref p1] M Qr Qx := by
  refine kz_enter (n := 2) kmL_undo.1 (Nat.le_of_ble_eq_true rfl) (ls := [(0, .ref p0), (1, .ref p1)]) rfl ?_
  refine kz_aload_n (pc := 0) 1 (v := .ref p1) (i := 1) rfl rfl rfl dL_undo_0 ?_
  refine kz_iconst (pc := 1) (v := 0) (by decide) dL_undo_1 ?_
  refine kz_aload_n (pc := 2) 0 (v := .ref p0) (i := 0) rfl rfl rfl dL_undo_2 ?_
  obtain ⟨⟨fs6, he⟩, h⟩ := h
  obtain ⟨mc3, ms3, hc3, hs3, h⟩ := h
  refine kz_callV (pc := 3) (μ' := mX11_undo) (ci := 10) (q := (RX11, TX11, 10)) (b := p0) (d' := d + 7) (mc' := mc3) (ms' := ms3) (As := []) (st := [.int 0, .ref p1]) (c := 0) (sl := 0) kmX11_undo kw_1311 (by omega) rfl (Nat.le_of_ble_eq_true rfl) he rfl rfl hc3 hs3 dL_undo_3 (fun E M9 hx => by
        rcases hx with ⟨rfl, hq⟩
        · refine kz_catchN (pre := []) (suf := []) (x := (0, 8, 11, 126)) (i := 2) rfl ⟨by decide, by decide⟩ (by decide) kw_1310 kw_1321 (fun z hz => absurd hz List.not_mem_nil) rfl (by decide) rfl dL_undo_11 ?_
          refine kz_iconst (pc := 12) (v := 1) (by decide) dL_undo_12 ?_
          exact kz_iret (pc := 13) rfl hc3 hs3 dL_undo_13 hq) (kz_Cmono (fun v M1 h => ?_) (fun _ _ h => h) h)
  obtain ⟨r2, rfl, h⟩ := h
  show kz_Z G (d + 8) mc ms mL_undo Qr Qx 6 [(0, .ref p0), (1, .ref p1)] [.int r2, .int 0, .ref p1] M1 (0 + mc3) (0 + ms3)
  refine kz_i2l (pc := 6) dL_undo_6 ?_
  obtain ⟨n4, f5, hM, hi, h⟩ := h
  refine kz_last (pc := 7) hM hi dL_undo_7 ?_
  refine kz_goto (pc := 8) (tgt := 14) (by decide) dL_undo_8 ?_
  refine kz_iconst (pc := 14) (v := 0) (by decide) dL_undo_14 ?_
  exact kz_iret (pc := 15) rfl hc3 hs3 dL_undo_15 h
theorem dL_printLine_13 : decode cL_printLine 13 = .ok (.astore 4, 2) := by decide +kernel
theorem dL_printLine_15 : decode cL_printLine 15 = .ok (.iconst 1, 1) := by decide +kernel
theorem dL_printLine_16 : decode cL_printLine 16 = .ok (.ireturn, 1) := by decide +kernel
theorem dL_printLine_0 : decode cL_printLine 0 = .ok (.aload_n 3, 1) := by decide +kernel
theorem dL_printLine_1 : decode cL_printLine 1 = .ok (.iconst 0, 1) := by decide +kernel
theorem dL_printLine_2 : decode cL_printLine 2 = .ok (.aload_n 0, 1) := by decide +kernel
theorem dL_printLine_3 : decode cL_printLine 3 = .ok (.iload_n 1, 1) := by decide +kernel
theorem dL_printLine_4 : decode cL_printLine 4 = .ok (.iload_n 2, 1) := by decide +kernel
theorem dL_printLine_5 : decode cL_printLine 5 = .ok (.invokevirtual 128, 3) := by decide +kernel
theorem dL_printLine_8 : decode cL_printLine 8 = .ok (.i2l, 1) := by decide +kernel
theorem dL_printLine_9 : decode cL_printLine 9 = .ok (.lastore, 1) := by decide +kernel
theorem dL_printLine_10 : decode cL_printLine 10 = .ok (.goto 7, 3) := by decide +kernel
theorem dL_printLine_17 : decode cL_printLine 17 = .ok (.iconst 0, 1) := by decide +kernel
theorem dL_printLine_18 : decode cL_printLine 18 = .ok (.ireturn, 1) := by decide +kernel
theorem rL_printLine_0 {G : kz_G} {d : Nat} {mc ms : Nat} {Qr : Option Value → kz_M → Prop} {Qx : String → kz_M → Prop} {p0 : Nat} {p1 : Int32} {p2 : Int32} {p3 : Nat}  {M : kz_M} (h : (∃ fs6, (M).1 p0 = some (.inl (10, fs6))) ∧ ∃ mc3 ms3, 0 + mc3 ≤ mc ∧ 0 + ms3 ≤ ms ∧ kz_C G (d + 9) mc3 ms3 mX11_printLine [.ref p0, .int p1, .int p2] M (fun v M1 => ∃ r2 : Int32, v = some (.int r2) ∧ (∃ n4 f5, (M1).1 p3 = some (.inr (.long, n4, .inr (.inl f5))) ∧ vp_in (0 : Int32) n4 ∧ (Qr (some (.int 0)) (kz_up M1 p3 (.inr (.long, n4, .inr (.inl (vp_updL f5 (0 : Int32).toNatClampNeg ((r2 : Int32).toInt64))))))))) (fun E M9 => (E = "java/lang/IndexOutOfBoundsException" ∧ Qr (some (.int 1)) M9))) : kz_C G (d + 10) mc ms mL_printLine [.ref p0, .int p1, .int p2, .ref p3] M Qr Qx := by
  refine kz_enter (n := 4) kmL_printLine.1 (Nat.le_of_ble_eq_true rfl) (ls := [(0, .ref p0), (1, .int p1), (2, .int p2), (3, .ref p3)]) rfl ?_
  refine kz_aload_n (pc := 0) 3 (v := .ref p3) (i := 3) rfl rfl rfl dL_printLine_0 ?_
  refine kz_iconst (pc := 1) (v := 0) (by decide) dL_printLine_1 ?_
  refine kz_aload_n (pc := 2) 0 (v := .ref p0) (i := 0) rfl rfl rfl dL_printLine_2 ?_
  refine kz_iload_n (pc := 3) 1 (i := 1) rfl rfl dL_printLine_3 ?_
  refine kz_iload_n (pc := 4) 2 (i := 2) rfl rfl dL_printLine_4 ?_
  obtain ⟨⟨fs6, he⟩, h⟩ := h
  obtain ⟨mc3, ms3, hc3, hs3, h⟩ := h
  refine kz_callV (pc := 5) (μ' := mX11_printLine) (ci := 10) (q := (RX11, TX11, 10)) (b := p0) (d' := d + 9) (mc' := mc3) (ms' := ms3) (As := [.int p1, .int p2]) (st := [.int 0, .ref p3]) (c := 0) (sl := 0) kmX11_printLine kw_1338 (by omega) rfl (Nat.le_of_ble_eq_true rfl) he rfl rfl hc3 hs3 dL_printLine_5 (fun E M9 hx => by
        rcases hx with ⟨rfl, hq⟩
        · refine kz_catchS (pre := []) (suf := []) (x := (0, 10, 13, 22)) (i := 4) rfl ⟨by decide, by decide⟩ (by decide) kw_636 kw_651 (fun z hz => absurd hz List.not_mem_nil) (by decide) rfl dL_printLine_13 ?_
          refine kz_iconst (pc := 15) (v := 1) (by decide) dL_printLine_15 ?_
          exact kz_iret (pc := 16) rfl hc3 hs3 dL_printLine_16 hq) (kz_Cmono (fun v M1 h => ?_) (fun _ _ h => h) h)
  obtain ⟨r2, rfl, h⟩ := h
  show kz_Z G (d + 10) mc ms mL_printLine Qr Qx 8 [(0, .ref p0), (1, .int p1), (2, .int p2), (3, .ref p3)] [.int r2, .int 0, .ref p3] M1 (0 + mc3) (0 + ms3)
  refine kz_i2l (pc := 8) dL_printLine_8 ?_
  obtain ⟨n4, f5, hM, hi, h⟩ := h
  refine kz_last (pc := 9) hM hi dL_printLine_9 ?_
  refine kz_goto (pc := 10) (tgt := 17) (by decide) dL_printLine_10 ?_
  refine kz_iconst (pc := 17) (v := 0) (by decide) dL_printLine_17 ?_
  exact kz_iret (pc := 18) rfl hc3 hs3 dL_printLine_18 h
theorem dL_printWork_12 : decode cL_printWork 12 = .ok (.astore_n 3, 1) := by decide +kernel
theorem dL_printWork_13 : decode cL_printWork 13 = .ok (.iconst 1, 1) := by decide +kernel
theorem dL_printWork_14 : decode cL_printWork 14 = .ok (.ireturn, 1) := by decide +kernel
theorem dL_printWork_0 : decode cL_printWork 0 = .ok (.aload_n 2, 1) := by decide +kernel
theorem dL_printWork_1 : decode cL_printWork 1 = .ok (.iconst 0, 1) := by decide +kernel
theorem dL_printWork_2 : decode cL_printWork 2 = .ok (.aload_n 0, 1) := by decide +kernel
theorem dL_printWork_3 : decode cL_printWork 3 = .ok (.iload_n 1, 1) := by decide +kernel
theorem dL_printWork_4 : decode cL_printWork 4 = .ok (.invokevirtual 131, 3) := by decide +kernel
theorem dL_printWork_7 : decode cL_printWork 7 = .ok (.i2l, 1) := by decide +kernel
theorem dL_printWork_8 : decode cL_printWork 8 = .ok (.lastore, 1) := by decide +kernel
theorem dL_printWork_9 : decode cL_printWork 9 = .ok (.goto 6, 3) := by decide +kernel
theorem dL_printWork_15 : decode cL_printWork 15 = .ok (.iconst 0, 1) := by decide +kernel
theorem dL_printWork_16 : decode cL_printWork 16 = .ok (.ireturn, 1) := by decide +kernel
theorem rL_printWork_0 {G : kz_G} {d : Nat} {mc ms : Nat} {Qr : Option Value → kz_M → Prop} {Qx : String → kz_M → Prop} {p0 : Nat} {p1 : Int32} {p2 : Nat}  {M : kz_M} (h : (∃ fs6, (M).1 p0 = some (.inl (10, fs6))) ∧ ∃ mc3 ms3, 0 + mc3 ≤ mc ∧ 0 + ms3 ≤ ms ∧ kz_C G (d + 8) mc3 ms3 mX11_printWork [.ref p0, .int p1] M (fun v M1 => ∃ r2 : Int32, v = some (.int r2) ∧ (∃ n4 f5, (M1).1 p2 = some (.inr (.long, n4, .inr (.inl f5))) ∧ vp_in (0 : Int32) n4 ∧ (Qr (some (.int 0)) (kz_up M1 p2 (.inr (.long, n4, .inr (.inl (vp_updL f5 (0 : Int32).toNatClampNeg ((r2 : Int32).toInt64))))))))) (fun E M9 => (E = "java/lang/IndexOutOfBoundsException" ∧ Qr (some (.int 1)) M9))) : kz_C G (d + 9) mc ms mL_printWork [.ref p0, .int p1, .ref p2] M Qr Qx := by
  refine kz_enter (n := 3) kmL_printWork.1 (Nat.le_of_ble_eq_true rfl) (ls := [(0, .ref p0), (1, .int p1), (2, .ref p2)]) rfl ?_
  refine kz_aload_n (pc := 0) 2 (v := .ref p2) (i := 2) rfl rfl rfl dL_printWork_0 ?_
  refine kz_iconst (pc := 1) (v := 0) (by decide) dL_printWork_1 ?_
  refine kz_aload_n (pc := 2) 0 (v := .ref p0) (i := 0) rfl rfl rfl dL_printWork_2 ?_
  refine kz_iload_n (pc := 3) 1 (i := 1) rfl rfl dL_printWork_3 ?_
  obtain ⟨⟨fs6, he⟩, h⟩ := h
  obtain ⟨mc3, ms3, hc3, hs3, h⟩ := h
  refine kz_callV (pc := 4) (μ' := mX11_printWork) (ci := 10) (q := (RX11, TX11, 10)) (b := p0) (d' := d + 8) (mc' := mc3) (ms' := ms3) (As := [.int p1]) (st := [.int 0, .ref p2]) (c := 0) (sl := 0) kmX11_printWork kw_1345 (by omega) rfl (Nat.le_of_ble_eq_true rfl) he rfl rfl hc3 hs3 dL_printWork_4 (fun E M9 hx => by
        rcases hx with ⟨rfl, hq⟩
        · refine kz_catchN (pre := []) (suf := []) (x := (0, 9, 12, 22)) (i := 3) rfl ⟨by decide, by decide⟩ (by decide) kw_636 kw_651 (fun z hz => absurd hz List.not_mem_nil) rfl (by decide) rfl dL_printWork_12 ?_
          refine kz_iconst (pc := 13) (v := 1) (by decide) dL_printWork_13 ?_
          exact kz_iret (pc := 14) rfl hc3 hs3 dL_printWork_14 hq) (kz_Cmono (fun v M1 h => ?_) (fun _ _ h => h) h)
  obtain ⟨r2, rfl, h⟩ := h
  show kz_Z G (d + 9) mc ms mL_printWork Qr Qx 7 [(0, .ref p0), (1, .int p1), (2, .ref p2)] [.int r2, .int 0, .ref p2] M1 (0 + mc3) (0 + ms3)
  refine kz_i2l (pc := 7) dL_printWork_7 ?_
  obtain ⟨n4, f5, hM, hi, h⟩ := h
  refine kz_last (pc := 8) hM hi dL_printWork_8 ?_
  refine kz_goto (pc := 9) (tgt := 15) (by decide) dL_printWork_9 ?_
  refine kz_iconst (pc := 15) (v := 0) (by decide) dL_printWork_15 ?_
  exact kz_iret (pc := 16) rfl hc3 hs3 dL_printWork_16 h
theorem dL_restoreState_11 : decode cL_restoreState 11 = .ok (.astore_n 2, 1) := by decide +kernel
theorem dL_restoreState_12 : decode cL_restoreState 12 = .ok (.iconst 1, 1) := by decide +kernel
theorem dL_restoreState_13 : decode cL_restoreState 13 = .ok (.ireturn, 1) := by decide +kernel
theorem dL_restoreState_0 : decode cL_restoreState 0 = .ok (.aload_n 1, 1) := by decide +kernel
theorem dL_restoreState_1 : decode cL_restoreState 1 = .ok (.iconst 0, 1) := by decide +kernel
theorem dL_restoreState_2 : decode cL_restoreState 2 = .ok (.aload_n 0, 1) := by decide +kernel
theorem dL_restoreState_3 : decode cL_restoreState 3 = .ok (.invokevirtual 134, 3) := by decide +kernel
theorem dL_restoreState_6 : decode cL_restoreState 6 = .ok (.i2l, 1) := by decide +kernel
theorem dL_restoreState_7 : decode cL_restoreState 7 = .ok (.lastore, 1) := by decide +kernel
theorem dL_restoreState_8 : decode cL_restoreState 8 = .ok (.goto 6, 3) := by decide +kernel
theorem dL_restoreState_14 : decode cL_restoreState 14 = .ok (.iconst 0, 1) := by decide +kernel
theorem dL_restoreState_15 : decode cL_restoreState 15 = .ok (.ireturn, 1) := by decide +kernel
theorem rL_restoreState_0 {G : kz_G} {d : Nat} {mc ms : Nat} {Qr : Option Value → kz_M → Prop} {Qx : String → kz_M → Prop} {p0 : Nat} {p1 : Nat}  {M : kz_M} (h : (∃ fs6, (M).1 p0 = some (.inl (10, fs6))) ∧ ∃ mc3 ms3, 0 + mc3 ≤ mc ∧ 0 + ms3 ≤ ms ∧ kz_C G (d + 7) mc3 ms3 mX11_restoreState [.ref p0] M (fun v M1 => ∃ r2 : Int32, v = some (.int r2) ∧ (∃ n4 f5, (M1).1 p1 = some (.inr (.long, n4, .inr (.inl f5))) ∧ vp_in (0 : Int32) n4 ∧ (Qr (some (.int 0)) (kz_up M1 p1 (.inr (.long, n4, .inr (.inl (vp_updL f5 (0 : Int32).toNatClampNeg ((r2 : Int32).toInt64))))))))) (fun E M9 => (E = "java/util/NoSuchElementException" ∧ Qr (some (.int 1)) M9))) : kz_C G (d + 8) mc ms mL_restoreState [.ref p0, .ref p1] M Qr Qx := by
  refine kz_enter (n := 2) kmL_restoreState.1 (Nat.le_of_ble_eq_true rfl) (ls := [(0, .ref p0), (1, .ref p1)]) rfl ?_
  refine kz_aload_n (pc := 0) 1 (v := .ref p1) (i := 1) rfl rfl rfl dL_restoreState_0 ?_
  refine kz_iconst (pc := 1) (v := 0) (by decide) dL_restoreState_1 ?_
  refine kz_aload_n (pc := 2) 0 (v := .ref p0) (i := 0) rfl rfl rfl dL_restoreState_2 ?_
  obtain ⟨⟨fs6, he⟩, h⟩ := h
  obtain ⟨mc3, ms3, hc3, hs3, h⟩ := h
  refine kz_callV (pc := 3) (μ' := mX11_restoreState) (ci := 10) (q := (RX11, TX11, 10)) (b := p0) (d' := d + 7) (mc' := mc3) (ms' := ms3) (As := []) (st := [.int 0, .ref p1]) (c := 0) (sl := 0) kmX11_restoreState kw_1359 (by omega) rfl (Nat.le_of_ble_eq_true rfl) he rfl rfl hc3 hs3 dL_restoreState_3 (fun E M9 hx => by
        rcases hx with ⟨rfl, hq⟩
        · refine kz_catchN (pre := []) (suf := []) (x := (0, 8, 11, 126)) (i := 2) rfl ⟨by decide, by decide⟩ (by decide) kw_1310 kw_1321 (fun z hz => absurd hz List.not_mem_nil) rfl (by decide) rfl dL_restoreState_11 ?_
          refine kz_iconst (pc := 12) (v := 1) (by decide) dL_restoreState_12 ?_
          exact kz_iret (pc := 13) rfl hc3 hs3 dL_restoreState_13 hq) (kz_Cmono (fun v M1 h => ?_) (fun _ _ h => h) h)
  obtain ⟨r2, rfl, h⟩ := h
  show kz_Z G (d + 8) mc ms mL_restoreState Qr Qx 6 [(0, .ref p0), (1, .ref p1)] [.int r2, .int 0, .ref p1] M1 (0 + mc3) (0 + ms3)
  refine kz_i2l (pc := 6) dL_restoreState_6 ?_
  obtain ⟨n4, f5, hM, hi, h⟩ := h
  refine kz_last (pc := 7) hM hi dL_restoreState_7 ?_
  refine kz_goto (pc := 8) (tgt := 14) (by decide) dL_restoreState_8 ?_
  refine kz_iconst (pc := 14) (v := 0) (by decide) dL_restoreState_14 ?_
  exact kz_iret (pc := 15) rfl hc3 hs3 dL_restoreState_15 h
