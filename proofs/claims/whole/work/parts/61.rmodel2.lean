/-! The rules of 61.rmodel2: printed by program (wip/whole/rules.py) -/
theorem dX12_manyIn_0 : decode cX12_manyIn 0 = .ok (.iconst 0, 1) := by decide +kernel
theorem dX12_manyIn_1 : decode cX12_manyIn 1 = .ok (.istore 4, 2) := by decide +kernel
theorem dX12_manyIn_3 : decode cX12_manyIn 3 = .ok (.iconst 0, 1) := by decide +kernel
theorem dX12_manyIn_4 : decode cX12_manyIn 4 = .ok (.istore 5, 2) := by decide +kernel
theorem dX12_manyIn_6 : decode cX12_manyIn 6 = .ok (.iload 5, 2) := by decide +kernel
theorem dX12_manyIn_8 : decode cX12_manyIn 8 = .ok (.aload_n 0, 1) := by decide +kernel
theorem dX12_manyIn_9 : decode cX12_manyIn 9 = .ok (.getfield 38, 3) := by decide +kernel
theorem dX12_manyIn_12 : decode cX12_manyIn 12 = .ok (.iload_n 1, 1) := by decide +kernel
theorem dX12_manyIn_13 : decode cX12_manyIn 13 = .ok (.iaload, 1) := by decide +kernel
theorem dX12_manyIn_14 : decode cX12_manyIn 14 = .ok (.if_icmp .ge 38, 3) := by decide +kernel
theorem dX12_manyIn_17 : decode cX12_manyIn 17 = .ok (.iload 4, 2) := by decide +kernel
theorem dX12_manyIn_19 : decode cX12_manyIn 19 = .ok (.aload_n 0, 1) := by decide +kernel
theorem dX12_manyIn_20 : decode cX12_manyIn 20 = .ok (.getfield 32, 3) := by decide +kernel
theorem dX12_manyIn_23 : decode cX12_manyIn 23 = .ok (.aload_n 0, 1) := by decide +kernel
theorem dX12_manyIn_24 : decode cX12_manyIn 24 = .ok (.getfield 35, 3) := by decide +kernel
theorem dX12_manyIn_27 : decode cX12_manyIn 27 = .ok (.iload_n 1, 1) := by decide +kernel
theorem dX12_manyIn_28 : decode cX12_manyIn 28 = .ok (.iaload, 1) := by decide +kernel
theorem dX12_manyIn_29 : decode cX12_manyIn 29 = .ok (.iload 5, 2) := by decide +kernel
theorem dX12_manyIn_31 : decode cX12_manyIn 31 = .ok (.iadd, 1) := by decide +kernel
theorem dX12_manyIn_32 : decode cX12_manyIn 32 = .ok (.laload, 1) := by decide +kernel
theorem dX12_manyIn_33 : decode cX12_manyIn 33 = .ok (.lload_n 2, 1) := by decide +kernel
theorem dX12_manyIn_34 : decode cX12_manyIn 34 = .ok (.lcmp, 1) := by decide +kernel
theorem dX12_manyIn_35 : decode cX12_manyIn 35 = .ok (.ifCond .ne 7, 3) := by decide +kernel
theorem dX12_manyIn_38 : decode cX12_manyIn 38 = .ok (.iconst 1, 1) := by decide +kernel
theorem dX12_manyIn_39 : decode cX12_manyIn 39 = .ok (.goto 4, 3) := by decide +kernel
theorem dX12_manyIn_42 : decode cX12_manyIn 42 = .ok (.iconst 0, 1) := by decide +kernel
theorem dX12_manyIn_43 : decode cX12_manyIn 43 = .ok (.iadd, 1) := by decide +kernel
theorem dX12_manyIn_44 : decode cX12_manyIn 44 = .ok (.istore 4, 2) := by decide +kernel
theorem dX12_manyIn_46 : decode cX12_manyIn 46 = .ok (.iinc 5 1, 3) := by decide +kernel
theorem dX12_manyIn_49 : decode cX12_manyIn 49 = .ok (.goto (-43), 3) := by decide +kernel
theorem dX12_manyIn_52 : decode cX12_manyIn 52 = .ok (.iload 4, 2) := by decide +kernel
theorem dX12_manyIn_54 : decode cX12_manyIn 54 = .ok (.ireturn, 1) := by decide +kernel
def zX12_manyIn_6 (G : kz_G) (d : Nat) (Qr : Option Value → kz_M → Prop) (Qx : String → kz_M → Prop) (x0 : Nat) (x1 : Int32) (x2 : Int64) (x4 : Int32) (x5 : Int32)  (M : kz_M) : Prop := kz_Z G d 0 0 mX12_manyIn Qr Qx 6 [(0, .ref x0), (1, .int x1), (2, .long x2), (4, .int x4), (5, .int x5)] [] M 0 0
theorem rX12_manyIn_0 {G : kz_G} {d : Nat} {Qr : Option Value → kz_M → Prop} {Qx : String → kz_M → Prop} {a0 : Nat} {p1 : Int32} {p2 : Int64}  {M : kz_M} (h : zX12_manyIn_6 G d Qr Qx a0 p1 p2 0 0 M) : kz_C G d 0 0 mX12_manyIn [.ref a0, .int p1, .long p2] M Qr Qx := by
  refine kz_enter (n := 2) kmX12_manyIn.1 (Nat.le_of_ble_eq_true rfl) (ls := [(0, .ref a0), (1, .int p1), (2, .long p2)]) rfl ?_
  refine kz_iconst (pc := 0) (v := 0) (by decide) dX12_manyIn_0 ?_
  refine kz_istore (pc := 1) (i := 4) (ls' := [(0, .ref a0), (1, .int p1), (2, .long p2)]) (by decide) rfl dX12_manyIn_1 ?_
  refine kz_iconst (pc := 3) (v := 0) (by decide) dX12_manyIn_3 ?_
  refine kz_istore (pc := 4) (i := 5) (ls' := [(4, .int 0), (0, .ref a0), (1, .int p1), (2, .long p2)]) (by decide) rfl dX12_manyIn_4 ?_
  refine kz_sub [2, 3, 4, 1, 0] rfl ?_
  exact h
theorem rX12_manyIn_6 {G : kz_G} {d : Nat} {Qr : Option Value → kz_M → Prop} {Qx : String → kz_M → Prop} {x0 : Nat} {x1 : Int32} {x2 : Int64} {x4 : Int32} {x5 : Int32}  {M : kz_M} (h : ∃ fs1 v2, (M).1 x0 = some (.inl (11, fs1)) ∧ fs1[15]? = some (.ref v2) ∧ (∃ n3 f4, (M).1 v2 = some (.inr (.int, n3, .inl f4)) ∧ vp_in x1 n3 ∧ (((f4 x1.toNatClampNeg) ≤ x5 → Qr (some (.int x4)) M) ∧ (¬ (f4 x1.toNatClampNeg) ≤ x5 → ∃ fs5 v6, (M).1 x0 = some (.inl (11, fs5)) ∧ fs5[10]? = some (.ref v6) ∧ (∃ fs7 v8, (M).1 x0 = some (.inl (11, fs7)) ∧ fs7[14]? = some (.ref v8) ∧ (∃ n9 f10, (M).1 v8 = some (.inr (.int, n9, .inl f10)) ∧ vp_in x1 n9 ∧ (∃ n11 f12, (M).1 v6 = some (.inr (.long, n11, .inr (.inl f12))) ∧ vp_in ((f10 x1.toNatClampNeg) + x5) n11 ∧ ((¬ (f12 ((f10 x1.toNatClampNeg) + x5).toNatClampNeg) = x2 → zX12_manyIn_6 G d Qr Qx x0 x1 x2 (x4 + 0) (x5 + 1) M) ∧ ((f12 ((f10 x1.toNatClampNeg) + x5).toNatClampNeg) = x2 → zX12_manyIn_6 G d Qr Qx x0 x1 x2 (x4 + 1) (x5 + 1) M))))))))) : zX12_manyIn_6 G d Qr Qx x0 x1 x2 x4 x5  M := by
  show kz_Z G d 0 0 mX12_manyIn Qr Qx 6 [(0, .ref x0), (1, .int x1), (2, .long x2), (4, .int x4), (5, .int x5)] [] M 0 0
  refine kz_iload (pc := 6) 4 (i := 5) rfl dX12_manyIn_6 ?_
  refine kz_aload_n (pc := 8) 0 (v := .ref x0) (i := 0) rfl rfl rfl dX12_manyIn_8 ?_
  obtain ⟨fs1, v2, hM, hv, h⟩ := h
  refine kz_getf (pc := 9) (k := 15) kcX12 hM hv (by decide) kw_1393 dX12_manyIn_9 ?_
  refine kz_iload_n (pc := 12) 1 (i := 1) rfl rfl dX12_manyIn_12 ?_
  obtain ⟨n3, f4, hM, hi, h⟩ := h
  refine kz_iald (pc := 13) hM hi dX12_manyIn_13 ?_
  refine kz_icmp_ge (pc := 14) (tgt := 52) (by decide) dX12_manyIn_14 (fun hb => ?_) (fun hb => ?_)
  · replace h := h.1 hb
    refine kz_iload (pc := 52) 3 (i := 4) rfl dX12_manyIn_52 ?_
    exact kz_iret (pc := 54) rfl (Nat.le_refl _) (Nat.le_refl _) dX12_manyIn_54 h
  · replace h := h.2 hb
    refine kz_iload (pc := 17) 3 (i := 4) rfl dX12_manyIn_17 ?_
    refine kz_aload_n (pc := 19) 0 (v := .ref x0) (i := 0) rfl rfl rfl dX12_manyIn_19 ?_
    obtain ⟨fs5, v6, hM, hv, h⟩ := h
    refine kz_getf (pc := 20) (k := 10) kcX12 hM hv (by decide) kw_1388 dX12_manyIn_20 ?_
    refine kz_aload_n (pc := 23) 0 (v := .ref x0) (i := 0) rfl rfl rfl dX12_manyIn_23 ?_
    obtain ⟨fs7, v8, hM, hv, h⟩ := h
    refine kz_getf (pc := 24) (k := 14) kcX12 hM hv (by decide) kw_1392 dX12_manyIn_24 ?_
    refine kz_iload_n (pc := 27) 1 (i := 1) rfl rfl dX12_manyIn_27 ?_
    obtain ⟨n9, f10, hM, hi, h⟩ := h
    refine kz_iald (pc := 28) hM hi dX12_manyIn_28 ?_
    refine kz_iload (pc := 29) 4 (i := 5) rfl dX12_manyIn_29 ?_
    refine kz_iadd (pc := 31) dX12_manyIn_31 ?_
    obtain ⟨n11, f12, hM, hi, h⟩ := h
    refine kz_lald (pc := 32) hM hi dX12_manyIn_32 ?_
    refine kz_lload_n (pc := 33) 2 (i := 2) rfl rfl dX12_manyIn_33 ?_
    refine kz_lcmp_ne (pc := 34) (tgt := 42) (by decide) dX12_manyIn_34 dX12_manyIn_35 (fun hb => ?_) (fun hb => ?_)
    · replace h := h.1 hb
      refine kz_iconst (pc := 42) (v := 0) (by decide) dX12_manyIn_42 ?_
      refine kz_iadd (pc := 43) dX12_manyIn_43 ?_
      refine kz_istore (pc := 44) (i := 4) (ls' := [(0, .ref x0), (1, .int x1), (2, .long x2), (5, .int x5)]) (by decide) rfl dX12_manyIn_44 ?_
      refine kz_iinc (pc := 46) 4 (i := 5) (v := x5 + 1) (ls' := [(4, .int (x4 + 0)), (0, .ref x0), (1, .int x1), (2, .long x2)]) rfl (congrArg (fun z => x5 + z) (by decide)) (by decide) rfl dX12_manyIn_46 ?_
      refine kz_goto (pc := 49) (tgt := 6) (by decide) dX12_manyIn_49 ?_
      refine kz_sub [2, 3, 4, 1, 0] rfl ?_
      exact h
    · replace h := h.2 hb
      refine kz_iconst (pc := 38) (v := 1) (by decide) dX12_manyIn_38 ?_
      refine kz_goto (pc := 39) (tgt := 43) (by decide) dX12_manyIn_39 ?_
      refine kz_iadd (pc := 43) dX12_manyIn_43 ?_
      refine kz_istore (pc := 44) (i := 4) (ls' := [(0, .ref x0), (1, .int x1), (2, .long x2), (5, .int x5)]) (by decide) rfl dX12_manyIn_44 ?_
      refine kz_iinc (pc := 46) 4 (i := 5) (v := x5 + 1) (ls' := [(4, .int (x4 + 1)), (0, .ref x0), (1, .int x1), (2, .long x2)]) rfl (congrArg (fun z => x5 + z) (by decide)) (by decide) rfl dX12_manyIn_46 ?_
      refine kz_goto (pc := 49) (tgt := 6) (by decide) dX12_manyIn_49 ?_
      refine kz_sub [2, 3, 4, 1, 0] rfl ?_
      exact h
theorem dX12_isStuffed_0 : decode cX12_isStuffed 0 = .ok (.iconst 0, 1) := by decide +kernel
theorem dX12_isStuffed_1 : decode cX12_isStuffed 1 = .ok (.istore_n 2, 1) := by decide +kernel
theorem dX12_isStuffed_2 : decode cX12_isStuffed 2 = .ok (.iload_n 2, 1) := by decide +kernel
theorem dX12_isStuffed_3 : decode cX12_isStuffed 3 = .ok (.aload_n 0, 1) := by decide +kernel
theorem dX12_isStuffed_4 : decode cX12_isStuffed 4 = .ok (.getfield 38, 3) := by decide +kernel
theorem dX12_isStuffed_7 : decode cX12_isStuffed 7 = .ok (.iload_n 1, 1) := by decide +kernel
theorem dX12_isStuffed_8 : decode cX12_isStuffed 8 = .ok (.iaload, 1) := by decide +kernel
theorem dX12_isStuffed_9 : decode cX12_isStuffed 9 = .ok (.if_icmp .ge 37, 3) := by decide +kernel
theorem dX12_isStuffed_12 : decode cX12_isStuffed 12 = .ok (.aload_n 0, 1) := by decide +kernel
theorem dX12_isStuffed_13 : decode cX12_isStuffed 13 = .ok (.iload_n 1, 1) := by decide +kernel
theorem dX12_isStuffed_14 : decode cX12_isStuffed 14 = .ok (.aload_n 0, 1) := by decide +kernel
theorem dX12_isStuffed_15 : decode cX12_isStuffed 15 = .ok (.getfield 32, 3) := by decide +kernel
theorem dX12_isStuffed_18 : decode cX12_isStuffed 18 = .ok (.aload_n 0, 1) := by decide +kernel
theorem dX12_isStuffed_19 : decode cX12_isStuffed 19 = .ok (.getfield 35, 3) := by decide +kernel
theorem dX12_isStuffed_22 : decode cX12_isStuffed 22 = .ok (.iload_n 1, 1) := by decide +kernel
theorem dX12_isStuffed_23 : decode cX12_isStuffed 23 = .ok (.iaload, 1) := by decide +kernel
theorem dX12_isStuffed_24 : decode cX12_isStuffed 24 = .ok (.iload_n 2, 1) := by decide +kernel
theorem dX12_isStuffed_25 : decode cX12_isStuffed 25 = .ok (.iadd, 1) := by decide +kernel
theorem dX12_isStuffed_26 : decode cX12_isStuffed 26 = .ok (.laload, 1) := by decide +kernel
theorem dX12_isStuffed_27 : decode cX12_isStuffed 27 = .ok (.invokevirtual 150, 3) := by decide +kernel
theorem dX12_isStuffed_30 : decode cX12_isStuffed 30 = .ok (.aload_n 0, 1) := by decide +kernel
theorem dX12_isStuffed_31 : decode cX12_isStuffed 31 = .ok (.iconst 1, 1) := by decide +kernel
theorem dX12_isStuffed_32 : decode cX12_isStuffed 32 = .ok (.invokevirtual 141, 3) := by decide +kernel
theorem dX12_isStuffed_35 : decode cX12_isStuffed 35 = .ok (.if_icmp .lt 5, 3) := by decide +kernel
theorem dX12_isStuffed_38 : decode cX12_isStuffed 38 = .ok (.iconst 1, 1) := by decide +kernel
theorem dX12_isStuffed_39 : decode cX12_isStuffed 39 = .ok (.ireturn, 1) := by decide +kernel
theorem dX12_isStuffed_40 : decode cX12_isStuffed 40 = .ok (.iinc 2 1, 3) := by decide +kernel
theorem dX12_isStuffed_43 : decode cX12_isStuffed 43 = .ok (.goto (-41), 3) := by decide +kernel
theorem dX12_isStuffed_46 : decode cX12_isStuffed 46 = .ok (.iconst 0, 1) := by decide +kernel
theorem dX12_isStuffed_47 : decode cX12_isStuffed 47 = .ok (.ireturn, 1) := by decide +kernel
def zX12_isStuffed_2 (G : kz_G) (d : Nat) (Qr : Option Value → kz_M → Prop) (Qx : String → kz_M → Prop) (x0 : Nat) (x1 : Int32) (x2 : Int32)  (M : kz_M) : Prop := kz_Z G (d + 1) 0 0 mX12_isStuffed Qr Qx 2 [(0, .ref x0), (1, .int x1), (2, .int x2)] [] M 0 0
theorem rX12_isStuffed_0 {G : kz_G} {d : Nat} {Qr : Option Value → kz_M → Prop} {Qx : String → kz_M → Prop} {a0 : Nat} {p1 : Int32}  {M : kz_M} (h : zX12_isStuffed_2 G d Qr Qx a0 p1 0 M) : kz_C G (d + 1) 0 0 mX12_isStuffed [.ref a0, .int p1] M Qr Qx := by
  refine kz_enter (n := 1) kmX12_isStuffed.1 (Nat.le_of_ble_eq_true rfl) (ls := [(0, .ref a0), (1, .int p1)]) rfl ?_
  refine kz_iconst (pc := 0) (v := 0) (by decide) dX12_isStuffed_0 ?_
  refine kz_istore_n (pc := 1) (i := 2) (ls' := [(0, .ref a0), (1, .int p1)]) rfl (by decide) rfl dX12_isStuffed_1 ?_
  refine kz_sub [1, 2, 0] rfl ?_
  exact h
theorem rX12_isStuffed_2 {G : kz_G} {d : Nat} {Qr : Option Value → kz_M → Prop} {Qx : String → kz_M → Prop} {x0 : Nat} {x1 : Int32} {x2 : Int32}  {M : kz_M} (h : ∃ fs1 v2, (M).1 x0 = some (.inl (11, fs1)) ∧ fs1[15]? = some (.ref v2) ∧ (∃ n3 f4, (M).1 v2 = some (.inr (.int, n3, .inl f4)) ∧ vp_in x1 n3 ∧ (((f4 x1.toNatClampNeg) ≤ x2 → Qr (some (.int 0)) M) ∧ (¬ (f4 x1.toNatClampNeg) ≤ x2 → ∃ fs5 v6, (M).1 x0 = some (.inl (11, fs5)) ∧ fs5[10]? = some (.ref v6) ∧ (∃ fs7 v8, (M).1 x0 = some (.inl (11, fs7)) ∧ fs7[14]? = some (.ref v8) ∧ (∃ n9 f10, (M).1 v8 = some (.inr (.int, n9, .inl f10)) ∧ vp_in x1 n9 ∧ (∃ n11 f12, (M).1 v6 = some (.inr (.long, n11, .inr (.inl f12))) ∧ vp_in ((f10 x1.toNatClampNeg) + x2) n11 ∧ ((∃ fs20, (M).1 x0 = some (.inl (11, fs20))) ∧ kz_C G (d + 0) 0 0 mX12_manyIn [.ref x0, .int x1, .long (f12 ((f10 x1.toNatClampNeg) + x2).toNatClampNeg)] M (fun v M13 => ∃ r14 : Int32, v = some (.int r14) ∧ ((∃ fs19, (M13).1 x0 = some (.inl (11, fs19))) ∧ kz_C G (d + 0) 0 0 mX12_its [.ref x0, .int 1] M13 (fun v M16 => ∃ r17 : Int32, v = some (.int r17) ∧ ((r14 < r17 → zX12_isStuffed_2 G d Qr Qx x0 x1 (x2 + 1) M16) ∧ (¬ r14 < r17 → Qr (some (.int 1)) M16))) Qx)) Qx)))))))) : zX12_isStuffed_2 G d Qr Qx x0 x1 x2  M := by
  show kz_Z G (d + 1) 0 0 mX12_isStuffed Qr Qx 2 [(0, .ref x0), (1, .int x1), (2, .int x2)] [] M 0 0
  refine kz_iload_n (pc := 2) 2 (i := 2) rfl rfl dX12_isStuffed_2 ?_
  refine kz_aload_n (pc := 3) 0 (v := .ref x0) (i := 0) rfl rfl rfl dX12_isStuffed_3 ?_
  obtain ⟨fs1, v2, hM, hv, h⟩ := h
  refine kz_getf (pc := 4) (k := 15) kcX12 hM hv (by decide) kw_1393 dX12_isStuffed_4 ?_
  refine kz_iload_n (pc := 7) 1 (i := 1) rfl rfl dX12_isStuffed_7 ?_
  obtain ⟨n3, f4, hM, hi, h⟩ := h
  refine kz_iald (pc := 8) hM hi dX12_isStuffed_8 ?_
  refine kz_icmp_ge (pc := 9) (tgt := 46) (by decide) dX12_isStuffed_9 (fun hb => ?_) (fun hb => ?_)
  · replace h := h.1 hb
    refine kz_iconst (pc := 46) (v := 0) (by decide) dX12_isStuffed_46 ?_
    exact kz_zret (pc := 47) (ty := .boolean) rfl (by decide) (Nat.le_refl _) (Nat.le_refl _) dX12_isStuffed_47 h
  · replace h := h.2 hb
    refine kz_aload_n (pc := 12) 0 (v := .ref x0) (i := 0) rfl rfl rfl dX12_isStuffed_12 ?_
    refine kz_iload_n (pc := 13) 1 (i := 1) rfl rfl dX12_isStuffed_13 ?_
    refine kz_aload_n (pc := 14) 0 (v := .ref x0) (i := 0) rfl rfl rfl dX12_isStuffed_14 ?_
    obtain ⟨fs5, v6, hM, hv, h⟩ := h
    refine kz_getf (pc := 15) (k := 10) kcX12 hM hv (by decide) kw_1388 dX12_isStuffed_15 ?_
    refine kz_aload_n (pc := 18) 0 (v := .ref x0) (i := 0) rfl rfl rfl dX12_isStuffed_18 ?_
    obtain ⟨fs7, v8, hM, hv, h⟩ := h
    refine kz_getf (pc := 19) (k := 14) kcX12 hM hv (by decide) kw_1392 dX12_isStuffed_19 ?_
    refine kz_iload_n (pc := 22) 1 (i := 1) rfl rfl dX12_isStuffed_22 ?_
    obtain ⟨n9, f10, hM, hi, h⟩ := h
    refine kz_iald (pc := 23) hM hi dX12_isStuffed_23 ?_
    refine kz_iload_n (pc := 24) 2 (i := 2) rfl rfl dX12_isStuffed_24 ?_
    refine kz_iadd (pc := 25) dX12_isStuffed_25 ?_
    obtain ⟨n11, f12, hM, hi, h⟩ := h
    refine kz_lald (pc := 26) hM hi dX12_isStuffed_26 ?_
    obtain ⟨⟨fs20, he⟩, h⟩ := h
    refine kz_callV (pc := 27) (μ' := mX12_manyIn) (ci := 11) (q := (RX12, TX12, 32)) (b := x0) (d' := d + 0) (mc' := 0) (ms' := 0) (As := [.int x1, .long (f12 ((f10 x1.toNatClampNeg) + x2).toNatClampNeg)]) (st := []) (c := 0) (sl := 0) kmX12_manyIn kw_1880 (by omega) rfl (Nat.le_of_ble_eq_true rfl) he rfl rfl (Nat.le_refl _) (Nat.le_refl _) dX12_isStuffed_27 (fun E M9 hx => kz_Tout rfl (Nat.le_refl _) (Nat.le_refl _) hx) (kz_Cmono (fun v M13 h => ?_) (fun _ _ h => h) h)
    obtain ⟨r14, rfl, h⟩ := h
    show kz_Z G (d + 1) 0 0 mX12_isStuffed Qr Qx 30 [(0, .ref x0), (1, .int x1), (2, .int x2)] [.int r14] M13 0 0
    refine kz_aload_n (pc := 30) 0 (v := .ref x0) (i := 0) rfl rfl rfl dX12_isStuffed_30 ?_
    refine kz_iconst (pc := 31) (v := 1) (by decide) dX12_isStuffed_31 ?_
    obtain ⟨⟨fs19, he⟩, h⟩ := h
    refine kz_callV (pc := 32) (μ' := mX12_its) (ci := 11) (q := (RX12, TX12, 32)) (b := x0) (d' := d + 0) (mc' := 0) (ms' := 0) (As := [.int 1]) (st := [.int r14]) (c := 0) (sl := 0) kmX12_its kw_1657 (by omega) rfl (Nat.le_of_ble_eq_true rfl) he rfl rfl (Nat.le_refl _) (Nat.le_refl _) dX12_isStuffed_32 (fun E M9 hx => kz_Tout rfl (Nat.le_refl _) (Nat.le_refl _) hx) (kz_Cmono (fun v M16 h => ?_) (fun _ _ h => h) h)
    obtain ⟨r17, rfl, h⟩ := h
    show kz_Z G (d + 1) 0 0 mX12_isStuffed Qr Qx 35 [(0, .ref x0), (1, .int x1), (2, .int x2)] [.int r17, .int r14] M16 0 0
    refine kz_icmp_lt (pc := 35) (tgt := 40) (by decide) dX12_isStuffed_35 (fun hb => ?_) (fun hb => ?_)
    · replace h := h.1 hb
      refine kz_iinc (pc := 40) 2 (i := 2) (v := x2 + 1) (ls' := [(0, .ref x0), (1, .int x1)]) rfl (congrArg (fun z => x2 + z) (by decide)) (by decide) rfl dX12_isStuffed_40 ?_
      refine kz_goto (pc := 43) (tgt := 2) (by decide) dX12_isStuffed_43 ?_
      refine kz_sub [1, 2, 0] rfl ?_
      exact h
    · replace h := h.2 hb
      refine kz_iconst (pc := 38) (v := 1) (by decide) dX12_isStuffed_38 ?_
      exact kz_zret (pc := 39) (ty := .boolean) rfl (by decide) (Nat.le_refl _) (Nat.le_refl _) dX12_isStuffed_39 h
theorem dX12_isWorn_0 : decode cX12_isWorn 0 = .ok (.iconst 0, 1) := by decide +kernel
theorem dX12_isWorn_1 : decode cX12_isWorn 1 = .ok (.istore 4, 2) := by decide +kernel
theorem dX12_isWorn_3 : decode cX12_isWorn 3 = .ok (.iload 4, 2) := by decide +kernel
theorem dX12_isWorn_5 : decode cX12_isWorn 5 = .ok (.aload_n 0, 1) := by decide +kernel
theorem dX12_isWorn_6 : decode cX12_isWorn 6 = .ok (.getfield 38, 3) := by decide +kernel
theorem dX12_isWorn_9 : decode cX12_isWorn 9 = .ok (.iload_n 1, 1) := by decide +kernel
theorem dX12_isWorn_10 : decode cX12_isWorn 10 = .ok (.iaload, 1) := by decide +kernel
theorem dX12_isWorn_11 : decode cX12_isWorn 11 = .ok (.if_icmp .ge 93, 3) := by decide +kernel
theorem dX12_isWorn_14 : decode cX12_isWorn 14 = .ok (.aload_n 0, 1) := by decide +kernel
theorem dX12_isWorn_15 : decode cX12_isWorn 15 = .ok (.getfield 32, 3) := by decide +kernel
theorem dX12_isWorn_18 : decode cX12_isWorn 18 = .ok (.aload_n 0, 1) := by decide +kernel
theorem dX12_isWorn_19 : decode cX12_isWorn 19 = .ok (.getfield 35, 3) := by decide +kernel
theorem dX12_isWorn_22 : decode cX12_isWorn 22 = .ok (.iload_n 1, 1) := by decide +kernel
theorem dX12_isWorn_23 : decode cX12_isWorn 23 = .ok (.iaload, 1) := by decide +kernel
theorem dX12_isWorn_24 : decode cX12_isWorn 24 = .ok (.iload 4, 2) := by decide +kernel
theorem dX12_isWorn_26 : decode cX12_isWorn 26 = .ok (.iadd, 1) := by decide +kernel
theorem dX12_isWorn_27 : decode cX12_isWorn 27 = .ok (.laload, 1) := by decide +kernel
theorem dX12_isWorn_28 : decode cX12_isWorn 28 = .ok (.lstore 5, 2) := by decide +kernel
theorem dX12_isWorn_30 : decode cX12_isWorn 30 = .ok (.aload_n 0, 1) := by decide +kernel
theorem dX12_isWorn_31 : decode cX12_isWorn 31 = .ok (.lload 5, 2) := by decide +kernel
theorem dX12_isWorn_33 : decode cX12_isWorn 33 = .ok (.iload_n 2, 1) := by decide +kernel
theorem dX12_isWorn_34 : decode cX12_isWorn 34 = .ok (.iload_n 3, 1) := by decide +kernel
theorem dX12_isWorn_35 : decode cX12_isWorn 35 = .ok (.invokevirtual 153, 3) := by decide +kernel
theorem dX12_isWorn_38 : decode cX12_isWorn 38 = .ok (.istore 7, 2) := by decide +kernel
theorem dX12_isWorn_40 : decode cX12_isWorn 40 = .ok (.iconst 0, 1) := by decide +kernel
theorem dX12_isWorn_41 : decode cX12_isWorn 41 = .ok (.istore 8, 2) := by decide +kernel
theorem dX12_isWorn_43 : decode cX12_isWorn 43 = .ok (.iload 8, 2) := by decide +kernel
theorem dX12_isWorn_45 : decode cX12_isWorn 45 = .ok (.iload_n 1, 1) := by decide +kernel
theorem dX12_isWorn_46 : decode cX12_isWorn 46 = .ok (.if_icmp .ge 40, 3) := by decide +kernel
theorem dX12_isWorn_49 : decode cX12_isWorn 49 = .ok (.iload 7, 2) := by decide +kernel
theorem dX12_isWorn_51 : decode cX12_isWorn 51 = .ok (.aload_n 0, 1) := by decide +kernel
theorem dX12_isWorn_52 : decode cX12_isWorn 52 = .ok (.getfield 41, 3) := by decide +kernel
theorem dX12_isWorn_55 : decode cX12_isWorn 55 = .ok (.iload 8, 2) := by decide +kernel
theorem dX12_isWorn_57 : decode cX12_isWorn 57 = .ok (.iaload, 1) := by decide +kernel
theorem dX12_isWorn_58 : decode cX12_isWorn 58 = .ok (.ifCond .ne 18, 3) := by decide +kernel
theorem dX12_isWorn_61 : decode cX12_isWorn 61 = .ok (.aload_n 0, 1) := by decide +kernel
theorem dX12_isWorn_62 : decode cX12_isWorn 62 = .ok (.iload 8, 2) := by decide +kernel
theorem dX12_isWorn_64 : decode cX12_isWorn 64 = .ok (.lload 5, 2) := by decide +kernel
theorem dX12_isWorn_66 : decode cX12_isWorn 66 = .ok (.invokevirtual 150, 3) := by decide +kernel
theorem dX12_isWorn_69 : decode cX12_isWorn 69 = .ok (.ifCond .le 7, 3) := by decide +kernel
theorem dX12_isWorn_72 : decode cX12_isWorn 72 = .ok (.iconst 1, 1) := by decide +kernel
theorem dX12_isWorn_73 : decode cX12_isWorn 73 = .ok (.goto 4, 3) := by decide +kernel
theorem dX12_isWorn_76 : decode cX12_isWorn 76 = .ok (.iconst 0, 1) := by decide +kernel
theorem dX12_isWorn_77 : decode cX12_isWorn 77 = .ok (.iadd, 1) := by decide +kernel
theorem dX12_isWorn_78 : decode cX12_isWorn 78 = .ok (.istore 7, 2) := by decide +kernel
theorem dX12_isWorn_80 : decode cX12_isWorn 80 = .ok (.iinc 8 1, 3) := by decide +kernel
theorem dX12_isWorn_83 : decode cX12_isWorn 83 = .ok (.goto (-40), 3) := by decide +kernel
theorem dX12_isWorn_86 : decode cX12_isWorn 86 = .ok (.iload 7, 2) := by decide +kernel
theorem dX12_isWorn_88 : decode cX12_isWorn 88 = .ok (.aload_n 0, 1) := by decide +kernel
theorem dX12_isWorn_89 : decode cX12_isWorn 89 = .ok (.iconst 2, 1) := by decide +kernel
theorem dX12_isWorn_90 : decode cX12_isWorn 90 = .ok (.invokevirtual 141, 3) := by decide +kernel
theorem dX12_isWorn_93 : decode cX12_isWorn 93 = .ok (.if_icmp .ge 5, 3) := by decide +kernel
theorem dX12_isWorn_96 : decode cX12_isWorn 96 = .ok (.iconst 0, 1) := by decide +kernel
theorem dX12_isWorn_97 : decode cX12_isWorn 97 = .ok (.ireturn, 1) := by decide +kernel
theorem dX12_isWorn_98 : decode cX12_isWorn 98 = .ok (.iinc 4 1, 3) := by decide +kernel
theorem dX12_isWorn_101 : decode cX12_isWorn 101 = .ok (.goto (-98), 3) := by decide +kernel
theorem dX12_isWorn_104 : decode cX12_isWorn 104 = .ok (.iconst 1, 1) := by decide +kernel
theorem dX12_isWorn_105 : decode cX12_isWorn 105 = .ok (.ireturn, 1) := by decide +kernel
def zX12_isWorn_3 (G : kz_G) (d : Nat) (Qr : Option Value → kz_M → Prop) (Qx : String → kz_M → Prop) (x0 : Nat) (x1 : Int32) (x2 : Int32) (x3 : Int32) (x4 : Int32)  (M : kz_M) : Prop := kz_Z G (d + 5) 0 0 mX12_isWorn Qr Qx 3 [(0, .ref x0), (1, .int x1), (2, .int x2), (3, .int x3), (4, .int x4)] [] M 0 0
def zX12_isWorn_43 (G : kz_G) (d : Nat) (Qr : Option Value → kz_M → Prop) (Qx : String → kz_M → Prop) (x0 : Nat) (x1 : Int32) (x2 : Int32) (x3 : Int32) (x4 : Int32) (x5 : Int64) (x7 : Int32) (x8 : Int32)  (M : kz_M) : Prop := kz_Z G (d + 5) 0 0 mX12_isWorn Qr Qx 43 [(0, .ref x0), (1, .int x1), (2, .int x2), (3, .int x3), (4, .int x4), (5, .long x5), (7, .int x7), (8, .int x8)] [] M 0 0
theorem rX12_isWorn_0 {G : kz_G} {d : Nat} {Qr : Option Value → kz_M → Prop} {Qx : String → kz_M → Prop} {a0 : Nat} {p1 : Int32} {p2 : Int32} {p3 : Int32}  {M : kz_M} (h : zX12_isWorn_3 G d Qr Qx a0 p1 p2 p3 0 M) : kz_C G (d + 5) 0 0 mX12_isWorn [.ref a0, .int p1, .int p2, .int p3] M Qr Qx := by
  refine kz_enter (n := 3) kmX12_isWorn.1 (Nat.le_of_ble_eq_true rfl) (ls := [(0, .ref a0), (1, .int p1), (2, .int p2), (3, .int p3)]) rfl ?_
  refine kz_iconst (pc := 0) (v := 0) (by decide) dX12_isWorn_0 ?_
  refine kz_istore (pc := 1) (i := 4) (ls' := [(0, .ref a0), (1, .int p1), (2, .int p2), (3, .int p3)]) (by decide) rfl dX12_isWorn_1 ?_
  refine kz_sub [1, 2, 3, 4, 0] rfl ?_
  exact h
theorem rX12_isWorn_3 {G : kz_G} {d : Nat} {Qr : Option Value → kz_M → Prop} {Qx : String → kz_M → Prop} {x0 : Nat} {x1 : Int32} {x2 : Int32} {x3 : Int32} {x4 : Int32}  {M : kz_M} (h : ∃ fs1 v2, (M).1 x0 = some (.inl (11, fs1)) ∧ fs1[15]? = some (.ref v2) ∧ (∃ n3 f4, (M).1 v2 = some (.inr (.int, n3, .inl f4)) ∧ vp_in x1 n3 ∧ (((f4 x1.toNatClampNeg) ≤ x4 → Qr (some (.int 1)) M) ∧ (¬ (f4 x1.toNatClampNeg) ≤ x4 → ∃ fs5 v6, (M).1 x0 = some (.inl (11, fs5)) ∧ fs5[10]? = some (.ref v6) ∧ (∃ fs7 v8, (M).1 x0 = some (.inl (11, fs7)) ∧ fs7[14]? = some (.ref v8) ∧ (∃ n9 f10, (M).1 v8 = some (.inr (.int, n9, .inl f10)) ∧ vp_in x1 n9 ∧ (∃ n11 f12, (M).1 v6 = some (.inr (.long, n11, .inr (.inl f12))) ∧ vp_in ((f10 x1.toNatClampNeg) + x4) n11 ∧ ((∃ fs16, (M).1 x0 = some (.inl (11, fs16))) ∧ kz_C G (d + 4) 0 0 mX12_usesOf [.ref x0, .long (f12 ((f10 x1.toNatClampNeg) + x4).toNatClampNeg), .int x2, .int x3] M (fun v M13 => ∃ r14 : Int32, v = some (.int r14) ∧ (zX12_isWorn_43 G d Qr Qx x0 x1 x2 x3 x4 (f12 ((f10 x1.toNatClampNeg) + x4).toNatClampNeg) r14 0 M13)) Qx)))))))) : zX12_isWorn_3 G d Qr Qx x0 x1 x2 x3 x4  M := by
  show kz_Z G (d + 5) 0 0 mX12_isWorn Qr Qx 3 [(0, .ref x0), (1, .int x1), (2, .int x2), (3, .int x3), (4, .int x4)] [] M 0 0
  refine kz_iload (pc := 3) 4 (i := 4) rfl dX12_isWorn_3 ?_
  refine kz_aload_n (pc := 5) 0 (v := .ref x0) (i := 0) rfl rfl rfl dX12_isWorn_5 ?_
  obtain ⟨fs1, v2, hM, hv, h⟩ := h
  refine kz_getf (pc := 6) (k := 15) kcX12 hM hv (by decide) kw_1393 dX12_isWorn_6 ?_
  refine kz_iload_n (pc := 9) 1 (i := 1) rfl rfl dX12_isWorn_9 ?_
  obtain ⟨n3, f4, hM, hi, h⟩ := h
  refine kz_iald (pc := 10) hM hi dX12_isWorn_10 ?_
  refine kz_icmp_ge (pc := 11) (tgt := 104) (by decide) dX12_isWorn_11 (fun hb => ?_) (fun hb => ?_)
  · replace h := h.1 hb
    refine kz_iconst (pc := 104) (v := 1) (by decide) dX12_isWorn_104 ?_
    exact kz_zret (pc := 105) (ty := .boolean) rfl (by decide) (Nat.le_refl _) (Nat.le_refl _) dX12_isWorn_105 h
  · replace h := h.2 hb
    refine kz_aload_n (pc := 14) 0 (v := .ref x0) (i := 0) rfl rfl rfl dX12_isWorn_14 ?_
    obtain ⟨fs5, v6, hM, hv, h⟩ := h
    refine kz_getf (pc := 15) (k := 10) kcX12 hM hv (by decide) kw_1388 dX12_isWorn_15 ?_
    refine kz_aload_n (pc := 18) 0 (v := .ref x0) (i := 0) rfl rfl rfl dX12_isWorn_18 ?_
    obtain ⟨fs7, v8, hM, hv, h⟩ := h
    refine kz_getf (pc := 19) (k := 14) kcX12 hM hv (by decide) kw_1392 dX12_isWorn_19 ?_
    refine kz_iload_n (pc := 22) 1 (i := 1) rfl rfl dX12_isWorn_22 ?_
    obtain ⟨n9, f10, hM, hi, h⟩ := h
    refine kz_iald (pc := 23) hM hi dX12_isWorn_23 ?_
    refine kz_iload (pc := 24) 4 (i := 4) rfl dX12_isWorn_24 ?_
    refine kz_iadd (pc := 26) dX12_isWorn_26 ?_
    obtain ⟨n11, f12, hM, hi, h⟩ := h
    refine kz_lald (pc := 27) hM hi dX12_isWorn_27 ?_
    refine kz_lstore (pc := 28) (i := 5) (ls' := [(0, .ref x0), (1, .int x1), (2, .int x2), (3, .int x3), (4, .int x4)]) (by decide) rfl dX12_isWorn_28 ?_
    refine kz_aload_n (pc := 30) 1 (v := .ref x0) (i := 0) rfl rfl rfl dX12_isWorn_30 ?_
    refine kz_lload (pc := 31) 0 (i := 5) rfl dX12_isWorn_31 ?_
    refine kz_iload_n (pc := 33) 3 (i := 2) rfl rfl dX12_isWorn_33 ?_
    refine kz_iload_n (pc := 34) 4 (i := 3) rfl rfl dX12_isWorn_34 ?_
    obtain ⟨⟨fs16, he⟩, h⟩ := h
    refine kz_callV (pc := 35) (μ' := mX12_usesOf) (ci := 11) (q := (RX12, TX12, 32)) (b := x0) (d' := d + 4) (mc' := 0) (ms' := 0) (As := [.long (f12 ((f10 x1.toNatClampNeg) + x4).toNatClampNeg), .int x2, .int x3]) (st := []) (c := 0) (sl := 0) kmX12_usesOf kw_1697 (by omega) rfl (Nat.le_of_ble_eq_true rfl) he rfl rfl (Nat.le_refl _) (Nat.le_refl _) dX12_isWorn_35 (fun E M9 hx => kz_Tout rfl (Nat.le_refl _) (Nat.le_refl _) hx) (kz_Cmono (fun v M13 h => ?_) (fun _ _ h => h) h)
    obtain ⟨r14, rfl, h⟩ := h
    show kz_Z G (d + 5) 0 0 mX12_isWorn Qr Qx 38 [(5, .long (f12 ((f10 x1.toNatClampNeg) + x4).toNatClampNeg)), (0, .ref x0), (1, .int x1), (2, .int x2), (3, .int x3), (4, .int x4)] [.int r14] M13 0 0
    refine kz_istore (pc := 38) (i := 7) (ls' := [(5, .long (f12 ((f10 x1.toNatClampNeg) + x4).toNatClampNeg)), (0, .ref x0), (1, .int x1), (2, .int x2), (3, .int x3), (4, .int x4)]) (by decide) rfl dX12_isWorn_38 ?_
    refine kz_iconst (pc := 40) (v := 0) (by decide) dX12_isWorn_40 ?_
    refine kz_istore (pc := 41) (i := 8) (ls' := [(7, .int r14), (5, .long (f12 ((f10 x1.toNatClampNeg) + x4).toNatClampNeg)), (0, .ref x0), (1, .int x1), (2, .int x2), (3, .int x3), (4, .int x4)]) (by decide) rfl dX12_isWorn_41 ?_
    refine kz_sub [3, 4, 5, 6, 7, 2, 1, 0] rfl ?_
    exact h
theorem rX12_isWorn_43 {G : kz_G} {d : Nat} {Qr : Option Value → kz_M → Prop} {Qx : String → kz_M → Prop} {x0 : Nat} {x1 : Int32} {x2 : Int32} {x3 : Int32} {x4 : Int32} {x5 : Int64} {x7 : Int32} {x8 : Int32}  {M : kz_M} (h : (x1 ≤ x8 → (∃ fs4, (M).1 x0 = some (.inl (11, fs4))) ∧ kz_C G (d + 4) 0 0 mX12_its [.ref x0, .int 2] M (fun v M1 => ∃ r2 : Int32, v = some (.int r2) ∧ ((r2 ≤ x7 → zX12_isWorn_3 G d Qr Qx x0 x1 x2 x3 (x4 + 1) M1) ∧ (¬ r2 ≤ x7 → Qr (some (.int 0)) M1))) Qx) ∧ (¬ x1 ≤ x8 → ∃ fs5 v6, (M).1 x0 = some (.inl (11, fs5)) ∧ fs5[16]? = some (.ref v6) ∧ (∃ n7 f8, (M).1 v6 = some (.inr (.int, n7, .inl f8)) ∧ vp_in x8 n7 ∧ ((¬ (f8 x8.toNatClampNeg) = 0 → zX12_isWorn_43 G d Qr Qx x0 x1 x2 x3 x4 x5 (x7 + 0) (x8 + 1) M) ∧ ((f8 x8.toNatClampNeg) = 0 → (∃ fs12, (M).1 x0 = some (.inl (11, fs12))) ∧ kz_C G (d + 4) 0 0 mX12_manyIn [.ref x0, .int x8, .long x5] M (fun v M9 => ∃ r10 : Int32, v = some (.int r10) ∧ ((r10 ≤ 0 → zX12_isWorn_43 G d Qr Qx x0 x1 x2 x3 x4 x5 (x7 + 0) (x8 + 1) M9) ∧ (¬ r10 ≤ 0 → zX12_isWorn_43 G d Qr Qx x0 x1 x2 x3 x4 x5 (x7 + 1) (x8 + 1) M9))) Qx))))) : zX12_isWorn_43 G d Qr Qx x0 x1 x2 x3 x4 x5 x7 x8  M := by
  show kz_Z G (d + 5) 0 0 mX12_isWorn Qr Qx 43 [(0, .ref x0), (1, .int x1), (2, .int x2), (3, .int x3), (4, .int x4), (5, .long x5), (7, .int x7), (8, .int x8)] [] M 0 0
  refine kz_iload (pc := 43) 7 (i := 8) rfl dX12_isWorn_43 ?_
  refine kz_iload_n (pc := 45) 1 (i := 1) rfl rfl dX12_isWorn_45 ?_
  refine kz_icmp_ge (pc := 46) (tgt := 86) (by decide) dX12_isWorn_46 (fun hb => ?_) (fun hb => ?_)
  · replace h := h.1 hb
    refine kz_iload (pc := 86) 6 (i := 7) rfl dX12_isWorn_86 ?_
    refine kz_aload_n (pc := 88) 0 (v := .ref x0) (i := 0) rfl rfl rfl dX12_isWorn_88 ?_
    refine kz_iconst (pc := 89) (v := 2) (by decide) dX12_isWorn_89 ?_
    obtain ⟨⟨fs4, he⟩, h⟩ := h
    refine kz_callV (pc := 90) (μ' := mX12_its) (ci := 11) (q := (RX12, TX12, 32)) (b := x0) (d' := d + 4) (mc' := 0) (ms' := 0) (As := [.int 2]) (st := [.int x7]) (c := 0) (sl := 0) kmX12_its kw_1657 (by omega) rfl (Nat.le_of_ble_eq_true rfl) he rfl rfl (Nat.le_refl _) (Nat.le_refl _) dX12_isWorn_90 (fun E M9 hx => kz_Tout rfl (Nat.le_refl _) (Nat.le_refl _) hx) (kz_Cmono (fun v M1 h => ?_) (fun _ _ h => h) h)
    obtain ⟨r2, rfl, h⟩ := h
    show kz_Z G (d + 5) 0 0 mX12_isWorn Qr Qx 93 [(0, .ref x0), (1, .int x1), (2, .int x2), (3, .int x3), (4, .int x4), (5, .long x5), (7, .int x7), (8, .int x8)] [.int r2, .int x7] M1 0 0
    refine kz_icmp_ge (pc := 93) (tgt := 98) (by decide) dX12_isWorn_93 (fun hb => ?_) (fun hb => ?_)
    · replace h := h.1 hb
      refine kz_iinc (pc := 98) 4 (i := 4) (v := x4 + 1) (ls' := [(0, .ref x0), (1, .int x1), (2, .int x2), (3, .int x3), (5, .long x5), (7, .int x7), (8, .int x8)]) rfl (congrArg (fun z => x4 + z) (by decide)) (by decide) rfl dX12_isWorn_98 ?_
      refine kz_goto (pc := 101) (tgt := 3) (by decide) dX12_isWorn_101 ?_
      refine kz_sub [1, 2, 3, 4, 0] rfl ?_
      exact h
    · replace h := h.2 hb
      refine kz_iconst (pc := 96) (v := 0) (by decide) dX12_isWorn_96 ?_
      exact kz_zret (pc := 97) (ty := .boolean) rfl (by decide) (Nat.le_refl _) (Nat.le_refl _) dX12_isWorn_97 h
  · replace h := h.2 hb
    refine kz_iload (pc := 49) 6 (i := 7) rfl dX12_isWorn_49 ?_
    refine kz_aload_n (pc := 51) 0 (v := .ref x0) (i := 0) rfl rfl rfl dX12_isWorn_51 ?_
    obtain ⟨fs5, v6, hM, hv, h⟩ := h
    refine kz_getf (pc := 52) (k := 16) kcX12 hM hv (by decide) kw_1394 dX12_isWorn_52 ?_
    refine kz_iload (pc := 55) 7 (i := 8) rfl dX12_isWorn_55 ?_
    obtain ⟨n7, f8, hM, hi, h⟩ := h
    refine kz_iald (pc := 57) hM hi dX12_isWorn_57 ?_
    refine kz_if_ne (pc := 58) (tgt := 76) (by decide) dX12_isWorn_58 (fun hb => ?_) (fun hb => ?_)
    · replace h := h.1 hb
      refine kz_iconst (pc := 76) (v := 0) (by decide) dX12_isWorn_76 ?_
      refine kz_iadd (pc := 77) dX12_isWorn_77 ?_
      refine kz_istore (pc := 78) (i := 7) (ls' := [(0, .ref x0), (1, .int x1), (2, .int x2), (3, .int x3), (4, .int x4), (5, .long x5), (8, .int x8)]) (by decide) rfl dX12_isWorn_78 ?_
      refine kz_iinc (pc := 80) 7 (i := 8) (v := x8 + 1) (ls' := [(7, .int (x7 + 0)), (0, .ref x0), (1, .int x1), (2, .int x2), (3, .int x3), (4, .int x4), (5, .long x5)]) rfl (congrArg (fun z => x8 + z) (by decide)) (by decide) rfl dX12_isWorn_80 ?_
      refine kz_goto (pc := 83) (tgt := 43) (by decide) dX12_isWorn_83 ?_
      refine kz_sub [2, 3, 4, 5, 6, 7, 1, 0] rfl ?_
      exact h
    · replace h := h.2 hb
      refine kz_aload_n (pc := 61) 0 (v := .ref x0) (i := 0) rfl rfl rfl dX12_isWorn_61 ?_
      refine kz_iload (pc := 62) 7 (i := 8) rfl dX12_isWorn_62 ?_
      refine kz_lload (pc := 64) 5 (i := 5) rfl dX12_isWorn_64 ?_
      obtain ⟨⟨fs12, he⟩, h⟩ := h
      refine kz_callV (pc := 66) (μ' := mX12_manyIn) (ci := 11) (q := (RX12, TX12, 32)) (b := x0) (d' := d + 4) (mc' := 0) (ms' := 0) (As := [.int x8, .long x5]) (st := [.int x7]) (c := 0) (sl := 0) kmX12_manyIn kw_1880 (by omega) rfl (Nat.le_of_ble_eq_true rfl) he rfl rfl (Nat.le_refl _) (Nat.le_refl _) dX12_isWorn_66 (fun E M9 hx => kz_Tout rfl (Nat.le_refl _) (Nat.le_refl _) hx) (kz_Cmono (fun v M9 h => ?_) (fun _ _ h => h) h)
      obtain ⟨r10, rfl, h⟩ := h
      show kz_Z G (d + 5) 0 0 mX12_isWorn Qr Qx 69 [(0, .ref x0), (1, .int x1), (2, .int x2), (3, .int x3), (4, .int x4), (5, .long x5), (7, .int x7), (8, .int x8)] [.int r10, .int x7] M9 0 0
      refine kz_if_le (pc := 69) (tgt := 76) (by decide) dX12_isWorn_69 (fun hb => ?_) (fun hb => ?_)
      · replace h := h.1 hb
        refine kz_iconst (pc := 76) (v := 0) (by decide) dX12_isWorn_76 ?_
        refine kz_iadd (pc := 77) dX12_isWorn_77 ?_
        refine kz_istore (pc := 78) (i := 7) (ls' := [(0, .ref x0), (1, .int x1), (2, .int x2), (3, .int x3), (4, .int x4), (5, .long x5), (8, .int x8)]) (by decide) rfl dX12_isWorn_78 ?_
        refine kz_iinc (pc := 80) 7 (i := 8) (v := x8 + 1) (ls' := [(7, .int (x7 + 0)), (0, .ref x0), (1, .int x1), (2, .int x2), (3, .int x3), (4, .int x4), (5, .long x5)]) rfl (congrArg (fun z => x8 + z) (by decide)) (by decide) rfl dX12_isWorn_80 ?_
        refine kz_goto (pc := 83) (tgt := 43) (by decide) dX12_isWorn_83 ?_
        refine kz_sub [2, 3, 4, 5, 6, 7, 1, 0] rfl ?_
        exact h
      · replace h := h.2 hb
        refine kz_iconst (pc := 72) (v := 1) (by decide) dX12_isWorn_72 ?_
        refine kz_goto (pc := 73) (tgt := 77) (by decide) dX12_isWorn_73 ?_
        refine kz_iadd (pc := 77) dX12_isWorn_77 ?_
        refine kz_istore (pc := 78) (i := 7) (ls' := [(0, .ref x0), (1, .int x1), (2, .int x2), (3, .int x3), (4, .int x4), (5, .long x5), (8, .int x8)]) (by decide) rfl dX12_isWorn_78 ?_
        refine kz_iinc (pc := 80) 7 (i := 8) (v := x8 + 1) (ls' := [(7, .int (x7 + 1)), (0, .ref x0), (1, .int x1), (2, .int x2), (3, .int x3), (4, .int x4), (5, .long x5)]) rfl (congrArg (fun z => x8 + z) (by decide)) (by decide) rfl dX12_isWorn_80 ?_
        refine kz_goto (pc := 83) (tgt := 43) (by decide) dX12_isWorn_83 ?_
        refine kz_sub [2, 3, 4, 5, 6, 7, 1, 0] rfl ?_
        exact h
theorem dX12_looks_0 : decode cX12_looks 0 = .ok (.aload_n 0, 1) := by decide +kernel
theorem dX12_looks_1 : decode cX12_looks 1 = .ok (.iload_n 1, 1) := by decide +kernel
theorem dX12_looks_2 : decode cX12_looks 2 = .ok (.aload_n 0, 1) := by decide +kernel
theorem dX12_looks_3 : decode cX12_looks 3 = .ok (.iconst 0, 1) := by decide +kernel
theorem dX12_looks_4 : decode cX12_looks 4 = .ok (.invokevirtual 141, 3) := by decide +kernel
theorem dX12_looks_7 : decode cX12_looks 7 = .ok (.invokevirtual 157, 3) := by decide +kernel
theorem dX12_looks_10 : decode cX12_looks 10 = .ok (.iconst 0, 1) := by decide +kernel
theorem dX12_looks_11 : decode cX12_looks 11 = .ok (.istore 4, 2) := by decide +kernel
theorem dX12_looks_13 : decode cX12_looks 13 = .ok (.iload 4, 2) := by decide +kernel
theorem dX12_looks_15 : decode cX12_looks 15 = .ok (.aload_n 0, 1) := by decide +kernel
theorem dX12_looks_16 : decode cX12_looks 16 = .ok (.getfield 134, 3) := by decide +kernel
theorem dX12_looks_19 : decode cX12_looks 19 = .ok (.if_icmp .ge 60, 3) := by decide +kernel
theorem dX12_looks_22 : decode cX12_looks 22 = .ok (.aload_n 0, 1) := by decide +kernel
theorem dX12_looks_23 : decode cX12_looks 23 = .ok (.getfield 41, 3) := by decide +kernel
theorem dX12_looks_26 : decode cX12_looks 26 = .ok (.iload 4, 2) := by decide +kernel
theorem dX12_looks_28 : decode cX12_looks 28 = .ok (.aload_n 0, 1) := by decide +kernel
theorem dX12_looks_29 : decode cX12_looks 29 = .ok (.iload 4, 2) := by decide +kernel
theorem dX12_looks_31 : decode cX12_looks 31 = .ok (.iload_n 2, 1) := by decide +kernel
theorem dX12_looks_32 : decode cX12_looks 32 = .ok (.iload_n 3, 1) := by decide +kernel
theorem dX12_looks_33 : decode cX12_looks 33 = .ok (.invokevirtual 160, 3) := by decide +kernel
theorem dX12_looks_36 : decode cX12_looks 36 = .ok (.ifCond .eq 7, 3) := by decide +kernel
theorem dX12_looks_39 : decode cX12_looks 39 = .ok (.iconst 1, 1) := by decide +kernel
theorem dX12_looks_40 : decode cX12_looks 40 = .ok (.goto 32, 3) := by decide +kernel
theorem dX12_looks_43 : decode cX12_looks 43 = .ok (.aload_n 0, 1) := by decide +kernel
theorem dX12_looks_44 : decode cX12_looks 44 = .ok (.iload 4, 2) := by decide +kernel
theorem dX12_looks_46 : decode cX12_looks 46 = .ok (.invokevirtual 163, 3) := by decide +kernel
theorem dX12_looks_49 : decode cX12_looks 49 = .ok (.ifCond .eq 7, 3) := by decide +kernel
theorem dX12_looks_52 : decode cX12_looks 52 = .ok (.iconst 2, 1) := by decide +kernel
theorem dX12_looks_53 : decode cX12_looks 53 = .ok (.goto 19, 3) := by decide +kernel
theorem dX12_looks_56 : decode cX12_looks 56 = .ok (.aload_n 0, 1) := by decide +kernel
theorem dX12_looks_57 : decode cX12_looks 57 = .ok (.iload 4, 2) := by decide +kernel
theorem dX12_looks_59 : decode cX12_looks 59 = .ok (.iload_n 2, 1) := by decide +kernel
theorem dX12_looks_60 : decode cX12_looks 60 = .ok (.iload_n 3, 1) := by decide +kernel
theorem dX12_looks_61 : decode cX12_looks 61 = .ok (.invokevirtual 167, 3) := by decide +kernel
theorem dX12_looks_64 : decode cX12_looks 64 = .ok (.ifCond .eq 7, 3) := by decide +kernel
theorem dX12_looks_67 : decode cX12_looks 67 = .ok (.iconst 3, 1) := by decide +kernel
theorem dX12_looks_68 : decode cX12_looks 68 = .ok (.goto 4, 3) := by decide +kernel
theorem dX12_looks_71 : decode cX12_looks 71 = .ok (.iconst 0, 1) := by decide +kernel
theorem dX12_looks_72 : decode cX12_looks 72 = .ok (.iastore, 1) := by decide +kernel
theorem dX12_looks_73 : decode cX12_looks 73 = .ok (.iinc 4 1, 3) := by decide +kernel
theorem dX12_looks_76 : decode cX12_looks 76 = .ok (.goto (-63), 3) := by decide +kernel
theorem dX12_looks_79 : decode cX12_looks 79 = .ok (.return_, 1) := by decide +kernel
def zX12_looks_13 (G : kz_G) (d : Nat) (Qr : Option Value → kz_M → Prop) (Qx : String → kz_M → Prop) (x0 : Nat) (x2 : Int32) (x3 : Int32) (x4 : Int32)  (M : kz_M) : Prop := kz_Z G (d + 6) 0 0 mX12_looks Qr Qx 13 [(0, .ref x0), (2, .int x2), (3, .int x3), (4, .int x4)] [] M 0 0
theorem rX12_looks_0 {G : kz_G} {d : Nat} {Qr : Option Value → kz_M → Prop} {Qx : String → kz_M → Prop} {a0 : Nat} {p1 : Int32} {p2 : Int32} {p3 : Int32}  {M : kz_M} (h : (∃ fs8, (M).1 a0 = some (.inl (11, fs8))) ∧ kz_C G (d + 5) 0 0 mX12_its [.ref a0, .int 0] M (fun v M1 => ∃ r2 : Int32, v = some (.int r2) ∧ ((∃ fs7, (M1).1 a0 = some (.inl (11, fs7))) ∧ kz_C G (d + 5) 0 0 mX12_makes [.ref a0, .int p1, .int r2] M1 (fun v M4 => v = none ∧ (zX12_looks_13 G d Qr Qx a0 p2 p3 0 M4)) Qx)) Qx) : kz_C G (d + 6) 0 0 mX12_looks [.ref a0, .int p1, .int p2, .int p3] M Qr Qx := by
  refine kz_enter (n := 3) kmX12_looks.1 (Nat.le_of_ble_eq_true rfl) (ls := [(0, .ref a0), (1, .int p1), (2, .int p2), (3, .int p3)]) rfl ?_
  refine kz_aload_n (pc := 0) 0 (v := .ref a0) (i := 0) rfl rfl rfl dX12_looks_0 ?_
  refine kz_iload_n (pc := 1) 1 (i := 1) rfl rfl dX12_looks_1 ?_
  refine kz_aload_n (pc := 2) 0 (v := .ref a0) (i := 0) rfl rfl rfl dX12_looks_2 ?_
  refine kz_iconst (pc := 3) (v := 0) (by decide) dX12_looks_3 ?_
  obtain ⟨⟨fs8, he⟩, h⟩ := h
  refine kz_callV (pc := 4) (μ' := mX12_its) (ci := 11) (q := (RX12, TX12, 32)) (b := a0) (d' := d + 5) (mc' := 0) (ms' := 0) (As := [.int 0]) (st := [.int p1, .ref a0]) (c := 0) (sl := 0) kmX12_its kw_1657 (by omega) rfl (Nat.le_of_ble_eq_true rfl) he rfl rfl (Nat.le_refl _) (Nat.le_refl _) dX12_looks_4 (fun E M9 hx => kz_Tout rfl (Nat.le_refl _) (Nat.le_refl _) hx) (kz_Cmono (fun v M1 h => ?_) (fun _ _ h => h) h)
  obtain ⟨r2, rfl, h⟩ := h
  show kz_Z G (d + 6) 0 0 mX12_looks Qr Qx 7 [(0, .ref a0), (1, .int p1), (2, .int p2), (3, .int p3)] [.int r2, .int p1, .ref a0] M1 0 0
  obtain ⟨⟨fs7, he⟩, h⟩ := h
  refine kz_callV (pc := 7) (μ' := mX12_makes) (ci := 11) (q := (RX12, TX12, 32)) (b := a0) (d' := d + 5) (mc' := 0) (ms' := 0) (As := [.int p1, .int r2]) (st := []) (c := 0) (sl := 0) kmX12_makes kw_1827 (by omega) rfl (Nat.le_of_ble_eq_true rfl) he rfl rfl (Nat.le_refl _) (Nat.le_refl _) dX12_looks_7 (fun E M9 hx => kz_Tout rfl (Nat.le_refl _) (Nat.le_refl _) hx) (kz_Cmono (fun v M4 h => ?_) (fun _ _ h => h) h)
  obtain ⟨rfl, h⟩ := h
  show kz_Z G (d + 6) 0 0 mX12_looks Qr Qx 10 [(0, .ref a0), (1, .int p1), (2, .int p2), (3, .int p3)] [] M4 0 0
  refine kz_iconst (pc := 10) (v := 0) (by decide) dX12_looks_10 ?_
  refine kz_istore (pc := 11) (i := 4) (ls' := [(0, .ref a0), (1, .int p1), (2, .int p2), (3, .int p3)]) (by decide) rfl dX12_looks_11 ?_
  refine kz_sub [1, 3, 4, 0] rfl ?_
  exact h
theorem rX12_looks_13 {G : kz_G} {d : Nat} {Qr : Option Value → kz_M → Prop} {Qx : String → kz_M → Prop} {x0 : Nat} {x2 : Int32} {x3 : Int32} {x4 : Int32}  {M : kz_M} (h : ∃ fs1 v2, (M).1 x0 = some (.inl (11, fs1)) ∧ fs1[13]? = some (.int v2) ∧ ((v2 ≤ x4 → Qr none M) ∧ (¬ v2 ≤ x4 → ∃ fs3 v4, (M).1 x0 = some (.inl (11, fs3)) ∧ fs3[16]? = some (.ref v4) ∧ ((∃ fs24, (M).1 x0 = some (.inl (11, fs24))) ∧ kz_C G (d + 5) 0 0 mX12_isStale [.ref x0, .int x4, .int x2, .int x3] M (fun v M5 => ∃ r6 : Int32, v = some (.int r6) ∧ ((r6 = 0 → (∃ fs21, (M5).1 x0 = some (.inl (11, fs21))) ∧ kz_C G (d + 5) 0 0 mX12_isStuffed [.ref x0, .int x4] M5 (fun v M8 => ∃ r9 : Int32, v = some (.int r9) ∧ ((r9 = 0 → (∃ fs18, (M8).1 x0 = some (.inl (11, fs18))) ∧ kz_C G (d + 5) 0 0 mX12_isWorn [.ref x0, .int x4, .int x2, .int x3] M8 (fun v M11 => ∃ r12 : Int32, v = some (.int r12) ∧ ((r12 = 0 → ∃ n14 f15, (M11).1 v4 = some (.inr (.int, n14, .inl f15)) ∧ vp_in x4 n14 ∧ (zX12_looks_13 G d Qr Qx x0 x2 x3 (x4 + 1) (kz_up M11 v4 (.inr (.int, n14, .inl (upd f15 (x4 : Int32).toNatClampNeg 0)))))) ∧ (¬ r12 = 0 → ∃ n16 f17, (M11).1 v4 = some (.inr (.int, n16, .inl f17)) ∧ vp_in x4 n16 ∧ (zX12_looks_13 G d Qr Qx x0 x2 x3 (x4 + 1) (kz_up M11 v4 (.inr (.int, n16, .inl (upd f17 (x4 : Int32).toNatClampNeg 3)))))))) Qx) ∧ (¬ r9 = 0 → ∃ n19 f20, (M8).1 v4 = some (.inr (.int, n19, .inl f20)) ∧ vp_in x4 n19 ∧ (zX12_looks_13 G d Qr Qx x0 x2 x3 (x4 + 1) (kz_up M8 v4 (.inr (.int, n19, .inl (upd f20 (x4 : Int32).toNatClampNeg 2)))))))) Qx) ∧ (¬ r6 = 0 → ∃ n22 f23, (M5).1 v4 = some (.inr (.int, n22, .inl f23)) ∧ vp_in x4 n22 ∧ (zX12_looks_13 G d Qr Qx x0 x2 x3 (x4 + 1) (kz_up M5 v4 (.inr (.int, n22, .inl (upd f23 (x4 : Int32).toNatClampNeg 1)))))))) Qx)))) : zX12_looks_13 G d Qr Qx x0 x2 x3 x4  M := by
  show kz_Z G (d + 6) 0 0 mX12_looks Qr Qx 13 [(0, .ref x0), (2, .int x2), (3, .int x3), (4, .int x4)] [] M 0 0
  refine kz_iload (pc := 13) 3 (i := 4) rfl dX12_looks_13 ?_
  refine kz_aload_n (pc := 15) 0 (v := .ref x0) (i := 0) rfl rfl rfl dX12_looks_15 ?_
  obtain ⟨fs1, v2, hM, hv, h⟩ := h
  refine kz_getf (pc := 16) (k := 13) kcX12 hM hv (by decide) kw_1391 dX12_looks_16 ?_
  refine kz_icmp_ge (pc := 19) (tgt := 79) (by decide) dX12_looks_19 (fun hb => ?_) (fun hb => ?_)
  · replace h := h.1 hb
    exact kz_vret (pc := 79) rfl (Nat.le_refl _) (Nat.le_refl _) dX12_looks_79 h
  · replace h := h.2 hb
    refine kz_aload_n (pc := 22) 0 (v := .ref x0) (i := 0) rfl rfl rfl dX12_looks_22 ?_
    obtain ⟨fs3, v4, hM, hv, h⟩ := h
    refine kz_getf (pc := 23) (k := 16) kcX12 hM hv (by decide) kw_1394 dX12_looks_23 ?_
    refine kz_iload (pc := 26) 3 (i := 4) rfl dX12_looks_26 ?_
    refine kz_aload_n (pc := 28) 0 (v := .ref x0) (i := 0) rfl rfl rfl dX12_looks_28 ?_
    refine kz_iload (pc := 29) 3 (i := 4) rfl dX12_looks_29 ?_
    refine kz_iload_n (pc := 31) 1 (i := 2) rfl rfl dX12_looks_31 ?_
    refine kz_iload_n (pc := 32) 2 (i := 3) rfl rfl dX12_looks_32 ?_
    obtain ⟨⟨fs24, he⟩, h⟩ := h
    refine kz_callV (pc := 33) (μ' := mX12_isStale) (ci := 11) (q := (RX12, TX12, 32)) (b := x0) (d' := d + 5) (mc' := 0) (ms' := 0) (As := [.int x4, .int x2, .int x3]) (st := [.int x4, .ref v4]) (c := 0) (sl := 0) kmX12_isStale kw_1864 (by omega) rfl (Nat.le_of_ble_eq_true rfl) he rfl rfl (Nat.le_refl _) (Nat.le_refl _) dX12_looks_33 (fun E M9 hx => kz_Tout rfl (Nat.le_refl _) (Nat.le_refl _) hx) (kz_Cmono (fun v M5 h => ?_) (fun _ _ h => h) h)
    obtain ⟨r6, rfl, h⟩ := h
    show kz_Z G (d + 6) 0 0 mX12_looks Qr Qx 36 [(0, .ref x0), (2, .int x2), (3, .int x3), (4, .int x4)] [.int r6, .int x4, .ref v4] M5 0 0
    refine kz_if_eq (pc := 36) (tgt := 43) (by decide) dX12_looks_36 (fun hb => ?_) (fun hb => ?_)
    · replace h := h.1 hb
      refine kz_aload_n (pc := 43) 0 (v := .ref x0) (i := 0) rfl rfl rfl dX12_looks_43 ?_
      refine kz_iload (pc := 44) 3 (i := 4) rfl dX12_looks_44 ?_
      obtain ⟨⟨fs21, he⟩, h⟩ := h
      refine kz_callV (pc := 46) (μ' := mX12_isStuffed) (ci := 11) (q := (RX12, TX12, 32)) (b := x0) (d' := d + 5) (mc' := 0) (ms' := 0) (As := [.int x4]) (st := [.int x4, .ref v4]) (c := 0) (sl := 0) kmX12_isStuffed kw_1876 (by omega) rfl (Nat.le_of_ble_eq_true rfl) he rfl rfl (Nat.le_refl _) (Nat.le_refl _) dX12_looks_46 (fun E M9 hx => kz_Tout rfl (Nat.le_refl _) (Nat.le_refl _) hx) (kz_Cmono (fun v M8 h => ?_) (fun _ _ h => h) h)
      obtain ⟨r9, rfl, h⟩ := h
      show kz_Z G (d + 6) 0 0 mX12_looks Qr Qx 49 [(0, .ref x0), (2, .int x2), (3, .int x3), (4, .int x4)] [.int r9, .int x4, .ref v4] M8 0 0
      refine kz_if_eq (pc := 49) (tgt := 56) (by decide) dX12_looks_49 (fun hb => ?_) (fun hb => ?_)
      · replace h := h.1 hb
        refine kz_aload_n (pc := 56) 0 (v := .ref x0) (i := 0) rfl rfl rfl dX12_looks_56 ?_
        refine kz_iload (pc := 57) 3 (i := 4) rfl dX12_looks_57 ?_
        refine kz_iload_n (pc := 59) 1 (i := 2) rfl rfl dX12_looks_59 ?_
        refine kz_iload_n (pc := 60) 2 (i := 3) rfl rfl dX12_looks_60 ?_
        obtain ⟨⟨fs18, he⟩, h⟩ := h
        refine kz_callV (pc := 61) (μ' := mX12_isWorn) (ci := 11) (q := (RX12, TX12, 32)) (b := x0) (d' := d + 5) (mc' := 0) (ms' := 0) (As := [.int x4, .int x2, .int x3]) (st := [.int x4, .ref v4]) (c := 0) (sl := 0) kmX12_isWorn kw_1884 (by omega) rfl (Nat.le_of_ble_eq_true rfl) he rfl rfl (Nat.le_refl _) (Nat.le_refl _) dX12_looks_61 (fun E M9 hx => kz_Tout rfl (Nat.le_refl _) (Nat.le_refl _) hx) (kz_Cmono (fun v M11 h => ?_) (fun _ _ h => h) h)
        obtain ⟨r12, rfl, h⟩ := h
        show kz_Z G (d + 6) 0 0 mX12_looks Qr Qx 64 [(0, .ref x0), (2, .int x2), (3, .int x3), (4, .int x4)] [.int r12, .int x4, .ref v4] M11 0 0
        refine kz_if_eq (pc := 64) (tgt := 71) (by decide) dX12_looks_64 (fun hb => ?_) (fun hb => ?_)
        · replace h := h.1 hb
          refine kz_iconst (pc := 71) (v := 0) (by decide) dX12_looks_71 ?_
          obtain ⟨n14, f15, hM, hi, h⟩ := h
          refine kz_iast (pc := 72) hM hi dX12_looks_72 ?_
          refine kz_iinc (pc := 73) 3 (i := 4) (v := x4 + 1) (ls' := [(0, .ref x0), (2, .int x2), (3, .int x3)]) rfl (congrArg (fun z => x4 + z) (by decide)) (by decide) rfl dX12_looks_73 ?_
          refine kz_goto (pc := 76) (tgt := 13) (by decide) dX12_looks_76 ?_
          refine kz_sub [1, 2, 3, 0] rfl ?_
          exact h
        · replace h := h.2 hb
          refine kz_iconst (pc := 67) (v := 3) (by decide) dX12_looks_67 ?_
          refine kz_goto (pc := 68) (tgt := 72) (by decide) dX12_looks_68 ?_
          obtain ⟨n16, f17, hM, hi, h⟩ := h
          refine kz_iast (pc := 72) hM hi dX12_looks_72 ?_
          refine kz_iinc (pc := 73) 3 (i := 4) (v := x4 + 1) (ls' := [(0, .ref x0), (2, .int x2), (3, .int x3)]) rfl (congrArg (fun z => x4 + z) (by decide)) (by decide) rfl dX12_looks_73 ?_
          refine kz_goto (pc := 76) (tgt := 13) (by decide) dX12_looks_76 ?_
          refine kz_sub [1, 2, 3, 0] rfl ?_
          exact h
      · replace h := h.2 hb
        refine kz_iconst (pc := 52) (v := 2) (by decide) dX12_looks_52 ?_
        refine kz_goto (pc := 53) (tgt := 72) (by decide) dX12_looks_53 ?_
        obtain ⟨n19, f20, hM, hi, h⟩ := h
        refine kz_iast (pc := 72) hM hi dX12_looks_72 ?_
        refine kz_iinc (pc := 73) 3 (i := 4) (v := x4 + 1) (ls' := [(0, .ref x0), (2, .int x2), (3, .int x3)]) rfl (congrArg (fun z => x4 + z) (by decide)) (by decide) rfl dX12_looks_73 ?_
        refine kz_goto (pc := 76) (tgt := 13) (by decide) dX12_looks_76 ?_
        refine kz_sub [1, 2, 3, 0] rfl ?_
        exact h
    · replace h := h.2 hb
      refine kz_iconst (pc := 39) (v := 1) (by decide) dX12_looks_39 ?_
      refine kz_goto (pc := 40) (tgt := 72) (by decide) dX12_looks_40 ?_
      obtain ⟨n22, f23, hM, hi, h⟩ := h
      refine kz_iast (pc := 72) hM hi dX12_looks_72 ?_
      refine kz_iinc (pc := 73) 3 (i := 4) (v := x4 + 1) (ls' := [(0, .ref x0), (2, .int x2), (3, .int x3)]) rfl (congrArg (fun z => x4 + z) (by decide)) (by decide) rfl dX12_looks_73 ?_
      refine kz_goto (pc := 76) (tgt := 13) (by decide) dX12_looks_76 ?_
      refine kz_sub [1, 2, 3, 0] rfl ?_
      exact h
theorem dX12_rowCounting_0 : decode cX12_rowCounting 0 = .ok (.iconst 0, 1) := by decide +kernel
theorem dX12_rowCounting_1 : decode cX12_rowCounting 1 = .ok (.istore_n 1, 1) := by decide +kernel
theorem dX12_rowCounting_2 : decode cX12_rowCounting 2 = .ok (.iconst 0, 1) := by decide +kernel
theorem dX12_rowCounting_3 : decode cX12_rowCounting 3 = .ok (.istore_n 2, 1) := by decide +kernel
theorem dX12_rowCounting_4 : decode cX12_rowCounting 4 = .ok (.iload_n 2, 1) := by decide +kernel
theorem dX12_rowCounting_5 : decode cX12_rowCounting 5 = .ok (.aload_n 0, 1) := by decide +kernel
theorem dX12_rowCounting_6 : decode cX12_rowCounting 6 = .ok (.getfield 134, 3) := by decide +kernel
theorem dX12_rowCounting_9 : decode cX12_rowCounting 9 = .ok (.if_icmp .ge 26, 3) := by decide +kernel
theorem dX12_rowCounting_12 : decode cX12_rowCounting 12 = .ok (.iload_n 1, 1) := by decide +kernel
theorem dX12_rowCounting_13 : decode cX12_rowCounting 13 = .ok (.aload_n 0, 1) := by decide +kernel
theorem dX12_rowCounting_14 : decode cX12_rowCounting 14 = .ok (.getfield 41, 3) := by decide +kernel
theorem dX12_rowCounting_17 : decode cX12_rowCounting 17 = .ok (.iload_n 2, 1) := by decide +kernel
theorem dX12_rowCounting_18 : decode cX12_rowCounting 18 = .ok (.iaload, 1) := by decide +kernel
theorem dX12_rowCounting_19 : decode cX12_rowCounting 19 = .ok (.ifCond .ne 7, 3) := by decide +kernel
theorem dX12_rowCounting_22 : decode cX12_rowCounting 22 = .ok (.iconst 1, 1) := by decide +kernel
theorem dX12_rowCounting_23 : decode cX12_rowCounting 23 = .ok (.goto 4, 3) := by decide +kernel
theorem dX12_rowCounting_26 : decode cX12_rowCounting 26 = .ok (.iconst 0, 1) := by decide +kernel
theorem dX12_rowCounting_27 : decode cX12_rowCounting 27 = .ok (.iadd, 1) := by decide +kernel
theorem dX12_rowCounting_28 : decode cX12_rowCounting 28 = .ok (.istore_n 1, 1) := by decide +kernel
theorem dX12_rowCounting_29 : decode cX12_rowCounting 29 = .ok (.iinc 2 1, 3) := by decide +kernel
theorem dX12_rowCounting_32 : decode cX12_rowCounting 32 = .ok (.goto (-28), 3) := by decide +kernel
theorem dX12_rowCounting_35 : decode cX12_rowCounting 35 = .ok (.iload_n 1, 1) := by decide +kernel
theorem dX12_rowCounting_36 : decode cX12_rowCounting 36 = .ok (.ireturn, 1) := by decide +kernel
def zX12_rowCounting_4 (G : kz_G) (d : Nat) (Qr : Option Value → kz_M → Prop) (Qx : String → kz_M → Prop) (x0 : Nat) (x1 : Int32) (x2 : Int32)  (M : kz_M) : Prop := kz_Z G d 0 0 mX12_rowCounting Qr Qx 4 [(0, .ref x0), (1, .int x1), (2, .int x2)] [] M 0 0
theorem rX12_rowCounting_0 {G : kz_G} {d : Nat} {Qr : Option Value → kz_M → Prop} {Qx : String → kz_M → Prop} {a0 : Nat}  {M : kz_M} (h : zX12_rowCounting_4 G d Qr Qx a0 0 0 M) : kz_C G d 0 0 mX12_rowCounting [.ref a0] M Qr Qx := by
  refine kz_enter (n := 0) kmX12_rowCounting.1 (Nat.le_of_ble_eq_true rfl) (ls := [(0, .ref a0)]) rfl ?_
  refine kz_iconst (pc := 0) (v := 0) (by decide) dX12_rowCounting_0 ?_
  refine kz_istore_n (pc := 1) (i := 1) (ls' := [(0, .ref a0)]) rfl (by decide) rfl dX12_rowCounting_1 ?_
  refine kz_iconst (pc := 2) (v := 0) (by decide) dX12_rowCounting_2 ?_
  refine kz_istore_n (pc := 3) (i := 2) (ls' := [(1, .int 0), (0, .ref a0)]) rfl (by decide) rfl dX12_rowCounting_3 ?_
  refine kz_sub [2, 1, 0] rfl ?_
  exact h
theorem rX12_rowCounting_4 {G : kz_G} {d : Nat} {Qr : Option Value → kz_M → Prop} {Qx : String → kz_M → Prop} {x0 : Nat} {x1 : Int32} {x2 : Int32}  {M : kz_M} (h : ∃ fs1 v2, (M).1 x0 = some (.inl (11, fs1)) ∧ fs1[13]? = some (.int v2) ∧ ((v2 ≤ x2 → Qr (some (.int x1)) M) ∧ (¬ v2 ≤ x2 → ∃ fs3 v4, (M).1 x0 = some (.inl (11, fs3)) ∧ fs3[16]? = some (.ref v4) ∧ (∃ n5 f6, (M).1 v4 = some (.inr (.int, n5, .inl f6)) ∧ vp_in x2 n5 ∧ ((¬ (f6 x2.toNatClampNeg) = 0 → zX12_rowCounting_4 G d Qr Qx x0 (x1 + 0) (x2 + 1) M) ∧ ((f6 x2.toNatClampNeg) = 0 → zX12_rowCounting_4 G d Qr Qx x0 (x1 + 1) (x2 + 1) M)))))) : zX12_rowCounting_4 G d Qr Qx x0 x1 x2  M := by
  show kz_Z G d 0 0 mX12_rowCounting Qr Qx 4 [(0, .ref x0), (1, .int x1), (2, .int x2)] [] M 0 0
  refine kz_iload_n (pc := 4) 2 (i := 2) rfl rfl dX12_rowCounting_4 ?_
  refine kz_aload_n (pc := 5) 0 (v := .ref x0) (i := 0) rfl rfl rfl dX12_rowCounting_5 ?_
  obtain ⟨fs1, v2, hM, hv, h⟩ := h
  refine kz_getf (pc := 6) (k := 13) kcX12 hM hv (by decide) kw_1391 dX12_rowCounting_6 ?_
  refine kz_icmp_ge (pc := 9) (tgt := 35) (by decide) dX12_rowCounting_9 (fun hb => ?_) (fun hb => ?_)
  · replace h := h.1 hb
    refine kz_iload_n (pc := 35) 1 (i := 1) rfl rfl dX12_rowCounting_35 ?_
    exact kz_iret (pc := 36) rfl (Nat.le_refl _) (Nat.le_refl _) dX12_rowCounting_36 h
  · replace h := h.2 hb
    refine kz_iload_n (pc := 12) 1 (i := 1) rfl rfl dX12_rowCounting_12 ?_
    refine kz_aload_n (pc := 13) 0 (v := .ref x0) (i := 0) rfl rfl rfl dX12_rowCounting_13 ?_
    obtain ⟨fs3, v4, hM, hv, h⟩ := h
    refine kz_getf (pc := 14) (k := 16) kcX12 hM hv (by decide) kw_1394 dX12_rowCounting_14 ?_
    refine kz_iload_n (pc := 17) 2 (i := 2) rfl rfl dX12_rowCounting_17 ?_
    obtain ⟨n5, f6, hM, hi, h⟩ := h
    refine kz_iald (pc := 18) hM hi dX12_rowCounting_18 ?_
    refine kz_if_ne (pc := 19) (tgt := 26) (by decide) dX12_rowCounting_19 (fun hb => ?_) (fun hb => ?_)
    · replace h := h.1 hb
      refine kz_iconst (pc := 26) (v := 0) (by decide) dX12_rowCounting_26 ?_
      refine kz_iadd (pc := 27) dX12_rowCounting_27 ?_
      refine kz_istore_n (pc := 28) (i := 1) (ls' := [(0, .ref x0), (2, .int x2)]) rfl (by decide) rfl dX12_rowCounting_28 ?_
      refine kz_iinc (pc := 29) 2 (i := 2) (v := x2 + 1) (ls' := [(1, .int (x1 + 0)), (0, .ref x0)]) rfl (congrArg (fun z => x2 + z) (by decide)) (by decide) rfl dX12_rowCounting_29 ?_
      refine kz_goto (pc := 32) (tgt := 4) (by decide) dX12_rowCounting_32 ?_
      refine kz_sub [2, 1, 0] rfl ?_
      exact h
    · replace h := h.2 hb
      refine kz_iconst (pc := 22) (v := 1) (by decide) dX12_rowCounting_22 ?_
      refine kz_goto (pc := 23) (tgt := 27) (by decide) dX12_rowCounting_23 ?_
      refine kz_iadd (pc := 27) dX12_rowCounting_27 ?_
      refine kz_istore_n (pc := 28) (i := 1) (ls' := [(0, .ref x0), (2, .int x2)]) rfl (by decide) rfl dX12_rowCounting_28 ?_
      refine kz_iinc (pc := 29) 2 (i := 2) (v := x2 + 1) (ls' := [(1, .int (x1 + 1)), (0, .ref x0)]) rfl (congrArg (fun z => x2 + z) (by decide)) (by decide) rfl dX12_rowCounting_29 ?_
      refine kz_goto (pc := 32) (tgt := 4) (by decide) dX12_rowCounting_32 ?_
      refine kz_sub [2, 1, 0] rfl ?_
      exact h
theorem dX12_rowPays_0 : decode cX12_rowPays 0 = .ok (.iconst 0, 1) := by decide +kernel
theorem dX12_rowPays_1 : decode cX12_rowPays 1 = .ok (.istore_n 1, 1) := by decide +kernel
theorem dX12_rowPays_2 : decode cX12_rowPays 2 = .ok (.iconst 0, 1) := by decide +kernel
theorem dX12_rowPays_3 : decode cX12_rowPays 3 = .ok (.istore_n 2, 1) := by decide +kernel
theorem dX12_rowPays_4 : decode cX12_rowPays 4 = .ok (.iload_n 2, 1) := by decide +kernel
theorem dX12_rowPays_5 : decode cX12_rowPays 5 = .ok (.aload_n 0, 1) := by decide +kernel
theorem dX12_rowPays_6 : decode cX12_rowPays 6 = .ok (.getfield 134, 3) := by decide +kernel
theorem dX12_rowPays_9 : decode cX12_rowPays 9 = .ok (.if_icmp .ge 31, 3) := by decide +kernel
theorem dX12_rowPays_12 : decode cX12_rowPays 12 = .ok (.iload_n 1, 1) := by decide +kernel
theorem dX12_rowPays_13 : decode cX12_rowPays 13 = .ok (.aload_n 0, 1) := by decide +kernel
theorem dX12_rowPays_14 : decode cX12_rowPays 14 = .ok (.getfield 41, 3) := by decide +kernel
theorem dX12_rowPays_17 : decode cX12_rowPays 17 = .ok (.iload_n 2, 1) := by decide +kernel
theorem dX12_rowPays_18 : decode cX12_rowPays 18 = .ok (.iaload, 1) := by decide +kernel
theorem dX12_rowPays_19 : decode cX12_rowPays 19 = .ok (.ifCond .ne 12, 3) := by decide +kernel
theorem dX12_rowPays_22 : decode cX12_rowPays 22 = .ok (.aload_n 0, 1) := by decide +kernel
theorem dX12_rowPays_23 : decode cX12_rowPays 23 = .ok (.getfield 44, 3) := by decide +kernel
theorem dX12_rowPays_26 : decode cX12_rowPays 26 = .ok (.iload_n 2, 1) := by decide +kernel
theorem dX12_rowPays_27 : decode cX12_rowPays 27 = .ok (.iaload, 1) := by decide +kernel
theorem dX12_rowPays_28 : decode cX12_rowPays 28 = .ok (.goto 4, 3) := by decide +kernel
theorem dX12_rowPays_31 : decode cX12_rowPays 31 = .ok (.iconst 0, 1) := by decide +kernel
theorem dX12_rowPays_32 : decode cX12_rowPays 32 = .ok (.iadd, 1) := by decide +kernel
theorem dX12_rowPays_33 : decode cX12_rowPays 33 = .ok (.istore_n 1, 1) := by decide +kernel
theorem dX12_rowPays_34 : decode cX12_rowPays 34 = .ok (.iinc 2 1, 3) := by decide +kernel
theorem dX12_rowPays_37 : decode cX12_rowPays 37 = .ok (.goto (-33), 3) := by decide +kernel
theorem dX12_rowPays_40 : decode cX12_rowPays 40 = .ok (.iload_n 1, 1) := by decide +kernel
theorem dX12_rowPays_41 : decode cX12_rowPays 41 = .ok (.ireturn, 1) := by decide +kernel
def zX12_rowPays_4 (G : kz_G) (d : Nat) (Qr : Option Value → kz_M → Prop) (Qx : String → kz_M → Prop) (x0 : Nat) (x1 : Int32) (x2 : Int32)  (M : kz_M) : Prop := kz_Z G d 0 0 mX12_rowPays Qr Qx 4 [(0, .ref x0), (1, .int x1), (2, .int x2)] [] M 0 0
theorem rX12_rowPays_0 {G : kz_G} {d : Nat} {Qr : Option Value → kz_M → Prop} {Qx : String → kz_M → Prop} {a0 : Nat}  {M : kz_M} (h : zX12_rowPays_4 G d Qr Qx a0 0 0 M) : kz_C G d 0 0 mX12_rowPays [.ref a0] M Qr Qx := by
  refine kz_enter (n := 0) kmX12_rowPays.1 (Nat.le_of_ble_eq_true rfl) (ls := [(0, .ref a0)]) rfl ?_
  refine kz_iconst (pc := 0) (v := 0) (by decide) dX12_rowPays_0 ?_
  refine kz_istore_n (pc := 1) (i := 1) (ls' := [(0, .ref a0)]) rfl (by decide) rfl dX12_rowPays_1 ?_
  refine kz_iconst (pc := 2) (v := 0) (by decide) dX12_rowPays_2 ?_
  refine kz_istore_n (pc := 3) (i := 2) (ls' := [(1, .int 0), (0, .ref a0)]) rfl (by decide) rfl dX12_rowPays_3 ?_
  refine kz_sub [2, 1, 0] rfl ?_
  exact h
theorem rX12_rowPays_4 {G : kz_G} {d : Nat} {Qr : Option Value → kz_M → Prop} {Qx : String → kz_M → Prop} {x0 : Nat} {x1 : Int32} {x2 : Int32}  {M : kz_M} (h : ∃ fs1 v2, (M).1 x0 = some (.inl (11, fs1)) ∧ fs1[13]? = some (.int v2) ∧ ((v2 ≤ x2 → Qr (some (.int x1)) M) ∧ (¬ v2 ≤ x2 → ∃ fs3 v4, (M).1 x0 = some (.inl (11, fs3)) ∧ fs3[16]? = some (.ref v4) ∧ (∃ n5 f6, (M).1 v4 = some (.inr (.int, n5, .inl f6)) ∧ vp_in x2 n5 ∧ ((¬ (f6 x2.toNatClampNeg) = 0 → zX12_rowPays_4 G d Qr Qx x0 (x1 + 0) (x2 + 1) M) ∧ ((f6 x2.toNatClampNeg) = 0 → ∃ fs7 v8, (M).1 x0 = some (.inl (11, fs7)) ∧ fs7[17]? = some (.ref v8) ∧ (∃ n9 f10, (M).1 v8 = some (.inr (.int, n9, .inl f10)) ∧ vp_in x2 n9 ∧ (zX12_rowPays_4 G d Qr Qx x0 (x1 + (f10 x2.toNatClampNeg)) (x2 + 1) M)))))))) : zX12_rowPays_4 G d Qr Qx x0 x1 x2  M := by
  show kz_Z G d 0 0 mX12_rowPays Qr Qx 4 [(0, .ref x0), (1, .int x1), (2, .int x2)] [] M 0 0
  refine kz_iload_n (pc := 4) 2 (i := 2) rfl rfl dX12_rowPays_4 ?_
  refine kz_aload_n (pc := 5) 0 (v := .ref x0) (i := 0) rfl rfl rfl dX12_rowPays_5 ?_
  obtain ⟨fs1, v2, hM, hv, h⟩ := h
  refine kz_getf (pc := 6) (k := 13) kcX12 hM hv (by decide) kw_1391 dX12_rowPays_6 ?_
  refine kz_icmp_ge (pc := 9) (tgt := 40) (by decide) dX12_rowPays_9 (fun hb => ?_) (fun hb => ?_)
  · replace h := h.1 hb
    refine kz_iload_n (pc := 40) 1 (i := 1) rfl rfl dX12_rowPays_40 ?_
    exact kz_iret (pc := 41) rfl (Nat.le_refl _) (Nat.le_refl _) dX12_rowPays_41 h
  · replace h := h.2 hb
    refine kz_iload_n (pc := 12) 1 (i := 1) rfl rfl dX12_rowPays_12 ?_
    refine kz_aload_n (pc := 13) 0 (v := .ref x0) (i := 0) rfl rfl rfl dX12_rowPays_13 ?_
    obtain ⟨fs3, v4, hM, hv, h⟩ := h
    refine kz_getf (pc := 14) (k := 16) kcX12 hM hv (by decide) kw_1394 dX12_rowPays_14 ?_
    refine kz_iload_n (pc := 17) 2 (i := 2) rfl rfl dX12_rowPays_17 ?_
    obtain ⟨n5, f6, hM, hi, h⟩ := h
    refine kz_iald (pc := 18) hM hi dX12_rowPays_18 ?_
    refine kz_if_ne (pc := 19) (tgt := 31) (by decide) dX12_rowPays_19 (fun hb => ?_) (fun hb => ?_)
    · replace h := h.1 hb
      refine kz_iconst (pc := 31) (v := 0) (by decide) dX12_rowPays_31 ?_
      refine kz_iadd (pc := 32) dX12_rowPays_32 ?_
      refine kz_istore_n (pc := 33) (i := 1) (ls' := [(0, .ref x0), (2, .int x2)]) rfl (by decide) rfl dX12_rowPays_33 ?_
      refine kz_iinc (pc := 34) 2 (i := 2) (v := x2 + 1) (ls' := [(1, .int (x1 + 0)), (0, .ref x0)]) rfl (congrArg (fun z => x2 + z) (by decide)) (by decide) rfl dX12_rowPays_34 ?_
      refine kz_goto (pc := 37) (tgt := 4) (by decide) dX12_rowPays_37 ?_
      refine kz_sub [2, 1, 0] rfl ?_
      exact h
    · replace h := h.2 hb
      refine kz_aload_n (pc := 22) 0 (v := .ref x0) (i := 0) rfl rfl rfl dX12_rowPays_22 ?_
      obtain ⟨fs7, v8, hM, hv, h⟩ := h
      refine kz_getf (pc := 23) (k := 17) kcX12 hM hv (by decide) kw_1395 dX12_rowPays_23 ?_
      refine kz_iload_n (pc := 26) 2 (i := 2) rfl rfl dX12_rowPays_26 ?_
      obtain ⟨n9, f10, hM, hi, h⟩ := h
      refine kz_iald (pc := 27) hM hi dX12_rowPays_27 ?_
      refine kz_goto (pc := 28) (tgt := 32) (by decide) dX12_rowPays_28 ?_
      refine kz_iadd (pc := 32) dX12_rowPays_32 ?_
      refine kz_istore_n (pc := 33) (i := 1) (ls' := [(0, .ref x0), (2, .int x2)]) rfl (by decide) rfl dX12_rowPays_33 ?_
      refine kz_iinc (pc := 34) 2 (i := 2) (v := x2 + 1) (ls' := [(1, .int (x1 + (f10 x2.toNatClampNeg))), (0, .ref x0)]) rfl (congrArg (fun z => x2 + z) (by decide)) (by decide) rfl dX12_rowPays_34 ?_
      refine kz_goto (pc := 37) (tgt := 4) (by decide) dX12_rowPays_37 ?_
      refine kz_sub [2, 1, 0] rfl ?_
      exact h
theorem dX12_rowFines_0 : decode cX12_rowFines 0 = .ok (.aload_n 0, 1) := by decide +kernel
theorem dX12_rowFines_1 : decode cX12_rowFines 1 = .ok (.iconst 3, 1) := by decide +kernel
theorem dX12_rowFines_2 : decode cX12_rowFines 2 = .ok (.invokevirtual 141, 3) := by decide +kernel
theorem dX12_rowFines_5 : decode cX12_rowFines 5 = .ok (.aload_n 0, 1) := by decide +kernel
theorem dX12_rowFines_6 : decode cX12_rowFines 6 = .ok (.getfield 134, 3) := by decide +kernel
theorem dX12_rowFines_9 : decode cX12_rowFines 9 = .ok (.aload_n 0, 1) := by decide +kernel
theorem dX12_rowFines_10 : decode cX12_rowFines 10 = .ok (.invokevirtual 170, 3) := by decide +kernel
theorem dX12_rowFines_13 : decode cX12_rowFines 13 = .ok (.isub, 1) := by decide +kernel
theorem dX12_rowFines_14 : decode cX12_rowFines 14 = .ok (.imul, 1) := by decide +kernel
theorem dX12_rowFines_15 : decode cX12_rowFines 15 = .ok (.ireturn, 1) := by decide +kernel
theorem rX12_rowFines_0 {G : kz_G} {d : Nat} {Qr : Option Value → kz_M → Prop} {Qx : String → kz_M → Prop} {a0 : Nat}  {M : kz_M} (h : (∃ fs10, (M).1 a0 = some (.inl (11, fs10))) ∧ kz_C G (d + 0) 0 0 mX12_its [.ref a0, .int 3] M (fun v M1 => ∃ r2 : Int32, v = some (.int r2) ∧ (∃ fs4 v5, (M1).1 a0 = some (.inl (11, fs4)) ∧ fs4[13]? = some (.int v5) ∧ ((∃ fs9, (M1).1 a0 = some (.inl (11, fs9))) ∧ kz_C G (d + 0) 0 0 mX12_rowCounting [.ref a0] M1 (fun v M6 => ∃ r7 : Int32, v = some (.int r7) ∧ (Qr (some (.int (r2 * (v5 - r7)))) M6)) Qx))) Qx) : kz_C G (d + 1) 0 0 mX12_rowFines [.ref a0] M Qr Qx := by
  refine kz_enter (n := 0) kmX12_rowFines.1 (Nat.le_of_ble_eq_true rfl) (ls := [(0, .ref a0)]) rfl ?_
  refine kz_aload_n (pc := 0) 0 (v := .ref a0) (i := 0) rfl rfl rfl dX12_rowFines_0 ?_
  refine kz_iconst (pc := 1) (v := 3) (by decide) dX12_rowFines_1 ?_
  obtain ⟨⟨fs10, he⟩, h⟩ := h
  refine kz_callV (pc := 2) (μ' := mX12_its) (ci := 11) (q := (RX12, TX12, 32)) (b := a0) (d' := d + 0) (mc' := 0) (ms' := 0) (As := [.int 3]) (st := []) (c := 0) (sl := 0) kmX12_its kw_1657 (by omega) rfl (Nat.le_of_ble_eq_true rfl) he rfl rfl (Nat.le_refl _) (Nat.le_refl _) dX12_rowFines_2 (fun E M9 hx => kz_Tout rfl (Nat.le_refl _) (Nat.le_refl _) hx) (kz_Cmono (fun v M1 h => ?_) (fun _ _ h => h) h)
  obtain ⟨r2, rfl, h⟩ := h
  show kz_Z G (d + 1) 0 0 mX12_rowFines Qr Qx 5 [(0, .ref a0)] [.int r2] M1 0 0
  refine kz_aload_n (pc := 5) 0 (v := .ref a0) (i := 0) rfl rfl rfl dX12_rowFines_5 ?_
  obtain ⟨fs4, v5, hM, hv, h⟩ := h
  refine kz_getf (pc := 6) (k := 13) kcX12 hM hv (by decide) kw_1391 dX12_rowFines_6 ?_
  refine kz_aload_n (pc := 9) 0 (v := .ref a0) (i := 0) rfl rfl rfl dX12_rowFines_9 ?_
  obtain ⟨⟨fs9, he⟩, h⟩ := h
  refine kz_callV (pc := 10) (μ' := mX12_rowCounting) (ci := 11) (q := (RX12, TX12, 32)) (b := a0) (d' := d + 0) (mc' := 0) (ms' := 0) (As := []) (st := [.int v5, .int r2]) (c := 0) (sl := 0) kmX12_rowCounting kw_1888 (by omega) rfl (Nat.le_of_ble_eq_true rfl) he rfl rfl (Nat.le_refl _) (Nat.le_refl _) dX12_rowFines_10 (fun E M9 hx => kz_Tout rfl (Nat.le_refl _) (Nat.le_refl _) hx) (kz_Cmono (fun v M6 h => ?_) (fun _ _ h => h) h)
  obtain ⟨r7, rfl, h⟩ := h
  show kz_Z G (d + 1) 0 0 mX12_rowFines Qr Qx 13 [(0, .ref a0)] [.int r7, .int v5, .int r2] M6 0 0
  refine kz_isub (pc := 13) dX12_rowFines_13 ?_
  refine kz_imul (pc := 14) dX12_rowFines_14 ?_
  exact kz_iret (pc := 15) rfl (Nat.le_refl _) (Nat.le_refl _) dX12_rowFines_15 h
theorem dX12_isLetter_0 : decode cX12_isLetter 0 = .ok (.iload_n 0, 1) := by decide +kernel
theorem dX12_isLetter_1 : decode cX12_isLetter 1 = .ok (.bipush 97, 2) := by decide +kernel
theorem dX12_isLetter_3 : decode cX12_isLetter 3 = .ok (.bipush 122, 2) := by decide +kernel
theorem dX12_isLetter_5 : decode cX12_isLetter 5 = .ok (.invokestatic 67, 3) := by decide +kernel
theorem dX12_isLetter_8 : decode cX12_isLetter 8 = .ok (.ireturn, 1) := by decide +kernel
theorem rX12_isLetter_0 {G : kz_G} {d : Nat} {Qr : Option Value → kz_M → Prop} {Qx : String → kz_M → Prop} {p0 : Int32}  {M : kz_M} (h : kz_C G (d + 0) 0 0 mX12_inRange [.int p0, .int 97, .int 122] M (fun v M1 => ∃ r2 : Int32, v = some (.int r2) ∧ (narrow .boolean (.int r2) = .int r2 ∧ Qr (some (.int r2)) M1)) Qx) : kz_C G (d + 1) 0 0 mX12_isLetter [.int p0] M Qr Qx := by
  refine kz_enter (n := 1) kmX12_isLetter.1 (Nat.le_of_ble_eq_true rfl) (ls := [(0, .int p0)]) rfl ?_
  refine kz_iload_n (pc := 0) 0 (i := 0) rfl rfl dX12_isLetter_0 ?_
  refine kz_bipush (pc := 1) (v := 97) (by decide) dX12_isLetter_1 ?_
  refine kz_bipush (pc := 3) (v := 122) (by decide) dX12_isLetter_3 ?_
  refine kz_callS (pc := 5) (μ' := mX12_inRange) (d' := d + 0) (mc' := 0) (ms' := 0) (As := [.int p0, .int 97, .int 122]) (st := []) (c := 0) (sl := 0) kmX12_inRange kw_1491 (by omega) rfl (Nat.le_of_ble_eq_true rfl) (Nat.le_refl _) (Nat.le_refl _) dX12_isLetter_5 (fun E M9 hx => kz_Tout rfl (Nat.le_refl _) (Nat.le_refl _) hx) (kz_Cmono (fun v M1 h => ?_) (fun _ _ h => h) h)
  obtain ⟨r2, rfl, h⟩ := h
  show kz_Z G (d + 1) 0 0 mX12_isLetter Qr Qx 8 [(0, .int p0)] [.int r2] M1 0 0
  exact kz_zret (pc := 8) (ty := .boolean) rfl h.1 (Nat.le_refl _) (Nat.le_refl _) dX12_isLetter_8 h.2
theorem dX12_readsRow_0 : decode cX12_readsRow 0 = .ok (.aload_n 0, 1) := by decide +kernel
theorem dX12_readsRow_1 : decode cX12_readsRow 1 = .ok (.iconst 0, 1) := by decide +kernel
theorem dX12_readsRow_2 : decode cX12_readsRow 2 = .ok (.putfield 127, 3) := by decide +kernel
theorem dX12_readsRow_5 : decode cX12_readsRow 5 = .ok (.aload_n 0, 1) := by decide +kernel
theorem dX12_readsRow_6 : decode cX12_readsRow 6 = .ok (.lconst 0, 1) := by decide +kernel
theorem dX12_readsRow_7 : decode cX12_readsRow 7 = .ok (.putfield 130, 3) := by decide +kernel
theorem dX12_readsRow_10 : decode cX12_readsRow 10 = .ok (.iconst 0, 1) := by decide +kernel
theorem dX12_readsRow_11 : decode cX12_readsRow 11 = .ok (.istore_n 3, 1) := by decide +kernel
theorem dX12_readsRow_12 : decode cX12_readsRow 12 = .ok (.iconst 0, 1) := by decide +kernel
theorem dX12_readsRow_13 : decode cX12_readsRow 13 = .ok (.istore 4, 2) := by decide +kernel
theorem dX12_readsRow_15 : decode cX12_readsRow 15 = .ok (.iload 4, 2) := by decide +kernel
theorem dX12_readsRow_17 : decode cX12_readsRow 17 = .ok (.iload_n 2, 1) := by decide +kernel
theorem dX12_readsRow_18 : decode cX12_readsRow 18 = .ok (.if_icmp .ge 201, 3) := by decide +kernel
theorem dX12_readsRow_21 : decode cX12_readsRow 21 = .ok (.aload_n 0, 1) := by decide +kernel
theorem dX12_readsRow_22 : decode cX12_readsRow 22 = .ok (.getfield 47, 3) := by decide +kernel
theorem dX12_readsRow_25 : decode cX12_readsRow 25 = .ok (.iload 4, 2) := by decide +kernel
theorem dX12_readsRow_27 : decode cX12_readsRow 27 = .ok (.iaload, 1) := by decide +kernel
theorem dX12_readsRow_28 : decode cX12_readsRow 28 = .ok (.istore 5, 2) := by decide +kernel
theorem dX12_readsRow_30 : decode cX12_readsRow 30 = .ok (.iload 5, 2) := by decide +kernel
theorem dX12_readsRow_32 : decode cX12_readsRow 32 = .ok (.invokestatic 174, 3) := by decide +kernel
theorem dX12_readsRow_35 : decode cX12_readsRow 35 = .ok (.ifCond .eq 133, 3) := by decide +kernel
theorem dX12_readsRow_38 : decode cX12_readsRow 38 = .ok (.iload 4, 2) := by decide +kernel
theorem dX12_readsRow_40 : decode cX12_readsRow 40 = .ok (.istore 6, 2) := by decide +kernel
theorem dX12_readsRow_42 : decode cX12_readsRow 42 = .ok (.lconst 0, 1) := by decide +kernel
theorem dX12_readsRow_43 : decode cX12_readsRow 43 = .ok (.lstore 7, 2) := by decide +kernel
theorem dX12_readsRow_45 : decode cX12_readsRow 45 = .ok (.iload 6, 2) := by decide +kernel
theorem dX12_readsRow_47 : decode cX12_readsRow 47 = .ok (.iload_n 2, 1) := by decide +kernel
theorem dX12_readsRow_48 : decode cX12_readsRow 48 = .ok (.if_icmp .ge 50, 3) := by decide +kernel
theorem dX12_readsRow_51 : decode cX12_readsRow 51 = .ok (.aload_n 0, 1) := by decide +kernel
theorem dX12_readsRow_52 : decode cX12_readsRow 52 = .ok (.getfield 47, 3) := by decide +kernel
theorem dX12_readsRow_55 : decode cX12_readsRow 55 = .ok (.iload 6, 2) := by decide +kernel
theorem dX12_readsRow_57 : decode cX12_readsRow 57 = .ok (.iaload, 1) := by decide +kernel
theorem dX12_readsRow_58 : decode cX12_readsRow 58 = .ok (.invokestatic 174, 3) := by decide +kernel
theorem dX12_readsRow_61 : decode cX12_readsRow 61 = .ok (.ifCond .eq 37, 3) := by decide +kernel
theorem dX12_readsRow_64 : decode cX12_readsRow 64 = .ok (.iload 6, 2) := by decide +kernel
theorem dX12_readsRow_66 : decode cX12_readsRow 66 = .ok (.iload 4, 2) := by decide +kernel
theorem dX12_readsRow_68 : decode cX12_readsRow 68 = .ok (.isub, 1) := by decide +kernel
theorem dX12_readsRow_69 : decode cX12_readsRow 69 = .ok (.bipush 12, 2) := by decide +kernel
theorem dX12_readsRow_71 : decode cX12_readsRow 71 = .ok (.if_icmp .ge 21, 3) := by decide +kernel
theorem dX12_readsRow_74 : decode cX12_readsRow 74 = .ok (.lload 7, 2) := by decide +kernel
theorem dX12_readsRow_76 : decode cX12_readsRow 76 = .ok (.iconst 5, 1) := by decide +kernel
theorem dX12_readsRow_77 : decode cX12_readsRow 77 = .ok (.lshl, 1) := by decide +kernel
theorem dX12_readsRow_78 : decode cX12_readsRow 78 = .ok (.aload_n 0, 1) := by decide +kernel
theorem dX12_readsRow_79 : decode cX12_readsRow 79 = .ok (.getfield 47, 3) := by decide +kernel
theorem dX12_readsRow_82 : decode cX12_readsRow 82 = .ok (.iload 6, 2) := by decide +kernel
theorem dX12_readsRow_84 : decode cX12_readsRow 84 = .ok (.iaload, 1) := by decide +kernel
theorem dX12_readsRow_85 : decode cX12_readsRow 85 = .ok (.bipush 96, 2) := by decide +kernel
theorem dX12_readsRow_87 : decode cX12_readsRow 87 = .ok (.isub, 1) := by decide +kernel
theorem dX12_readsRow_88 : decode cX12_readsRow 88 = .ok (.i2l, 1) := by decide +kernel
theorem dX12_readsRow_89 : decode cX12_readsRow 89 = .ok (.lor, 1) := by decide +kernel
theorem dX12_readsRow_90 : decode cX12_readsRow 90 = .ok (.lstore 7, 2) := by decide +kernel
theorem dX12_readsRow_92 : decode cX12_readsRow 92 = .ok (.iinc 6 1, 3) := by decide +kernel
theorem dX12_readsRow_95 : decode cX12_readsRow 95 = .ok (.goto (-50), 3) := by decide +kernel
theorem dX12_readsRow_98 : decode cX12_readsRow 98 = .ok (.iload 6, 2) := by decide +kernel
theorem dX12_readsRow_100 : decode cX12_readsRow 100 = .ok (.iload 4, 2) := by decide +kernel
theorem dX12_readsRow_102 : decode cX12_readsRow 102 = .ok (.isub, 1) := by decide +kernel
theorem dX12_readsRow_103 : decode cX12_readsRow 103 = .ok (.bipush 12, 2) := by decide +kernel
theorem dX12_readsRow_105 : decode cX12_readsRow 105 = .ok (.if_icmp .gt 12, 3) := by decide +kernel
theorem dX12_readsRow_108 : decode cX12_readsRow 108 = .ok (.aload_n 0, 1) := by decide +kernel
theorem dX12_readsRow_109 : decode cX12_readsRow 109 = .ok (.getfield 127, 3) := by decide +kernel
theorem dX12_readsRow_112 : decode cX12_readsRow 112 = .ok (.bipush 60, 2) := by decide +kernel
theorem dX12_readsRow_114 : decode cX12_readsRow 114 = .ok (.if_icmp .ne 5, 3) := by decide +kernel
theorem dX12_readsRow_117 : decode cX12_readsRow 117 = .ok (.iconst 0, 1) := by decide +kernel
theorem dX12_readsRow_118 : decode cX12_readsRow 118 = .ok (.ireturn, 1) := by decide +kernel
theorem dX12_readsRow_119 : decode cX12_readsRow 119 = .ok (.aload_n 0, 1) := by decide +kernel
theorem dX12_readsRow_120 : decode cX12_readsRow 120 = .ok (.getfield 32, 3) := by decide +kernel
theorem dX12_readsRow_123 : decode cX12_readsRow 123 = .ok (.aload_n 0, 1) := by decide +kernel
theorem dX12_readsRow_124 : decode cX12_readsRow 124 = .ok (.getfield 127, 3) := by decide +kernel
theorem dX12_readsRow_127 : decode cX12_readsRow 127 = .ok (.lload 7, 2) := by decide +kernel
theorem dX12_readsRow_129 : decode cX12_readsRow 129 = .ok (.lastore, 1) := by decide +kernel
theorem dX12_readsRow_130 : decode cX12_readsRow 130 = .ok (.iload_n 3, 1) := by decide +kernel
theorem dX12_readsRow_131 : decode cX12_readsRow 131 = .ok (.ifCond .eq 18, 3) := by decide +kernel
theorem dX12_readsRow_134 : decode cX12_readsRow 134 = .ok (.aload_n 0, 1) := by decide +kernel
theorem dX12_readsRow_135 : decode cX12_readsRow 135 = .ok (.dup, 1) := by decide +kernel
theorem dX12_readsRow_136 : decode cX12_readsRow 136 = .ok (.getfield 130, 3) := by decide +kernel
theorem dX12_readsRow_139 : decode cX12_readsRow 139 = .ok (.lconst 1, 1) := by decide +kernel
theorem dX12_readsRow_140 : decode cX12_readsRow 140 = .ok (.aload_n 0, 1) := by decide +kernel
theorem dX12_readsRow_141 : decode cX12_readsRow 141 = .ok (.getfield 127, 3) := by decide +kernel
theorem dX12_readsRow_144 : decode cX12_readsRow 144 = .ok (.lshl, 1) := by decide +kernel
theorem dX12_readsRow_145 : decode cX12_readsRow 145 = .ok (.lor, 1) := by decide +kernel
theorem dX12_readsRow_146 : decode cX12_readsRow 146 = .ok (.putfield 130, 3) := by decide +kernel
theorem dX12_readsRow_149 : decode cX12_readsRow 149 = .ok (.iconst 0, 1) := by decide +kernel
theorem dX12_readsRow_150 : decode cX12_readsRow 150 = .ok (.istore_n 3, 1) := by decide +kernel
theorem dX12_readsRow_151 : decode cX12_readsRow 151 = .ok (.aload_n 0, 1) := by decide +kernel
theorem dX12_readsRow_152 : decode cX12_readsRow 152 = .ok (.dup, 1) := by decide +kernel
theorem dX12_readsRow_153 : decode cX12_readsRow 153 = .ok (.getfield 127, 3) := by decide +kernel
theorem dX12_readsRow_156 : decode cX12_readsRow 156 = .ok (.iconst 1, 1) := by decide +kernel
theorem dX12_readsRow_157 : decode cX12_readsRow 157 = .ok (.iadd, 1) := by decide +kernel
theorem dX12_readsRow_158 : decode cX12_readsRow 158 = .ok (.putfield 127, 3) := by decide +kernel
theorem dX12_readsRow_161 : decode cX12_readsRow 161 = .ok (.iload 6, 2) := by decide +kernel
theorem dX12_readsRow_163 : decode cX12_readsRow 163 = .ok (.istore 4, 2) := by decide +kernel
theorem dX12_readsRow_165 : decode cX12_readsRow 165 = .ok (.goto 51, 3) := by decide +kernel
theorem dX12_readsRow_168 : decode cX12_readsRow 168 = .ok (.iload 5, 2) := by decide +kernel
theorem dX12_readsRow_170 : decode cX12_readsRow 170 = .ok (.bipush 32, 2) := by decide +kernel
theorem dX12_readsRow_172 : decode cX12_readsRow 172 = .ok (.if_icmp .eq 24, 3) := by decide +kernel
theorem dX12_readsRow_175 : decode cX12_readsRow 175 = .ok (.iload 5, 2) := by decide +kernel
theorem dX12_readsRow_177 : decode cX12_readsRow 177 = .ok (.bipush 10, 2) := by decide +kernel
theorem dX12_readsRow_179 : decode cX12_readsRow 179 = .ok (.if_icmp .eq 17, 3) := by decide +kernel
theorem dX12_readsRow_182 : decode cX12_readsRow 182 = .ok (.iload 5, 2) := by decide +kernel
theorem dX12_readsRow_184 : decode cX12_readsRow 184 = .ok (.bipush 47, 2) := by decide +kernel
theorem dX12_readsRow_186 : decode cX12_readsRow 186 = .ok (.if_icmp .ne 8, 3) := by decide +kernel
theorem dX12_readsRow_189 : decode cX12_readsRow 189 = .ok (.iload_n 1, 1) := by decide +kernel
theorem dX12_readsRow_190 : decode cX12_readsRow 190 = .ok (.iconst 1, 1) := by decide +kernel
theorem dX12_readsRow_191 : decode cX12_readsRow 191 = .ok (.if_icmp .eq 5, 3) := by decide +kernel
theorem dX12_readsRow_194 : decode cX12_readsRow 194 = .ok (.iconst 0, 1) := by decide +kernel
theorem dX12_readsRow_195 : decode cX12_readsRow 195 = .ok (.ireturn, 1) := by decide +kernel
theorem dX12_readsRow_196 : decode cX12_readsRow 196 = .ok (.iload_n 3, 1) := by decide +kernel
theorem dX12_readsRow_197 : decode cX12_readsRow 197 = .ok (.ifCond .ne 10, 3) := by decide +kernel
theorem dX12_readsRow_200 : decode cX12_readsRow 200 = .ok (.iload 5, 2) := by decide +kernel
theorem dX12_readsRow_202 : decode cX12_readsRow 202 = .ok (.bipush 47, 2) := by decide +kernel
theorem dX12_readsRow_204 : decode cX12_readsRow 204 = .ok (.if_icmp .ne 7, 3) := by decide +kernel
theorem dX12_readsRow_207 : decode cX12_readsRow 207 = .ok (.iconst 1, 1) := by decide +kernel
theorem dX12_readsRow_208 : decode cX12_readsRow 208 = .ok (.goto 4, 3) := by decide +kernel
theorem dX12_readsRow_211 : decode cX12_readsRow 211 = .ok (.iconst 0, 1) := by decide +kernel
theorem dX12_readsRow_212 : decode cX12_readsRow 212 = .ok (.istore_n 3, 1) := by decide +kernel
theorem dX12_readsRow_213 : decode cX12_readsRow 213 = .ok (.iinc 4 1, 3) := by decide +kernel
theorem dX12_readsRow_216 : decode cX12_readsRow 216 = .ok (.goto (-201), 3) := by decide +kernel
theorem dX12_readsRow_219 : decode cX12_readsRow 219 = .ok (.aload_n 0, 1) := by decide +kernel
theorem dX12_readsRow_220 : decode cX12_readsRow 220 = .ok (.getfield 127, 3) := by decide +kernel
theorem dX12_readsRow_223 : decode cX12_readsRow 223 = .ok (.ifCond .le 7, 3) := by decide +kernel
theorem dX12_readsRow_226 : decode cX12_readsRow 226 = .ok (.iconst 1, 1) := by decide +kernel
theorem dX12_readsRow_227 : decode cX12_readsRow 227 = .ok (.goto 4, 3) := by decide +kernel
theorem dX12_readsRow_230 : decode cX12_readsRow 230 = .ok (.iconst 0, 1) := by decide +kernel
theorem dX12_readsRow_231 : decode cX12_readsRow 231 = .ok (.ireturn, 1) := by decide +kernel
def zX12_readsRow_15 (G : kz_G) (d : Nat) (Qr : Option Value → kz_M → Prop) (Qx : String → kz_M → Prop) (x0 : Nat) (x1 : Int32) (x2 : Int32) (x3 : Int32) (x4 : Int32)  (M : kz_M) : Prop := kz_Z G (d + 2) 0 0 mX12_readsRow Qr Qx 15 [(0, .ref x0), (1, .int x1), (2, .int x2), (3, .int x3), (4, .int x4)] [] M 0 0
def zX12_readsRow_45 (G : kz_G) (d : Nat) (Qr : Option Value → kz_M → Prop) (Qx : String → kz_M → Prop) (x0 : Nat) (x1 : Int32) (x2 : Int32) (x3 : Int32) (x4 : Int32) (x6 : Int32) (x7 : Int64)  (M : kz_M) : Prop := kz_Z G (d + 2) 0 0 mX12_readsRow Qr Qx 45 [(0, .ref x0), (1, .int x1), (2, .int x2), (3, .int x3), (4, .int x4), (6, .int x6), (7, .long x7)] [] M 0 0
theorem rX12_readsRow_0 {G : kz_G} {d : Nat} {Qr : Option Value → kz_M → Prop} {Qx : String → kz_M → Prop} {a0 : Nat} {p1 : Int32} {p2 : Int32}  {M : kz_M} (h : ∃ fs1, (M).1 a0 = some (.inl (11, fs1)) ∧ 12 < fs1.length ∧ (∃ fs2, ((kz_up M a0 (.inl (11, fs1.set 12 (.int 0))))).1 a0 = some (.inl (11, fs2)) ∧ 11 < fs2.length ∧ (zX12_readsRow_15 G d Qr Qx a0 p1 p2 0 0 (kz_up (kz_up M a0 (.inl (11, fs1.set 12 (.int 0)))) a0 (.inl (11, fs2.set 11 (.long 0))))))) : kz_C G (d + 2) 0 0 mX12_readsRow [.ref a0, .int p1, .int p2] M Qr Qx := by
  refine kz_enter (n := 2) kmX12_readsRow.1 (Nat.le_of_ble_eq_true rfl) (ls := [(0, .ref a0), (1, .int p1), (2, .int p2)]) rfl ?_
  refine kz_aload_n (pc := 0) 0 (v := .ref a0) (i := 0) rfl rfl rfl dX12_readsRow_0 ?_
  refine kz_iconst (pc := 1) (v := 0) (by decide) dX12_readsRow_1 ?_
  obtain ⟨fs1, hM, hlen, h⟩ := h
  refine kz_putf (pc := 2) (k := 12) kcX12 hM (by decide) hlen kw_1390 rfl rfl rfl dX12_readsRow_2 ?_
  refine kz_aload_n (pc := 5) 0 (v := .ref a0) (i := 0) rfl rfl rfl dX12_readsRow_5 ?_
  refine kz_lconst (pc := 6) (v := 0) (by decide) dX12_readsRow_6 ?_
  obtain ⟨fs2, hM, hlen, h⟩ := h
  refine kz_putf (pc := 7) (k := 11) kcX12 hM (by decide) hlen kw_1389 rfl rfl rfl dX12_readsRow_7 ?_
  refine kz_iconst (pc := 10) (v := 0) (by decide) dX12_readsRow_10 ?_
  refine kz_istore_n (pc := 11) (i := 3) (ls' := [(0, .ref a0), (1, .int p1), (2, .int p2)]) rfl (by decide) rfl dX12_readsRow_11 ?_
  refine kz_iconst (pc := 12) (v := 0) (by decide) dX12_readsRow_12 ?_
  refine kz_istore (pc := 13) (i := 4) (ls' := [(3, .int 0), (0, .ref a0), (1, .int p1), (2, .int p2)]) (by decide) rfl dX12_readsRow_13 ?_
  refine kz_sub [2, 3, 4, 1, 0] rfl ?_
  exact h
theorem rX12_readsRow_15 {G : kz_G} {d : Nat} {Qr : Option Value → kz_M → Prop} {Qx : String → kz_M → Prop} {x0 : Nat} {x1 : Int32} {x2 : Int32} {x3 : Int32} {x4 : Int32}  {M : kz_M} (h : (x2 ≤ x4 → ∃ fs1 v2, (M).1 x0 = some (.inl (11, fs1)) ∧ fs1[12]? = some (.int v2) ∧ ((v2 ≤ 0 → Qr (some (.int 0)) M) ∧ (¬ v2 ≤ 0 → Qr (some (.int 1)) M))) ∧ (¬ x2 ≤ x4 → ∃ fs3 v4, (M).1 x0 = some (.inl (11, fs3)) ∧ fs3[18]? = some (.ref v4) ∧ (∃ n5 f6, (M).1 v4 = some (.inr (.int, n5, .inl f6)) ∧ vp_in x4 n5 ∧ (kz_C G (d + 1) 0 0 mX12_isLetter [.int (f6 x4.toNatClampNeg)] M (fun v M7 => ∃ r8 : Int32, v = some (.int r8) ∧ ((r8 = 0 → ((f6 x4.toNatClampNeg) = (32 : Int32) → (¬ x3 = 0 → zX12_readsRow_15 G d Qr Qx x0 x1 x2 1 (x4 + 1) M7) ∧ (x3 = 0 → (¬ (f6 x4.toNatClampNeg) = (47 : Int32) → zX12_readsRow_15 G d Qr Qx x0 x1 x2 0 (x4 + 1) M7) ∧ ((f6 x4.toNatClampNeg) = (47 : Int32) → zX12_readsRow_15 G d Qr Qx x0 x1 x2 1 (x4 + 1) M7))) ∧ (¬ (f6 x4.toNatClampNeg) = (32 : Int32) → ((f6 x4.toNatClampNeg) = (10 : Int32) → (¬ x3 = 0 → zX12_readsRow_15 G d Qr Qx x0 x1 x2 1 (x4 + 1) M7) ∧ (x3 = 0 → (¬ (f6 x4.toNatClampNeg) = (47 : Int32) → zX12_readsRow_15 G d Qr Qx x0 x1 x2 0 (x4 + 1) M7) ∧ ((f6 x4.toNatClampNeg) = (47 : Int32) → zX12_readsRow_15 G d Qr Qx x0 x1 x2 1 (x4 + 1) M7))) ∧ (¬ (f6 x4.toNatClampNeg) = (10 : Int32) → (¬ (f6 x4.toNatClampNeg) = (47 : Int32) → Qr (some (.int 0)) M7) ∧ ((f6 x4.toNatClampNeg) = (47 : Int32) → (x1 = (1 : Int32) → (¬ x3 = 0 → zX12_readsRow_15 G d Qr Qx x0 x1 x2 1 (x4 + 1) M7) ∧ (x3 = 0 → (¬ (f6 x4.toNatClampNeg) = (47 : Int32) → zX12_readsRow_15 G d Qr Qx x0 x1 x2 0 (x4 + 1) M7) ∧ ((f6 x4.toNatClampNeg) = (47 : Int32) → zX12_readsRow_15 G d Qr Qx x0 x1 x2 1 (x4 + 1) M7))) ∧ (¬ x1 = (1 : Int32) → Qr (some (.int 0)) M7))))) ∧ (¬ r8 = 0 → zX12_readsRow_45 G d Qr Qx x0 x1 x2 x3 x4 x4 0 M7))) Qx)))) : zX12_readsRow_15 G d Qr Qx x0 x1 x2 x3 x4  M := by
  show kz_Z G (d + 2) 0 0 mX12_readsRow Qr Qx 15 [(0, .ref x0), (1, .int x1), (2, .int x2), (3, .int x3), (4, .int x4)] [] M 0 0
  refine kz_iload (pc := 15) 4 (i := 4) rfl dX12_readsRow_15 ?_
  refine kz_iload_n (pc := 17) 2 (i := 2) rfl rfl dX12_readsRow_17 ?_
  refine kz_icmp_ge (pc := 18) (tgt := 219) (by decide) dX12_readsRow_18 (fun hb => ?_) (fun hb => ?_)
  · replace h := h.1 hb
    refine kz_aload_n (pc := 219) 0 (v := .ref x0) (i := 0) rfl rfl rfl dX12_readsRow_219 ?_
    obtain ⟨fs1, v2, hM, hv, h⟩ := h
    refine kz_getf (pc := 220) (k := 12) kcX12 hM hv (by decide) kw_1390 dX12_readsRow_220 ?_
    refine kz_if_le (pc := 223) (tgt := 230) (by decide) dX12_readsRow_223 (fun hb => ?_) (fun hb => ?_)
    · replace h := h.1 hb
      refine kz_iconst (pc := 230) (v := 0) (by decide) dX12_readsRow_230 ?_
      exact kz_zret (pc := 231) (ty := .boolean) rfl (by decide) (Nat.le_refl _) (Nat.le_refl _) dX12_readsRow_231 h
    · replace h := h.2 hb
      refine kz_iconst (pc := 226) (v := 1) (by decide) dX12_readsRow_226 ?_
      refine kz_goto (pc := 227) (tgt := 231) (by decide) dX12_readsRow_227 ?_
      exact kz_zret (pc := 231) (ty := .boolean) rfl (by decide) (Nat.le_refl _) (Nat.le_refl _) dX12_readsRow_231 h
  · replace h := h.2 hb
    refine kz_aload_n (pc := 21) 0 (v := .ref x0) (i := 0) rfl rfl rfl dX12_readsRow_21 ?_
    obtain ⟨fs3, v4, hM, hv, h⟩ := h
    refine kz_getf (pc := 22) (k := 18) kcX12 hM hv (by decide) kw_1396 dX12_readsRow_22 ?_
    refine kz_iload (pc := 25) 4 (i := 4) rfl dX12_readsRow_25 ?_
    obtain ⟨n5, f6, hM, hi, h⟩ := h
    refine kz_iald (pc := 27) hM hi dX12_readsRow_27 ?_
    refine kz_istore (pc := 28) (i := 5) (ls' := [(0, .ref x0), (1, .int x1), (2, .int x2), (3, .int x3), (4, .int x4)]) (by decide) rfl dX12_readsRow_28 ?_
    refine kz_iload (pc := 30) 0 (i := 5) rfl dX12_readsRow_30 ?_
    refine kz_callS (pc := 32) (μ' := mX12_isLetter) (d' := d + 1) (mc' := 0) (ms' := 0) (As := [.int (f6 x4.toNatClampNeg)]) (st := []) (c := 0) (sl := 0) kmX12_isLetter kw_1509 (by omega) rfl (Nat.le_of_ble_eq_true rfl) (Nat.le_refl _) (Nat.le_refl _) dX12_readsRow_32 (fun E M9 hx => kz_Tout rfl (Nat.le_refl _) (Nat.le_refl _) hx) (kz_Cmono (fun v M7 h => ?_) (fun _ _ h => h) h)
    obtain ⟨r8, rfl, h⟩ := h
    show kz_Z G (d + 2) 0 0 mX12_readsRow Qr Qx 35 [(5, .int (f6 x4.toNatClampNeg)), (0, .ref x0), (1, .int x1), (2, .int x2), (3, .int x3), (4, .int x4)] [.int r8] M7 0 0
    refine kz_if_eq (pc := 35) (tgt := 168) (by decide) dX12_readsRow_35 (fun hb => ?_) (fun hb => ?_)
    · replace h := h.1 hb
      refine kz_iload (pc := 168) 0 (i := 5) rfl dX12_readsRow_168 ?_
      refine kz_bipush (pc := 170) (v := 32) (by decide) dX12_readsRow_170 ?_
      refine kz_icmp_eq (pc := 172) (tgt := 196) (by decide) dX12_readsRow_172 (fun hb => ?_) (fun hb => ?_)
      · replace h := h.1 hb
        refine kz_iload_n (pc := 196) 4 (i := 3) rfl rfl dX12_readsRow_196 ?_
        refine kz_if_ne (pc := 197) (tgt := 207) (by decide) dX12_readsRow_197 (fun hb => ?_) (fun hb => ?_)
        · replace h := h.1 hb
          refine kz_iconst (pc := 207) (v := 1) (by decide) dX12_readsRow_207 ?_
          refine kz_goto (pc := 208) (tgt := 212) (by decide) dX12_readsRow_208 ?_
          refine kz_istore_n (pc := 212) (i := 3) (ls' := [(5, .int (f6 x4.toNatClampNeg)), (0, .ref x0), (1, .int x1), (2, .int x2), (4, .int x4)]) rfl (by decide) rfl dX12_readsRow_212 ?_
          refine kz_iinc (pc := 213) 5 (i := 4) (v := x4 + 1) (ls' := [(3, .int 1), (5, .int (f6 x4.toNatClampNeg)), (0, .ref x0), (1, .int x1), (2, .int x2)]) rfl (congrArg (fun z => x4 + z) (by decide)) (by decide) rfl dX12_readsRow_213 ?_
          refine kz_goto (pc := 216) (tgt := 15) (by decide) dX12_readsRow_216 ?_
          refine kz_sub [3, 4, 5, 1, 0] rfl ?_
          exact h
        · replace h := h.2 hb
          refine kz_iload (pc := 200) 0 (i := 5) rfl dX12_readsRow_200 ?_
          refine kz_bipush (pc := 202) (v := 47) (by decide) dX12_readsRow_202 ?_
          refine kz_icmp_ne (pc := 204) (tgt := 211) (by decide) dX12_readsRow_204 (fun hb => ?_) (fun hb => ?_)
          · replace h := h.1 hb
            refine kz_iconst (pc := 211) (v := 0) (by decide) dX12_readsRow_211 ?_
            refine kz_istore_n (pc := 212) (i := 3) (ls' := [(5, .int (f6 x4.toNatClampNeg)), (0, .ref x0), (1, .int x1), (2, .int x2), (4, .int x4)]) rfl (by decide) rfl dX12_readsRow_212 ?_
            refine kz_iinc (pc := 213) 5 (i := 4) (v := x4 + 1) (ls' := [(3, .int 0), (5, .int (f6 x4.toNatClampNeg)), (0, .ref x0), (1, .int x1), (2, .int x2)]) rfl (congrArg (fun z => x4 + z) (by decide)) (by decide) rfl dX12_readsRow_213 ?_
            refine kz_goto (pc := 216) (tgt := 15) (by decide) dX12_readsRow_216 ?_
            refine kz_sub [3, 4, 5, 1, 0] rfl ?_
            exact h
          · replace h := h.2 hb
            refine kz_iconst (pc := 207) (v := 1) (by decide) dX12_readsRow_207 ?_
            refine kz_goto (pc := 208) (tgt := 212) (by decide) dX12_readsRow_208 ?_
            refine kz_istore_n (pc := 212) (i := 3) (ls' := [(5, .int (f6 x4.toNatClampNeg)), (0, .ref x0), (1, .int x1), (2, .int x2), (4, .int x4)]) rfl (by decide) rfl dX12_readsRow_212 ?_
            refine kz_iinc (pc := 213) 5 (i := 4) (v := x4 + 1) (ls' := [(3, .int 1), (5, .int (f6 x4.toNatClampNeg)), (0, .ref x0), (1, .int x1), (2, .int x2)]) rfl (congrArg (fun z => x4 + z) (by decide)) (by decide) rfl dX12_readsRow_213 ?_
            refine kz_goto (pc := 216) (tgt := 15) (by decide) dX12_readsRow_216 ?_
            refine kz_sub [3, 4, 5, 1, 0] rfl ?_
            exact h
      · replace h := h.2 hb
        refine kz_iload (pc := 175) 0 (i := 5) rfl dX12_readsRow_175 ?_
        refine kz_bipush (pc := 177) (v := 10) (by decide) dX12_readsRow_177 ?_
        refine kz_icmp_eq (pc := 179) (tgt := 196) (by decide) dX12_readsRow_179 (fun hb => ?_) (fun hb => ?_)
        · replace h := h.1 hb
          refine kz_iload_n (pc := 196) 4 (i := 3) rfl rfl dX12_readsRow_196 ?_
          refine kz_if_ne (pc := 197) (tgt := 207) (by decide) dX12_readsRow_197 (fun hb => ?_) (fun hb => ?_)
          · replace h := h.1 hb
            refine kz_iconst (pc := 207) (v := 1) (by decide) dX12_readsRow_207 ?_
            refine kz_goto (pc := 208) (tgt := 212) (by decide) dX12_readsRow_208 ?_
            refine kz_istore_n (pc := 212) (i := 3) (ls' := [(5, .int (f6 x4.toNatClampNeg)), (0, .ref x0), (1, .int x1), (2, .int x2), (4, .int x4)]) rfl (by decide) rfl dX12_readsRow_212 ?_
            refine kz_iinc (pc := 213) 5 (i := 4) (v := x4 + 1) (ls' := [(3, .int 1), (5, .int (f6 x4.toNatClampNeg)), (0, .ref x0), (1, .int x1), (2, .int x2)]) rfl (congrArg (fun z => x4 + z) (by decide)) (by decide) rfl dX12_readsRow_213 ?_
            refine kz_goto (pc := 216) (tgt := 15) (by decide) dX12_readsRow_216 ?_
            refine kz_sub [3, 4, 5, 1, 0] rfl ?_
            exact h
          · replace h := h.2 hb
            refine kz_iload (pc := 200) 0 (i := 5) rfl dX12_readsRow_200 ?_
            refine kz_bipush (pc := 202) (v := 47) (by decide) dX12_readsRow_202 ?_
            refine kz_icmp_ne (pc := 204) (tgt := 211) (by decide) dX12_readsRow_204 (fun hb => ?_) (fun hb => ?_)
            · replace h := h.1 hb
              refine kz_iconst (pc := 211) (v := 0) (by decide) dX12_readsRow_211 ?_
              refine kz_istore_n (pc := 212) (i := 3) (ls' := [(5, .int (f6 x4.toNatClampNeg)), (0, .ref x0), (1, .int x1), (2, .int x2), (4, .int x4)]) rfl (by decide) rfl dX12_readsRow_212 ?_
              refine kz_iinc (pc := 213) 5 (i := 4) (v := x4 + 1) (ls' := [(3, .int 0), (5, .int (f6 x4.toNatClampNeg)), (0, .ref x0), (1, .int x1), (2, .int x2)]) rfl (congrArg (fun z => x4 + z) (by decide)) (by decide) rfl dX12_readsRow_213 ?_
              refine kz_goto (pc := 216) (tgt := 15) (by decide) dX12_readsRow_216 ?_
              refine kz_sub [3, 4, 5, 1, 0] rfl ?_
              exact h
            · replace h := h.2 hb
              refine kz_iconst (pc := 207) (v := 1) (by decide) dX12_readsRow_207 ?_
              refine kz_goto (pc := 208) (tgt := 212) (by decide) dX12_readsRow_208 ?_
              refine kz_istore_n (pc := 212) (i := 3) (ls' := [(5, .int (f6 x4.toNatClampNeg)), (0, .ref x0), (1, .int x1), (2, .int x2), (4, .int x4)]) rfl (by decide) rfl dX12_readsRow_212 ?_
              refine kz_iinc (pc := 213) 5 (i := 4) (v := x4 + 1) (ls' := [(3, .int 1), (5, .int (f6 x4.toNatClampNeg)), (0, .ref x0), (1, .int x1), (2, .int x2)]) rfl (congrArg (fun z => x4 + z) (by decide)) (by decide) rfl dX12_readsRow_213 ?_
              refine kz_goto (pc := 216) (tgt := 15) (by decide) dX12_readsRow_216 ?_
              refine kz_sub [3, 4, 5, 1, 0] rfl ?_
              exact h
        · replace h := h.2 hb
          refine kz_iload (pc := 182) 0 (i := 5) rfl dX12_readsRow_182 ?_
          refine kz_bipush (pc := 184) (v := 47) (by decide) dX12_readsRow_184 ?_
          refine kz_icmp_ne (pc := 186) (tgt := 194) (by decide) dX12_readsRow_186 (fun hb => ?_) (fun hb => ?_)
          · replace h := h.1 hb
            refine kz_iconst (pc := 194) (v := 0) (by decide) dX12_readsRow_194 ?_
            exact kz_zret (pc := 195) (ty := .boolean) rfl (by decide) (Nat.le_refl _) (Nat.le_refl _) dX12_readsRow_195 h
          · replace h := h.2 hb
            refine kz_iload_n (pc := 189) 2 (i := 1) rfl rfl dX12_readsRow_189 ?_
            refine kz_iconst (pc := 190) (v := 1) (by decide) dX12_readsRow_190 ?_
            refine kz_icmp_eq (pc := 191) (tgt := 196) (by decide) dX12_readsRow_191 (fun hb => ?_) (fun hb => ?_)
            · replace h := h.1 hb
              refine kz_iload_n (pc := 196) 4 (i := 3) rfl rfl dX12_readsRow_196 ?_
              refine kz_if_ne (pc := 197) (tgt := 207) (by decide) dX12_readsRow_197 (fun hb => ?_) (fun hb => ?_)
              · replace h := h.1 hb
                refine kz_iconst (pc := 207) (v := 1) (by decide) dX12_readsRow_207 ?_
                refine kz_goto (pc := 208) (tgt := 212) (by decide) dX12_readsRow_208 ?_
                refine kz_istore_n (pc := 212) (i := 3) (ls' := [(5, .int (f6 x4.toNatClampNeg)), (0, .ref x0), (1, .int x1), (2, .int x2), (4, .int x4)]) rfl (by decide) rfl dX12_readsRow_212 ?_
                refine kz_iinc (pc := 213) 5 (i := 4) (v := x4 + 1) (ls' := [(3, .int 1), (5, .int (f6 x4.toNatClampNeg)), (0, .ref x0), (1, .int x1), (2, .int x2)]) rfl (congrArg (fun z => x4 + z) (by decide)) (by decide) rfl dX12_readsRow_213 ?_
                refine kz_goto (pc := 216) (tgt := 15) (by decide) dX12_readsRow_216 ?_
                refine kz_sub [3, 4, 5, 1, 0] rfl ?_
                exact h
              · replace h := h.2 hb
                refine kz_iload (pc := 200) 0 (i := 5) rfl dX12_readsRow_200 ?_
                refine kz_bipush (pc := 202) (v := 47) (by decide) dX12_readsRow_202 ?_
                refine kz_icmp_ne (pc := 204) (tgt := 211) (by decide) dX12_readsRow_204 (fun hb => ?_) (fun hb => ?_)
                · replace h := h.1 hb
                  refine kz_iconst (pc := 211) (v := 0) (by decide) dX12_readsRow_211 ?_
                  refine kz_istore_n (pc := 212) (i := 3) (ls' := [(5, .int (f6 x4.toNatClampNeg)), (0, .ref x0), (1, .int x1), (2, .int x2), (4, .int x4)]) rfl (by decide) rfl dX12_readsRow_212 ?_
                  refine kz_iinc (pc := 213) 5 (i := 4) (v := x4 + 1) (ls' := [(3, .int 0), (5, .int (f6 x4.toNatClampNeg)), (0, .ref x0), (1, .int x1), (2, .int x2)]) rfl (congrArg (fun z => x4 + z) (by decide)) (by decide) rfl dX12_readsRow_213 ?_
                  refine kz_goto (pc := 216) (tgt := 15) (by decide) dX12_readsRow_216 ?_
                  refine kz_sub [3, 4, 5, 1, 0] rfl ?_
                  exact h
                · replace h := h.2 hb
                  refine kz_iconst (pc := 207) (v := 1) (by decide) dX12_readsRow_207 ?_
                  refine kz_goto (pc := 208) (tgt := 212) (by decide) dX12_readsRow_208 ?_
                  refine kz_istore_n (pc := 212) (i := 3) (ls' := [(5, .int (f6 x4.toNatClampNeg)), (0, .ref x0), (1, .int x1), (2, .int x2), (4, .int x4)]) rfl (by decide) rfl dX12_readsRow_212 ?_
                  refine kz_iinc (pc := 213) 5 (i := 4) (v := x4 + 1) (ls' := [(3, .int 1), (5, .int (f6 x4.toNatClampNeg)), (0, .ref x0), (1, .int x1), (2, .int x2)]) rfl (congrArg (fun z => x4 + z) (by decide)) (by decide) rfl dX12_readsRow_213 ?_
                  refine kz_goto (pc := 216) (tgt := 15) (by decide) dX12_readsRow_216 ?_
                  refine kz_sub [3, 4, 5, 1, 0] rfl ?_
                  exact h
            · replace h := h.2 hb
              refine kz_iconst (pc := 194) (v := 0) (by decide) dX12_readsRow_194 ?_
              exact kz_zret (pc := 195) (ty := .boolean) rfl (by decide) (Nat.le_refl _) (Nat.le_refl _) dX12_readsRow_195 h
    · replace h := h.2 hb
      refine kz_iload (pc := 38) 5 (i := 4) rfl dX12_readsRow_38 ?_
      refine kz_istore (pc := 40) (i := 6) (ls' := [(5, .int (f6 x4.toNatClampNeg)), (0, .ref x0), (1, .int x1), (2, .int x2), (3, .int x3), (4, .int x4)]) (by decide) rfl dX12_readsRow_40 ?_
      refine kz_lconst (pc := 42) (v := 0) (by decide) dX12_readsRow_42 ?_
      refine kz_lstore (pc := 43) (i := 7) (ls' := [(6, .int x4), (5, .int (f6 x4.toNatClampNeg)), (0, .ref x0), (1, .int x1), (2, .int x2), (3, .int x3), (4, .int x4)]) (by decide) rfl dX12_readsRow_43 ?_
      refine kz_sub [3, 4, 5, 6, 7, 1, 0] rfl ?_
      exact h
theorem rX12_readsRow_45 {G : kz_G} {d : Nat} {Qr : Option Value → kz_M → Prop} {Qx : String → kz_M → Prop} {x0 : Nat} {x1 : Int32} {x2 : Int32} {x3 : Int32} {x4 : Int32} {x6 : Int32} {x7 : Int64}  {M : kz_M} (h : (x2 ≤ x6 → ((12 : Int32) < (x6 - x4) → Qr (some (.int 0)) M) ∧ (¬ (12 : Int32) < (x6 - x4) → ∃ fs1 v2, (M).1 x0 = some (.inl (11, fs1)) ∧ fs1[12]? = some (.int v2) ∧ ((¬ v2 = (60 : Int32) → ∃ fs3 v4, (M).1 x0 = some (.inl (11, fs3)) ∧ fs3[10]? = some (.ref v4) ∧ (∃ fs5 v6, (M).1 x0 = some (.inl (11, fs5)) ∧ fs5[12]? = some (.int v6) ∧ (∃ n7 f8, (M).1 v4 = some (.inr (.long, n7, .inr (.inl f8))) ∧ vp_in v6 n7 ∧ ((x3 = 0 → ∃ fs9 v10, ((kz_up M v4 (.inr (.long, n7, .inr (.inl (vp_updL f8 (v6 : Int32).toNatClampNeg x7)))))).1 x0 = some (.inl (11, fs9)) ∧ fs9[12]? = some (.int v10) ∧ (∃ fs11, ((kz_up M v4 (.inr (.long, n7, .inr (.inl (vp_updL f8 (v6 : Int32).toNatClampNeg x7)))))).1 x0 = some (.inl (11, fs11)) ∧ 12 < fs11.length ∧ (zX12_readsRow_15 G d Qr Qx x0 x1 x2 0 x6 (kz_up (kz_up M v4 (.inr (.long, n7, .inr (.inl (vp_updL f8 (v6 : Int32).toNatClampNeg x7))))) x0 (.inl (11, fs11.set 12 (.int (v10 + 1)))))))) ∧ (¬ x3 = 0 → ∃ fs12 v13, ((kz_up M v4 (.inr (.long, n7, .inr (.inl (vp_updL f8 (v6 : Int32).toNatClampNeg x7)))))).1 x0 = some (.inl (11, fs12)) ∧ fs12[11]? = some (.long v13) ∧ (∃ fs14 v15, ((kz_up M v4 (.inr (.long, n7, .inr (.inl (vp_updL f8 (v6 : Int32).toNatClampNeg x7)))))).1 x0 = some (.inl (11, fs14)) ∧ fs14[12]? = some (.int v15) ∧ (∃ fs16, ((kz_up M v4 (.inr (.long, n7, .inr (.inl (vp_updL f8 (v6 : Int32).toNatClampNeg x7)))))).1 x0 = some (.inl (11, fs16)) ∧ 11 < fs16.length ∧ (∀ M17, M17 = kz_up (kz_up M v4 (.inr (.long, n7, .inr (.inl (vp_updL f8 (v6 : Int32).toNatClampNeg x7))))) x0 (.inl (11, fs16.set 11 (.long (v13 ||| ((1 : Int64) <<< ((v15).toInt64 &&& 63)))))) → ∃ fs18 v19, (M17).1 x0 = some (.inl (11, fs18)) ∧ fs18[12]? = some (.int v19) ∧ (∃ fs20, (M17).1 x0 = some (.inl (11, fs20)) ∧ 12 < fs20.length ∧ (zX12_readsRow_15 G d Qr Qx x0 x1 x2 0 x6 (kz_up M17 x0 (.inl (11, fs20.set 12 (.int (v19 + 1))))))))))))))) ∧ (v2 = (60 : Int32) → Qr (some (.int 0)) M)))) ∧ (¬ x2 ≤ x6 → ∃ fs21 v22, (M).1 x0 = some (.inl (11, fs21)) ∧ fs21[18]? = some (.ref v22) ∧ (∃ n23 f24, (M).1 v22 = some (.inr (.int, n23, .inl f24)) ∧ vp_in x6 n23 ∧ (kz_C G (d + 1) 0 0 mX12_isLetter [.int (f24 x6.toNatClampNeg)] M (fun v M25 => ∃ r26 : Int32, v = some (.int r26) ∧ ((r26 = 0 → ((12 : Int32) < (x6 - x4) → Qr (some (.int 0)) M25) ∧ (¬ (12 : Int32) < (x6 - x4) → ∃ fs28 v29, (M25).1 x0 = some (.inl (11, fs28)) ∧ fs28[12]? = some (.int v29) ∧ ((¬ v29 = (60 : Int32) → ∃ fs30 v31, (M25).1 x0 = some (.inl (11, fs30)) ∧ fs30[10]? = some (.ref v31) ∧ (∃ fs32 v33, (M25).1 x0 = some (.inl (11, fs32)) ∧ fs32[12]? = some (.int v33) ∧ (∃ n34 f35, (M25).1 v31 = some (.inr (.long, n34, .inr (.inl f35))) ∧ vp_in v33 n34 ∧ ((x3 = 0 → ∃ fs36 v37, ((kz_up M25 v31 (.inr (.long, n34, .inr (.inl (vp_updL f35 (v33 : Int32).toNatClampNeg x7)))))).1 x0 = some (.inl (11, fs36)) ∧ fs36[12]? = some (.int v37) ∧ (∃ fs38, ((kz_up M25 v31 (.inr (.long, n34, .inr (.inl (vp_updL f35 (v33 : Int32).toNatClampNeg x7)))))).1 x0 = some (.inl (11, fs38)) ∧ 12 < fs38.length ∧ (zX12_readsRow_15 G d Qr Qx x0 x1 x2 0 x6 (kz_up (kz_up M25 v31 (.inr (.long, n34, .inr (.inl (vp_updL f35 (v33 : Int32).toNatClampNeg x7))))) x0 (.inl (11, fs38.set 12 (.int (v37 + 1)))))))) ∧ (¬ x3 = 0 → ∃ fs39 v40, ((kz_up M25 v31 (.inr (.long, n34, .inr (.inl (vp_updL f35 (v33 : Int32).toNatClampNeg x7)))))).1 x0 = some (.inl (11, fs39)) ∧ fs39[11]? = some (.long v40) ∧ (∃ fs41 v42, ((kz_up M25 v31 (.inr (.long, n34, .inr (.inl (vp_updL f35 (v33 : Int32).toNatClampNeg x7)))))).1 x0 = some (.inl (11, fs41)) ∧ fs41[12]? = some (.int v42) ∧ (∃ fs43, ((kz_up M25 v31 (.inr (.long, n34, .inr (.inl (vp_updL f35 (v33 : Int32).toNatClampNeg x7)))))).1 x0 = some (.inl (11, fs43)) ∧ 11 < fs43.length ∧ (∀ M44, M44 = kz_up (kz_up M25 v31 (.inr (.long, n34, .inr (.inl (vp_updL f35 (v33 : Int32).toNatClampNeg x7))))) x0 (.inl (11, fs43.set 11 (.long (v40 ||| ((1 : Int64) <<< ((v42).toInt64 &&& 63)))))) → ∃ fs45 v46, (M44).1 x0 = some (.inl (11, fs45)) ∧ fs45[12]? = some (.int v46) ∧ (∃ fs47, (M44).1 x0 = some (.inl (11, fs47)) ∧ 12 < fs47.length ∧ (zX12_readsRow_15 G d Qr Qx x0 x1 x2 0 x6 (kz_up M44 x0 (.inl (11, fs47.set 12 (.int (v46 + 1))))))))))))))) ∧ (v29 = (60 : Int32) → Qr (some (.int 0)) M25)))) ∧ (¬ r26 = 0 → ((12 : Int32) ≤ (x6 - x4) → zX12_readsRow_45 G d Qr Qx x0 x1 x2 x3 x4 (x6 + 1) x7 M25) ∧ (¬ (12 : Int32) ≤ (x6 - x4) → ∃ fs48 v49, (M25).1 x0 = some (.inl (11, fs48)) ∧ fs48[18]? = some (.ref v49) ∧ (∃ n50 f51, (M25).1 v49 = some (.inr (.int, n50, .inl f51)) ∧ vp_in x6 n50 ∧ (zX12_readsRow_45 G d Qr Qx x0 x1 x2 x3 x4 (x6 + 1) ((x7 <<< (((5 : Int32)).toInt64 &&& 63)) ||| (((f51 x6.toNatClampNeg) - 96 : Int32).toInt64)) M25)))))) Qx)))) : zX12_readsRow_45 G d Qr Qx x0 x1 x2 x3 x4 x6 x7  M := by
  show kz_Z G (d + 2) 0 0 mX12_readsRow Qr Qx 45 [(0, .ref x0), (1, .int x1), (2, .int x2), (3, .int x3), (4, .int x4), (6, .int x6), (7, .long x7)] [] M 0 0
  refine kz_iload (pc := 45) 5 (i := 6) rfl dX12_readsRow_45 ?_
  refine kz_iload_n (pc := 47) 2 (i := 2) rfl rfl dX12_readsRow_47 ?_
  refine kz_icmp_ge (pc := 48) (tgt := 98) (by decide) dX12_readsRow_48 (fun hb => ?_) (fun hb => ?_)
  · replace h := h.1 hb
    refine kz_iload (pc := 98) 5 (i := 6) rfl dX12_readsRow_98 ?_
    refine kz_iload (pc := 100) 4 (i := 4) rfl dX12_readsRow_100 ?_
    refine kz_isub (pc := 102) dX12_readsRow_102 ?_
    refine kz_bipush (pc := 103) (v := 12) (by decide) dX12_readsRow_103 ?_
    refine kz_icmp_gt (pc := 105) (tgt := 117) (by decide) dX12_readsRow_105 (fun hb => ?_) (fun hb => ?_)
    · replace h := h.1 hb
      refine kz_iconst (pc := 117) (v := 0) (by decide) dX12_readsRow_117 ?_
      exact kz_zret (pc := 118) (ty := .boolean) rfl (by decide) (Nat.le_refl _) (Nat.le_refl _) dX12_readsRow_118 h
    · replace h := h.2 hb
      refine kz_aload_n (pc := 108) 0 (v := .ref x0) (i := 0) rfl rfl rfl dX12_readsRow_108 ?_
      obtain ⟨fs1, v2, hM, hv, h⟩ := h
      refine kz_getf (pc := 109) (k := 12) kcX12 hM hv (by decide) kw_1390 dX12_readsRow_109 ?_
      refine kz_bipush (pc := 112) (v := 60) (by decide) dX12_readsRow_112 ?_
      refine kz_icmp_ne (pc := 114) (tgt := 119) (by decide) dX12_readsRow_114 (fun hb => ?_) (fun hb => ?_)
      · replace h := h.1 hb
        refine kz_aload_n (pc := 119) 0 (v := .ref x0) (i := 0) rfl rfl rfl dX12_readsRow_119 ?_
        obtain ⟨fs3, v4, hM, hv, h⟩ := h
        refine kz_getf (pc := 120) (k := 10) kcX12 hM hv (by decide) kw_1388 dX12_readsRow_120 ?_
        refine kz_aload_n (pc := 123) 0 (v := .ref x0) (i := 0) rfl rfl rfl dX12_readsRow_123 ?_
        obtain ⟨fs5, v6, hM, hv, h⟩ := h
        refine kz_getf (pc := 124) (k := 12) kcX12 hM hv (by decide) kw_1390 dX12_readsRow_124 ?_
        refine kz_lload (pc := 127) 6 (i := 7) rfl dX12_readsRow_127 ?_
        obtain ⟨n7, f8, hM, hi, h⟩ := h
        refine kz_last (pc := 129) hM hi dX12_readsRow_129 ?_
        refine kz_iload_n (pc := 130) 3 (i := 3) rfl rfl dX12_readsRow_130 ?_
        refine kz_if_eq (pc := 131) (tgt := 149) (by decide) dX12_readsRow_131 (fun hb => ?_) (fun hb => ?_)
        · replace h := h.1 hb
          refine kz_iconst (pc := 149) (v := 0) (by decide) dX12_readsRow_149 ?_
          refine kz_istore_n (pc := 150) (i := 3) (ls' := [(0, .ref x0), (1, .int x1), (2, .int x2), (4, .int x4), (6, .int x6), (7, .long x7)]) rfl (by decide) rfl dX12_readsRow_150 ?_
          refine kz_aload_n (pc := 151) 1 (v := .ref x0) (i := 0) rfl rfl rfl dX12_readsRow_151 ?_
          refine kz_dup (pc := 152) rfl dX12_readsRow_152 ?_
          obtain ⟨fs9, v10, hM, hv, h⟩ := h
          refine kz_getf (pc := 153) (k := 12) kcX12 hM hv (by decide) kw_1390 dX12_readsRow_153 ?_
          refine kz_iconst (pc := 156) (v := 1) (by decide) dX12_readsRow_156 ?_
          refine kz_iadd (pc := 157) dX12_readsRow_157 ?_
          obtain ⟨fs11, hM, hlen, h⟩ := h
          refine kz_putf (pc := 158) (k := 12) kcX12 hM (by decide) hlen kw_1390 rfl rfl rfl dX12_readsRow_158 ?_
          refine kz_iload (pc := 161) 5 (i := 6) rfl dX12_readsRow_161 ?_
          refine kz_istore (pc := 163) (i := 4) (ls' := [(3, .int 0), (0, .ref x0), (1, .int x1), (2, .int x2), (6, .int x6), (7, .long x7)]) (by decide) rfl dX12_readsRow_163 ?_
          refine kz_goto (pc := 165) (tgt := 216) (by decide) dX12_readsRow_165 ?_
          refine kz_goto (pc := 216) (tgt := 15) (by decide) dX12_readsRow_216 ?_
          refine kz_sub [2, 3, 4, 1, 0] rfl ?_
          exact h
        · replace h := h.2 hb
          refine kz_aload_n (pc := 134) 0 (v := .ref x0) (i := 0) rfl rfl rfl dX12_readsRow_134 ?_
          refine kz_dup (pc := 135) rfl dX12_readsRow_135 ?_
          obtain ⟨fs12, v13, hM, hv, h⟩ := h
          refine kz_getf (pc := 136) (k := 11) kcX12 hM hv (by decide) kw_1389 dX12_readsRow_136 ?_
          refine kz_lconst (pc := 139) (v := 1) (by decide) dX12_readsRow_139 ?_
          refine kz_aload_n (pc := 140) 0 (v := .ref x0) (i := 0) rfl rfl rfl dX12_readsRow_140 ?_
          obtain ⟨fs14, v15, hM, hv, h⟩ := h
          refine kz_getf (pc := 141) (k := 12) kcX12 hM hv (by decide) kw_1390 dX12_readsRow_141 ?_
          refine kz_lshl (pc := 144) dX12_readsRow_144 ?_
          refine kz_lor (pc := 145) dX12_readsRow_145 ?_
          obtain ⟨fs16, hM, hlen, h⟩ := h
          refine kz_putf (pc := 146) (k := 11) kcX12 hM (by decide) hlen kw_1389 rfl rfl rfl dX12_readsRow_146 ?_
          refine kz_nameM (fun M17 e9 => ?_)
          replace h := h M17 e9
          refine kz_iconst (pc := 149) (v := 0) (by decide) dX12_readsRow_149 ?_
          refine kz_istore_n (pc := 150) (i := 3) (ls' := [(0, .ref x0), (1, .int x1), (2, .int x2), (4, .int x4), (6, .int x6), (7, .long x7)]) rfl (by decide) rfl dX12_readsRow_150 ?_
          refine kz_aload_n (pc := 151) 1 (v := .ref x0) (i := 0) rfl rfl rfl dX12_readsRow_151 ?_
          refine kz_dup (pc := 152) rfl dX12_readsRow_152 ?_
          obtain ⟨fs18, v19, hM, hv, h⟩ := h
          refine kz_getf (pc := 153) (k := 12) kcX12 hM hv (by decide) kw_1390 dX12_readsRow_153 ?_
          refine kz_iconst (pc := 156) (v := 1) (by decide) dX12_readsRow_156 ?_
          refine kz_iadd (pc := 157) dX12_readsRow_157 ?_
          obtain ⟨fs20, hM, hlen, h⟩ := h
          refine kz_putf (pc := 158) (k := 12) kcX12 hM (by decide) hlen kw_1390 rfl rfl rfl dX12_readsRow_158 ?_
          refine kz_iload (pc := 161) 5 (i := 6) rfl dX12_readsRow_161 ?_
          refine kz_istore (pc := 163) (i := 4) (ls' := [(3, .int 0), (0, .ref x0), (1, .int x1), (2, .int x2), (6, .int x6), (7, .long x7)]) (by decide) rfl dX12_readsRow_163 ?_
          refine kz_goto (pc := 165) (tgt := 216) (by decide) dX12_readsRow_165 ?_
          refine kz_goto (pc := 216) (tgt := 15) (by decide) dX12_readsRow_216 ?_
          refine kz_sub [2, 3, 4, 1, 0] rfl ?_
          exact h
      · replace h := h.2 hb
        refine kz_iconst (pc := 117) (v := 0) (by decide) dX12_readsRow_117 ?_
        exact kz_zret (pc := 118) (ty := .boolean) rfl (by decide) (Nat.le_refl _) (Nat.le_refl _) dX12_readsRow_118 h
  · replace h := h.2 hb
    refine kz_aload_n (pc := 51) 0 (v := .ref x0) (i := 0) rfl rfl rfl dX12_readsRow_51 ?_
    obtain ⟨fs21, v22, hM, hv, h⟩ := h
    refine kz_getf (pc := 52) (k := 18) kcX12 hM hv (by decide) kw_1396 dX12_readsRow_52 ?_
    refine kz_iload (pc := 55) 5 (i := 6) rfl dX12_readsRow_55 ?_
    obtain ⟨n23, f24, hM, hi, h⟩ := h
    refine kz_iald (pc := 57) hM hi dX12_readsRow_57 ?_
    refine kz_callS (pc := 58) (μ' := mX12_isLetter) (d' := d + 1) (mc' := 0) (ms' := 0) (As := [.int (f24 x6.toNatClampNeg)]) (st := []) (c := 0) (sl := 0) kmX12_isLetter kw_1509 (by omega) rfl (Nat.le_of_ble_eq_true rfl) (Nat.le_refl _) (Nat.le_refl _) dX12_readsRow_58 (fun E M9 hx => kz_Tout rfl (Nat.le_refl _) (Nat.le_refl _) hx) (kz_Cmono (fun v M25 h => ?_) (fun _ _ h => h) h)
    obtain ⟨r26, rfl, h⟩ := h
    show kz_Z G (d + 2) 0 0 mX12_readsRow Qr Qx 61 [(0, .ref x0), (1, .int x1), (2, .int x2), (3, .int x3), (4, .int x4), (6, .int x6), (7, .long x7)] [.int r26] M25 0 0
    refine kz_if_eq (pc := 61) (tgt := 98) (by decide) dX12_readsRow_61 (fun hb => ?_) (fun hb => ?_)
    · replace h := h.1 hb
      refine kz_iload (pc := 98) 5 (i := 6) rfl dX12_readsRow_98 ?_
      refine kz_iload (pc := 100) 4 (i := 4) rfl dX12_readsRow_100 ?_
      refine kz_isub (pc := 102) dX12_readsRow_102 ?_
      refine kz_bipush (pc := 103) (v := 12) (by decide) dX12_readsRow_103 ?_
      refine kz_icmp_gt (pc := 105) (tgt := 117) (by decide) dX12_readsRow_105 (fun hb => ?_) (fun hb => ?_)
      · replace h := h.1 hb
        refine kz_iconst (pc := 117) (v := 0) (by decide) dX12_readsRow_117 ?_
        exact kz_zret (pc := 118) (ty := .boolean) rfl (by decide) (Nat.le_refl _) (Nat.le_refl _) dX12_readsRow_118 h
      · replace h := h.2 hb
        refine kz_aload_n (pc := 108) 0 (v := .ref x0) (i := 0) rfl rfl rfl dX12_readsRow_108 ?_
        obtain ⟨fs28, v29, hM, hv, h⟩ := h
        refine kz_getf (pc := 109) (k := 12) kcX12 hM hv (by decide) kw_1390 dX12_readsRow_109 ?_
        refine kz_bipush (pc := 112) (v := 60) (by decide) dX12_readsRow_112 ?_
        refine kz_icmp_ne (pc := 114) (tgt := 119) (by decide) dX12_readsRow_114 (fun hb => ?_) (fun hb => ?_)
        · replace h := h.1 hb
          refine kz_aload_n (pc := 119) 0 (v := .ref x0) (i := 0) rfl rfl rfl dX12_readsRow_119 ?_
          obtain ⟨fs30, v31, hM, hv, h⟩ := h
          refine kz_getf (pc := 120) (k := 10) kcX12 hM hv (by decide) kw_1388 dX12_readsRow_120 ?_
          refine kz_aload_n (pc := 123) 0 (v := .ref x0) (i := 0) rfl rfl rfl dX12_readsRow_123 ?_
          obtain ⟨fs32, v33, hM, hv, h⟩ := h
          refine kz_getf (pc := 124) (k := 12) kcX12 hM hv (by decide) kw_1390 dX12_readsRow_124 ?_
          refine kz_lload (pc := 127) 6 (i := 7) rfl dX12_readsRow_127 ?_
          obtain ⟨n34, f35, hM, hi, h⟩ := h
          refine kz_last (pc := 129) hM hi dX12_readsRow_129 ?_
          refine kz_iload_n (pc := 130) 3 (i := 3) rfl rfl dX12_readsRow_130 ?_
          refine kz_if_eq (pc := 131) (tgt := 149) (by decide) dX12_readsRow_131 (fun hb => ?_) (fun hb => ?_)
          · replace h := h.1 hb
            refine kz_iconst (pc := 149) (v := 0) (by decide) dX12_readsRow_149 ?_
            refine kz_istore_n (pc := 150) (i := 3) (ls' := [(0, .ref x0), (1, .int x1), (2, .int x2), (4, .int x4), (6, .int x6), (7, .long x7)]) rfl (by decide) rfl dX12_readsRow_150 ?_
            refine kz_aload_n (pc := 151) 1 (v := .ref x0) (i := 0) rfl rfl rfl dX12_readsRow_151 ?_
            refine kz_dup (pc := 152) rfl dX12_readsRow_152 ?_
            obtain ⟨fs36, v37, hM, hv, h⟩ := h
            refine kz_getf (pc := 153) (k := 12) kcX12 hM hv (by decide) kw_1390 dX12_readsRow_153 ?_
            refine kz_iconst (pc := 156) (v := 1) (by decide) dX12_readsRow_156 ?_
            refine kz_iadd (pc := 157) dX12_readsRow_157 ?_
            obtain ⟨fs38, hM, hlen, h⟩ := h
            refine kz_putf (pc := 158) (k := 12) kcX12 hM (by decide) hlen kw_1390 rfl rfl rfl dX12_readsRow_158 ?_
            refine kz_iload (pc := 161) 5 (i := 6) rfl dX12_readsRow_161 ?_
            refine kz_istore (pc := 163) (i := 4) (ls' := [(3, .int 0), (0, .ref x0), (1, .int x1), (2, .int x2), (6, .int x6), (7, .long x7)]) (by decide) rfl dX12_readsRow_163 ?_
            refine kz_goto (pc := 165) (tgt := 216) (by decide) dX12_readsRow_165 ?_
            refine kz_goto (pc := 216) (tgt := 15) (by decide) dX12_readsRow_216 ?_
            refine kz_sub [2, 3, 4, 1, 0] rfl ?_
            exact h
          · replace h := h.2 hb
            refine kz_aload_n (pc := 134) 0 (v := .ref x0) (i := 0) rfl rfl rfl dX12_readsRow_134 ?_
            refine kz_dup (pc := 135) rfl dX12_readsRow_135 ?_
            obtain ⟨fs39, v40, hM, hv, h⟩ := h
            refine kz_getf (pc := 136) (k := 11) kcX12 hM hv (by decide) kw_1389 dX12_readsRow_136 ?_
            refine kz_lconst (pc := 139) (v := 1) (by decide) dX12_readsRow_139 ?_
            refine kz_aload_n (pc := 140) 0 (v := .ref x0) (i := 0) rfl rfl rfl dX12_readsRow_140 ?_
            obtain ⟨fs41, v42, hM, hv, h⟩ := h
            refine kz_getf (pc := 141) (k := 12) kcX12 hM hv (by decide) kw_1390 dX12_readsRow_141 ?_
            refine kz_lshl (pc := 144) dX12_readsRow_144 ?_
            refine kz_lor (pc := 145) dX12_readsRow_145 ?_
            obtain ⟨fs43, hM, hlen, h⟩ := h
            refine kz_putf (pc := 146) (k := 11) kcX12 hM (by decide) hlen kw_1389 rfl rfl rfl dX12_readsRow_146 ?_
            refine kz_nameM (fun M44 e9 => ?_)
            replace h := h M44 e9
            refine kz_iconst (pc := 149) (v := 0) (by decide) dX12_readsRow_149 ?_
            refine kz_istore_n (pc := 150) (i := 3) (ls' := [(0, .ref x0), (1, .int x1), (2, .int x2), (4, .int x4), (6, .int x6), (7, .long x7)]) rfl (by decide) rfl dX12_readsRow_150 ?_
            refine kz_aload_n (pc := 151) 1 (v := .ref x0) (i := 0) rfl rfl rfl dX12_readsRow_151 ?_
            refine kz_dup (pc := 152) rfl dX12_readsRow_152 ?_
            obtain ⟨fs45, v46, hM, hv, h⟩ := h
            refine kz_getf (pc := 153) (k := 12) kcX12 hM hv (by decide) kw_1390 dX12_readsRow_153 ?_
            refine kz_iconst (pc := 156) (v := 1) (by decide) dX12_readsRow_156 ?_
            refine kz_iadd (pc := 157) dX12_readsRow_157 ?_
            obtain ⟨fs47, hM, hlen, h⟩ := h
            refine kz_putf (pc := 158) (k := 12) kcX12 hM (by decide) hlen kw_1390 rfl rfl rfl dX12_readsRow_158 ?_
            refine kz_iload (pc := 161) 5 (i := 6) rfl dX12_readsRow_161 ?_
            refine kz_istore (pc := 163) (i := 4) (ls' := [(3, .int 0), (0, .ref x0), (1, .int x1), (2, .int x2), (6, .int x6), (7, .long x7)]) (by decide) rfl dX12_readsRow_163 ?_
            refine kz_goto (pc := 165) (tgt := 216) (by decide) dX12_readsRow_165 ?_
            refine kz_goto (pc := 216) (tgt := 15) (by decide) dX12_readsRow_216 ?_
            refine kz_sub [2, 3, 4, 1, 0] rfl ?_
            exact h
        · replace h := h.2 hb
          refine kz_iconst (pc := 117) (v := 0) (by decide) dX12_readsRow_117 ?_
          exact kz_zret (pc := 118) (ty := .boolean) rfl (by decide) (Nat.le_refl _) (Nat.le_refl _) dX12_readsRow_118 h
    · replace h := h.2 hb
      refine kz_iload (pc := 64) 5 (i := 6) rfl dX12_readsRow_64 ?_
      refine kz_iload (pc := 66) 4 (i := 4) rfl dX12_readsRow_66 ?_
      refine kz_isub (pc := 68) dX12_readsRow_68 ?_
      refine kz_bipush (pc := 69) (v := 12) (by decide) dX12_readsRow_69 ?_
      refine kz_icmp_ge (pc := 71) (tgt := 92) (by decide) dX12_readsRow_71 (fun hb => ?_) (fun hb => ?_)
      · replace h := h.1 hb
        refine kz_iinc (pc := 92) 5 (i := 6) (v := x6 + 1) (ls' := [(0, .ref x0), (1, .int x1), (2, .int x2), (3, .int x3), (4, .int x4), (7, .long x7)]) rfl (congrArg (fun z => x6 + z) (by decide)) (by decide) rfl dX12_readsRow_92 ?_
        refine kz_goto (pc := 95) (tgt := 45) (by decide) dX12_readsRow_95 ?_
        refine kz_sub [1, 2, 3, 4, 5, 0, 6] rfl ?_
        exact h
      · replace h := h.2 hb
        refine kz_lload (pc := 74) 6 (i := 7) rfl dX12_readsRow_74 ?_
        refine kz_iconst (pc := 76) (v := 5) (by decide) dX12_readsRow_76 ?_
        refine kz_lshl (pc := 77) dX12_readsRow_77 ?_
        refine kz_aload_n (pc := 78) 0 (v := .ref x0) (i := 0) rfl rfl rfl dX12_readsRow_78 ?_
        obtain ⟨fs48, v49, hM, hv, h⟩ := h
        refine kz_getf (pc := 79) (k := 18) kcX12 hM hv (by decide) kw_1396 dX12_readsRow_79 ?_
        refine kz_iload (pc := 82) 5 (i := 6) rfl dX12_readsRow_82 ?_
        obtain ⟨n50, f51, hM, hi, h⟩ := h
        refine kz_iald (pc := 84) hM hi dX12_readsRow_84 ?_
        refine kz_bipush (pc := 85) (v := 96) (by decide) dX12_readsRow_85 ?_
        refine kz_isub (pc := 87) dX12_readsRow_87 ?_
        refine kz_i2l (pc := 88) dX12_readsRow_88 ?_
        refine kz_lor (pc := 89) dX12_readsRow_89 ?_
        refine kz_lstore (pc := 90) (i := 7) (ls' := [(0, .ref x0), (1, .int x1), (2, .int x2), (3, .int x3), (4, .int x4), (6, .int x6)]) (by decide) rfl dX12_readsRow_90 ?_
        refine kz_iinc (pc := 92) 6 (i := 6) (v := x6 + 1) (ls' := [(7, .long ((x7 <<< (((5 : Int32)).toInt64 &&& 63)) ||| (((f51 x6.toNatClampNeg) - 96 : Int32).toInt64))), (0, .ref x0), (1, .int x1), (2, .int x2), (3, .int x3), (4, .int x4)]) rfl (congrArg (fun z => x6 + z) (by decide)) (by decide) rfl dX12_readsRow_92 ?_
        refine kz_goto (pc := 95) (tgt := 45) (by decide) dX12_readsRow_95 ?_
        refine kz_sub [2, 3, 4, 5, 6, 0, 1] rfl ?_
        exact h
theorem dX12_books_0 : decode cX12_books 0 = .ok (.aload_n 0, 1) := by decide +kernel
theorem dX12_books_1 : decode cX12_books 1 = .ok (.getfield 7, 3) := by decide +kernel
theorem dX12_books_4 : decode cX12_books 4 = .ok (.bipush 21, 2) := by decide +kernel
theorem dX12_books_6 : decode cX12_books 6 = .ok (.iload_n 1, 1) := by decide +kernel
theorem dX12_books_7 : decode cX12_books 7 = .ok (.iadd, 1) := by decide +kernel
theorem dX12_books_8 : decode cX12_books 8 = .ok (.dup2, 1) := by decide +kernel
theorem dX12_books_9 : decode cX12_books 9 = .ok (.iaload, 1) := by decide +kernel
theorem dX12_books_10 : decode cX12_books 10 = .ok (.iload_n 3, 1) := by decide +kernel
theorem dX12_books_11 : decode cX12_books 11 = .ok (.iadd, 1) := by decide +kernel
theorem dX12_books_12 : decode cX12_books 12 = .ok (.iastore, 1) := by decide +kernel
theorem dX12_books_13 : decode cX12_books 13 = .ok (.iload_n 3, 1) := by decide +kernel
theorem dX12_books_14 : decode cX12_books 14 = .ok (.ifCond .ne 4, 3) := by decide +kernel
theorem dX12_books_17 : decode cX12_books 17 = .ok (.return_, 1) := by decide +kernel
theorem dX12_books_18 : decode cX12_books 18 = .ok (.aload_n 0, 1) := by decide +kernel
theorem dX12_books_19 : decode cX12_books 19 = .ok (.getfield 7, 3) := by decide +kernel
theorem dX12_books_22 : decode cX12_books 22 = .ok (.iconst 4, 1) := by decide +kernel
theorem dX12_books_23 : decode cX12_books 23 = .ok (.iaload, 1) := by decide +kernel
theorem dX12_books_24 : decode cX12_books 24 = .ok (.bipush 30, 2) := by decide +kernel
theorem dX12_books_26 : decode cX12_books 26 = .ok (.if_icmp .ne 32, 3) := by decide +kernel
theorem dX12_books_29 : decode cX12_books 29 = .ok (.aload_n 0, 1) := by decide +kernel
theorem dX12_books_30 : decode cX12_books 30 = .ok (.getfield 7, 3) := by decide +kernel
theorem dX12_books_33 : decode cX12_books 33 = .ok (.sipush 3697, 3) := by decide +kernel
theorem dX12_books_36 : decode cX12_books 36 = .ok (.aload_n 0, 1) := by decide +kernel
theorem dX12_books_37 : decode cX12_books 37 = .ok (.getfield 7, 3) := by decide +kernel
theorem dX12_books_40 : decode cX12_books 40 = .ok (.sipush 3693, 3) := by decide +kernel
theorem dX12_books_43 : decode cX12_books 43 = .ok (.bipush 116, 2) := by decide +kernel
theorem dX12_books_45 : decode cX12_books 45 = .ok (.invokestatic 81, 3) := by decide +kernel
theorem dX12_books_48 : decode cX12_books 48 = .ok (.aload_n 0, 1) := by decide +kernel
theorem dX12_books_49 : decode cX12_books 49 = .ok (.getfield 7, 3) := by decide +kernel
theorem dX12_books_52 : decode cX12_books 52 = .ok (.iconst 4, 1) := by decide +kernel
theorem dX12_books_53 : decode cX12_books 53 = .ok (.dup2, 1) := by decide +kernel
theorem dX12_books_54 : decode cX12_books 54 = .ok (.iaload, 1) := by decide +kernel
theorem dX12_books_55 : decode cX12_books 55 = .ok (.iconst 1, 1) := by decide +kernel
theorem dX12_books_56 : decode cX12_books 56 = .ok (.isub, 1) := by decide +kernel
theorem dX12_books_57 : decode cX12_books 57 = .ok (.iastore, 1) := by decide +kernel
theorem dX12_books_58 : decode cX12_books 58 = .ok (.sipush 3693, 3) := by decide +kernel
theorem dX12_books_61 : decode cX12_books 61 = .ok (.iconst 4, 1) := by decide +kernel
theorem dX12_books_62 : decode cX12_books 62 = .ok (.aload_n 0, 1) := by decide +kernel
theorem dX12_books_63 : decode cX12_books 63 = .ok (.getfield 7, 3) := by decide +kernel
theorem dX12_books_66 : decode cX12_books 66 = .ok (.iconst 4, 1) := by decide +kernel
theorem dX12_books_67 : decode cX12_books 67 = .ok (.iaload, 1) := by decide +kernel
theorem dX12_books_68 : decode cX12_books 68 = .ok (.imul, 1) := by decide +kernel
theorem dX12_books_69 : decode cX12_books 69 = .ok (.iadd, 1) := by decide +kernel
theorem dX12_books_70 : decode cX12_books 70 = .ok (.istore 4, 2) := by decide +kernel
theorem dX12_books_72 : decode cX12_books 72 = .ok (.aload_n 0, 1) := by decide +kernel
theorem dX12_books_73 : decode cX12_books 73 = .ok (.getfield 7, 3) := by decide +kernel
theorem dX12_books_76 : decode cX12_books 76 = .ok (.iload 4, 2) := by decide +kernel
theorem dX12_books_78 : decode cX12_books 78 = .ok (.aload_n 0, 1) := by decide +kernel
theorem dX12_books_79 : decode cX12_books 79 = .ok (.getfield 7, 3) := by decide +kernel
theorem dX12_books_82 : decode cX12_books 82 = .ok (.iconst 2, 1) := by decide +kernel
theorem dX12_books_83 : decode cX12_books 83 = .ok (.iaload, 1) := by decide +kernel
theorem dX12_books_84 : decode cX12_books 84 = .ok (.iastore, 1) := by decide +kernel
theorem dX12_books_85 : decode cX12_books 85 = .ok (.aload_n 0, 1) := by decide +kernel
theorem dX12_books_86 : decode cX12_books 86 = .ok (.getfield 7, 3) := by decide +kernel
theorem dX12_books_89 : decode cX12_books 89 = .ok (.iload 4, 2) := by decide +kernel
theorem dX12_books_91 : decode cX12_books 91 = .ok (.iconst 1, 1) := by decide +kernel
theorem dX12_books_92 : decode cX12_books 92 = .ok (.iadd, 1) := by decide +kernel
theorem dX12_books_93 : decode cX12_books 93 = .ok (.iload_n 1, 1) := by decide +kernel
theorem dX12_books_94 : decode cX12_books 94 = .ok (.iastore, 1) := by decide +kernel
theorem dX12_books_95 : decode cX12_books 95 = .ok (.aload_n 0, 1) := by decide +kernel
theorem dX12_books_96 : decode cX12_books 96 = .ok (.getfield 7, 3) := by decide +kernel
theorem dX12_books_99 : decode cX12_books 99 = .ok (.iload 4, 2) := by decide +kernel
theorem dX12_books_101 : decode cX12_books 101 = .ok (.iconst 2, 1) := by decide +kernel
theorem dX12_books_102 : decode cX12_books 102 = .ok (.iadd, 1) := by decide +kernel
theorem dX12_books_103 : decode cX12_books 103 = .ok (.iload_n 2, 1) := by decide +kernel
theorem dX12_books_104 : decode cX12_books 104 = .ok (.iastore, 1) := by decide +kernel
theorem dX12_books_105 : decode cX12_books 105 = .ok (.aload_n 0, 1) := by decide +kernel
theorem dX12_books_106 : decode cX12_books 106 = .ok (.getfield 7, 3) := by decide +kernel
theorem dX12_books_109 : decode cX12_books 109 = .ok (.iload 4, 2) := by decide +kernel
theorem dX12_books_111 : decode cX12_books 111 = .ok (.iconst 3, 1) := by decide +kernel
theorem dX12_books_112 : decode cX12_books 112 = .ok (.iadd, 1) := by decide +kernel
theorem dX12_books_113 : decode cX12_books 113 = .ok (.iload_n 3, 1) := by decide +kernel
theorem dX12_books_114 : decode cX12_books 114 = .ok (.iastore, 1) := by decide +kernel
theorem dX12_books_115 : decode cX12_books 115 = .ok (.aload_n 0, 1) := by decide +kernel
theorem dX12_books_116 : decode cX12_books 116 = .ok (.getfield 7, 3) := by decide +kernel
theorem dX12_books_119 : decode cX12_books 119 = .ok (.iconst 4, 1) := by decide +kernel
theorem dX12_books_120 : decode cX12_books 120 = .ok (.dup2, 1) := by decide +kernel
theorem dX12_books_121 : decode cX12_books 121 = .ok (.iaload, 1) := by decide +kernel
theorem dX12_books_122 : decode cX12_books 122 = .ok (.iconst 1, 1) := by decide +kernel
theorem dX12_books_123 : decode cX12_books 123 = .ok (.iadd, 1) := by decide +kernel
theorem dX12_books_124 : decode cX12_books 124 = .ok (.iastore, 1) := by decide +kernel
theorem dX12_books_125 : decode cX12_books 125 = .ok (.return_, 1) := by decide +kernel
theorem rX12_books_0 {G : kz_G} {d : Nat} {Qr : Option Value → kz_M → Prop} {Qx : String → kz_M → Prop} {a0 : Nat} {p1 : Int32} {p2 : Int32} {p3 : Int32}  {M : kz_M} (h : ∃ fs1 v2, (M).1 a0 = some (.inl (11, fs1)) ∧ fs1[0]? = some (.ref v2) ∧ (∃ n3 f4, (M).1 v2 = some (.inr (.int, n3, .inl f4)) ∧ vp_in (21 + p1) n3 ∧ (∃ n5 f6, (M).1 v2 = some (.inr (.int, n5, .inl f6)) ∧ vp_in (21 + p1) n5 ∧ ((¬ p3 = 0 → ∃ fs7 v8, ((kz_up M v2 (.inr (.int, n5, .inl (upd f6 (21 + p1 : Int32).toNatClampNeg ((f4 (21 + p1).toNatClampNeg) + p3)))))).1 a0 = some (.inl (11, fs7)) ∧ fs7[0]? = some (.ref v8) ∧ (∃ n9 f10, ((kz_up M v2 (.inr (.int, n5, .inl (upd f6 (21 + p1 : Int32).toNatClampNeg ((f4 (21 + p1).toNatClampNeg) + p3)))))).1 v8 = some (.inr (.int, n9, .inl f10)) ∧ vp_in (4 : Int32) n9 ∧ ((¬ (f10 (4 : Int32).toNatClampNeg) = (30 : Int32) → ∃ fs11 v12, ((kz_up M v2 (.inr (.int, n5, .inl (upd f6 (21 + p1 : Int32).toNatClampNeg ((f4 (21 + p1).toNatClampNeg) + p3)))))).1 a0 = some (.inl (11, fs11)) ∧ fs11[0]? = some (.ref v12) ∧ (∃ n13 f14, ((kz_up M v2 (.inr (.int, n5, .inl (upd f6 (21 + p1 : Int32).toNatClampNeg ((f4 (21 + p1).toNatClampNeg) + p3)))))).1 v12 = some (.inr (.int, n13, .inl f14)) ∧ vp_in (4 : Int32) n13 ∧ (∃ fs15 v16, ((kz_up M v2 (.inr (.int, n5, .inl (upd f6 (21 + p1 : Int32).toNatClampNeg ((f4 (21 + p1).toNatClampNeg) + p3)))))).1 a0 = some (.inl (11, fs15)) ∧ fs15[0]? = some (.ref v16) ∧ (∃ fs17 v18, ((kz_up M v2 (.inr (.int, n5, .inl (upd f6 (21 + p1 : Int32).toNatClampNeg ((f4 (21 + p1).toNatClampNeg) + p3)))))).1 a0 = some (.inl (11, fs17)) ∧ fs17[0]? = some (.ref v18) ∧ (∃ n19 f20, ((kz_up M v2 (.inr (.int, n5, .inl (upd f6 (21 + p1 : Int32).toNatClampNeg ((f4 (21 + p1).toNatClampNeg) + p3)))))).1 v18 = some (.inr (.int, n19, .inl f20)) ∧ vp_in (2 : Int32) n19 ∧ (∃ n21 f22, ((kz_up M v2 (.inr (.int, n5, .inl (upd f6 (21 + p1 : Int32).toNatClampNeg ((f4 (21 + p1).toNatClampNeg) + p3)))))).1 v16 = some (.inr (.int, n21, .inl f22)) ∧ vp_in (3693 + (4 * (f14 (4 : Int32).toNatClampNeg))) n21 ∧ (∀ M23, M23 = kz_up (kz_up M v2 (.inr (.int, n5, .inl (upd f6 (21 + p1 : Int32).toNatClampNeg ((f4 (21 + p1).toNatClampNeg) + p3))))) v16 (.inr (.int, n21, .inl (upd f22 (3693 + (4 * (f14 (4 : Int32).toNatClampNeg)) : Int32).toNatClampNeg (f20 (2 : Int32).toNatClampNeg)))) → ∃ fs24 v25, (M23).1 a0 = some (.inl (11, fs24)) ∧ fs24[0]? = some (.ref v25) ∧ (∃ n26 f27, (M23).1 v25 = some (.inr (.int, n26, .inl f27)) ∧ vp_in ((3693 + (4 * (f14 (4 : Int32).toNatClampNeg))) + 1) n26 ∧ (∃ fs28 v29, ((kz_up M23 v25 (.inr (.int, n26, .inl (upd f27 ((3693 + (4 * (f14 (4 : Int32).toNatClampNeg))) + 1 : Int32).toNatClampNeg p1))))).1 a0 = some (.inl (11, fs28)) ∧ fs28[0]? = some (.ref v29) ∧ (∃ n30 f31, ((kz_up M23 v25 (.inr (.int, n26, .inl (upd f27 ((3693 + (4 * (f14 (4 : Int32).toNatClampNeg))) + 1 : Int32).toNatClampNeg p1))))).1 v29 = some (.inr (.int, n30, .inl f31)) ∧ vp_in ((3693 + (4 * (f14 (4 : Int32).toNatClampNeg))) + 2) n30 ∧ (∀ M32, M32 = kz_up (kz_up M23 v25 (.inr (.int, n26, .inl (upd f27 ((3693 + (4 * (f14 (4 : Int32).toNatClampNeg))) + 1 : Int32).toNatClampNeg p1)))) v29 (.inr (.int, n30, .inl (upd f31 ((3693 + (4 * (f14 (4 : Int32).toNatClampNeg))) + 2 : Int32).toNatClampNeg p2))) → ∃ fs33 v34, (M32).1 a0 = some (.inl (11, fs33)) ∧ fs33[0]? = some (.ref v34) ∧ (∃ n35 f36, (M32).1 v34 = some (.inr (.int, n35, .inl f36)) ∧ vp_in ((3693 + (4 * (f14 (4 : Int32).toNatClampNeg))) + 3) n35 ∧ (∃ fs37 v38, ((kz_up M32 v34 (.inr (.int, n35, .inl (upd f36 ((3693 + (4 * (f14 (4 : Int32).toNatClampNeg))) + 3 : Int32).toNatClampNeg p3))))).1 a0 = some (.inl (11, fs37)) ∧ fs37[0]? = some (.ref v38) ∧ (∃ n39 f40, ((kz_up M32 v34 (.inr (.int, n35, .inl (upd f36 ((3693 + (4 * (f14 (4 : Int32).toNatClampNeg))) + 3 : Int32).toNatClampNeg p3))))).1 v38 = some (.inr (.int, n39, .inl f40)) ∧ vp_in (4 : Int32) n39 ∧ (∃ n41 f42, ((kz_up M32 v34 (.inr (.int, n35, .inl (upd f36 ((3693 + (4 * (f14 (4 : Int32).toNatClampNeg))) + 3 : Int32).toNatClampNeg p3))))).1 v38 = some (.inr (.int, n41, .inl f42)) ∧ vp_in (4 : Int32) n41 ∧ (∀ M43, M43 = kz_up (kz_up M32 v34 (.inr (.int, n35, .inl (upd f36 ((3693 + (4 * (f14 (4 : Int32).toNatClampNeg))) + 3 : Int32).toNatClampNeg p3)))) v38 (.inr (.int, n41, .inl (upd f42 (4 : Int32).toNatClampNeg ((f40 (4 : Int32).toNatClampNeg) + 1)))) → Qr none M43)))))))))))))))) ∧ ((f10 (4 : Int32).toNatClampNeg) = (30 : Int32) → ∃ fs44 v45, ((kz_up M v2 (.inr (.int, n5, .inl (upd f6 (21 + p1 : Int32).toNatClampNeg ((f4 (21 + p1).toNatClampNeg) + p3)))))).1 a0 = some (.inl (11, fs44)) ∧ fs44[0]? = some (.ref v45) ∧ (∃ fs46 v47, ((kz_up M v2 (.inr (.int, n5, .inl (upd f6 (21 + p1 : Int32).toNatClampNeg ((f4 (21 + p1).toNatClampNeg) + p3)))))).1 a0 = some (.inl (11, fs46)) ∧ fs46[0]? = some (.ref v47) ∧ (kz_C G (d + 0) 0 0 mX12_copies [.ref v45, .int 3697, .ref v47, .int 3693, .int 116] (kz_up M v2 (.inr (.int, n5, .inl (upd f6 (21 + p1 : Int32).toNatClampNeg ((f4 (21 + p1).toNatClampNeg) + p3))))) (fun v M48 => v = none ∧ (∃ fs51 v52, (M48).1 a0 = some (.inl (11, fs51)) ∧ fs51[0]? = some (.ref v52) ∧ (∃ n53 f54, (M48).1 v52 = some (.inr (.int, n53, .inl f54)) ∧ vp_in (4 : Int32) n53 ∧ (∃ n55 f56, (M48).1 v52 = some (.inr (.int, n55, .inl f56)) ∧ vp_in (4 : Int32) n55 ∧ (∃ fs57 v58, ((kz_up M48 v52 (.inr (.int, n55, .inl (upd f56 (4 : Int32).toNatClampNeg ((f54 (4 : Int32).toNatClampNeg) - 1)))))).1 a0 = some (.inl (11, fs57)) ∧ fs57[0]? = some (.ref v58) ∧ (∃ n59 f60, ((kz_up M48 v52 (.inr (.int, n55, .inl (upd f56 (4 : Int32).toNatClampNeg ((f54 (4 : Int32).toNatClampNeg) - 1)))))).1 v58 = some (.inr (.int, n59, .inl f60)) ∧ vp_in (4 : Int32) n59 ∧ (∃ fs61 v62, ((kz_up M48 v52 (.inr (.int, n55, .inl (upd f56 (4 : Int32).toNatClampNeg ((f54 (4 : Int32).toNatClampNeg) - 1)))))).1 a0 = some (.inl (11, fs61)) ∧ fs61[0]? = some (.ref v62) ∧ (∃ fs63 v64, ((kz_up M48 v52 (.inr (.int, n55, .inl (upd f56 (4 : Int32).toNatClampNeg ((f54 (4 : Int32).toNatClampNeg) - 1)))))).1 a0 = some (.inl (11, fs63)) ∧ fs63[0]? = some (.ref v64) ∧ (∃ n65 f66, ((kz_up M48 v52 (.inr (.int, n55, .inl (upd f56 (4 : Int32).toNatClampNeg ((f54 (4 : Int32).toNatClampNeg) - 1)))))).1 v64 = some (.inr (.int, n65, .inl f66)) ∧ vp_in (2 : Int32) n65 ∧ (∃ n67 f68, ((kz_up M48 v52 (.inr (.int, n55, .inl (upd f56 (4 : Int32).toNatClampNeg ((f54 (4 : Int32).toNatClampNeg) - 1)))))).1 v62 = some (.inr (.int, n67, .inl f68)) ∧ vp_in (3693 + (4 * (f60 (4 : Int32).toNatClampNeg))) n67 ∧ (∀ M69, M69 = kz_up (kz_up M48 v52 (.inr (.int, n55, .inl (upd f56 (4 : Int32).toNatClampNeg ((f54 (4 : Int32).toNatClampNeg) - 1))))) v62 (.inr (.int, n67, .inl (upd f68 (3693 + (4 * (f60 (4 : Int32).toNatClampNeg)) : Int32).toNatClampNeg (f66 (2 : Int32).toNatClampNeg)))) → ∃ fs70 v71, (M69).1 a0 = some (.inl (11, fs70)) ∧ fs70[0]? = some (.ref v71) ∧ (∃ n72 f73, (M69).1 v71 = some (.inr (.int, n72, .inl f73)) ∧ vp_in ((3693 + (4 * (f60 (4 : Int32).toNatClampNeg))) + 1) n72 ∧ (∃ fs74 v75, ((kz_up M69 v71 (.inr (.int, n72, .inl (upd f73 ((3693 + (4 * (f60 (4 : Int32).toNatClampNeg))) + 1 : Int32).toNatClampNeg p1))))).1 a0 = some (.inl (11, fs74)) ∧ fs74[0]? = some (.ref v75) ∧ (∃ n76 f77, ((kz_up M69 v71 (.inr (.int, n72, .inl (upd f73 ((3693 + (4 * (f60 (4 : Int32).toNatClampNeg))) + 1 : Int32).toNatClampNeg p1))))).1 v75 = some (.inr (.int, n76, .inl f77)) ∧ vp_in ((3693 + (4 * (f60 (4 : Int32).toNatClampNeg))) + 2) n76 ∧ (∀ M78, M78 = kz_up (kz_up M69 v71 (.inr (.int, n72, .inl (upd f73 ((3693 + (4 * (f60 (4 : Int32).toNatClampNeg))) + 1 : Int32).toNatClampNeg p1)))) v75 (.inr (.int, n76, .inl (upd f77 ((3693 + (4 * (f60 (4 : Int32).toNatClampNeg))) + 2 : Int32).toNatClampNeg p2))) → ∃ fs79 v80, (M78).1 a0 = some (.inl (11, fs79)) ∧ fs79[0]? = some (.ref v80) ∧ (∃ n81 f82, (M78).1 v80 = some (.inr (.int, n81, .inl f82)) ∧ vp_in ((3693 + (4 * (f60 (4 : Int32).toNatClampNeg))) + 3) n81 ∧ (∃ fs83 v84, ((kz_up M78 v80 (.inr (.int, n81, .inl (upd f82 ((3693 + (4 * (f60 (4 : Int32).toNatClampNeg))) + 3 : Int32).toNatClampNeg p3))))).1 a0 = some (.inl (11, fs83)) ∧ fs83[0]? = some (.ref v84) ∧ (∃ n85 f86, ((kz_up M78 v80 (.inr (.int, n81, .inl (upd f82 ((3693 + (4 * (f60 (4 : Int32).toNatClampNeg))) + 3 : Int32).toNatClampNeg p3))))).1 v84 = some (.inr (.int, n85, .inl f86)) ∧ vp_in (4 : Int32) n85 ∧ (∃ n87 f88, ((kz_up M78 v80 (.inr (.int, n81, .inl (upd f82 ((3693 + (4 * (f60 (4 : Int32).toNatClampNeg))) + 3 : Int32).toNatClampNeg p3))))).1 v84 = some (.inr (.int, n87, .inl f88)) ∧ vp_in (4 : Int32) n87 ∧ (∀ M89, M89 = kz_up (kz_up M78 v80 (.inr (.int, n81, .inl (upd f82 ((3693 + (4 * (f60 (4 : Int32).toNatClampNeg))) + 3 : Int32).toNatClampNeg p3)))) v84 (.inr (.int, n87, .inl (upd f88 (4 : Int32).toNatClampNeg ((f86 (4 : Int32).toNatClampNeg) + 1)))) → Qr none M89)))))))))))))))))))) Qx)))))) ∧ (p3 = 0 → Qr none (kz_up M v2 (.inr (.int, n5, .inl (upd f6 (21 + p1 : Int32).toNatClampNeg ((f4 (21 + p1).toNatClampNeg) + p3)))))))))) : kz_C G (d + 1) 0 0 mX12_books [.ref a0, .int p1, .int p2, .int p3] M Qr Qx := by
  refine kz_enter (n := 3) kmX12_books.1 (Nat.le_of_ble_eq_true rfl) (ls := [(0, .ref a0), (1, .int p1), (2, .int p2), (3, .int p3)]) rfl ?_
  refine kz_aload_n (pc := 0) 0 (v := .ref a0) (i := 0) rfl rfl rfl dX12_books_0 ?_
  obtain ⟨fs1, v2, hM, hv, h⟩ := h
  refine kz_getf (pc := 1) (k := 0) kcX12 hM hv (by decide) kw_1378 dX12_books_1 ?_
  refine kz_bipush (pc := 4) (v := 21) (by decide) dX12_books_4 ?_
  refine kz_iload_n (pc := 6) 1 (i := 1) rfl rfl dX12_books_6 ?_
  refine kz_iadd (pc := 7) dX12_books_7 ?_
  refine kz_dup2_11 (pc := 8) rfl rfl dX12_books_8 ?_
  obtain ⟨n3, f4, hM, hi, h⟩ := h
  refine kz_iald (pc := 9) hM hi dX12_books_9 ?_
  refine kz_iload_n (pc := 10) 3 (i := 3) rfl rfl dX12_books_10 ?_
  refine kz_iadd (pc := 11) dX12_books_11 ?_
  obtain ⟨n5, f6, hM, hi, h⟩ := h
  refine kz_iast (pc := 12) hM hi dX12_books_12 ?_
  refine kz_iload_n (pc := 13) 3 (i := 3) rfl rfl dX12_books_13 ?_
  refine kz_if_ne (pc := 14) (tgt := 18) (by decide) dX12_books_14 (fun hb => ?_) (fun hb => ?_)
  · replace h := h.1 hb
    refine kz_aload_n (pc := 18) 0 (v := .ref a0) (i := 0) rfl rfl rfl dX12_books_18 ?_
    obtain ⟨fs7, v8, hM, hv, h⟩ := h
    refine kz_getf (pc := 19) (k := 0) kcX12 hM hv (by decide) kw_1378 dX12_books_19 ?_
    refine kz_iconst (pc := 22) (v := 4) (by decide) dX12_books_22 ?_
    obtain ⟨n9, f10, hM, hi, h⟩ := h
    refine kz_iald (pc := 23) hM hi dX12_books_23 ?_
    refine kz_bipush (pc := 24) (v := 30) (by decide) dX12_books_24 ?_
    refine kz_icmp_ne (pc := 26) (tgt := 58) (by decide) dX12_books_26 (fun hb => ?_) (fun hb => ?_)
    · replace h := h.1 hb
      refine kz_sipush (pc := 58) (v := 3693) (by decide) dX12_books_58 ?_
      refine kz_iconst (pc := 61) (v := 4) (by decide) dX12_books_61 ?_
      refine kz_aload_n (pc := 62) 0 (v := .ref a0) (i := 0) rfl rfl rfl dX12_books_62 ?_
      obtain ⟨fs11, v12, hM, hv, h⟩ := h
      refine kz_getf (pc := 63) (k := 0) kcX12 hM hv (by decide) kw_1378 dX12_books_63 ?_
      refine kz_iconst (pc := 66) (v := 4) (by decide) dX12_books_66 ?_
      obtain ⟨n13, f14, hM, hi, h⟩ := h
      refine kz_iald (pc := 67) hM hi dX12_books_67 ?_
      refine kz_imul (pc := 68) dX12_books_68 ?_
      refine kz_iadd (pc := 69) dX12_books_69 ?_
      refine kz_istore (pc := 70) (i := 4) (ls' := [(0, .ref a0), (1, .int p1), (2, .int p2), (3, .int p3)]) (by decide) rfl dX12_books_70 ?_
      refine kz_aload_n (pc := 72) 1 (v := .ref a0) (i := 0) rfl rfl rfl dX12_books_72 ?_
      obtain ⟨fs15, v16, hM, hv, h⟩ := h
      refine kz_getf (pc := 73) (k := 0) kcX12 hM hv (by decide) kw_1378 dX12_books_73 ?_
      refine kz_iload (pc := 76) 0 (i := 4) rfl dX12_books_76 ?_
      refine kz_aload_n (pc := 78) 1 (v := .ref a0) (i := 0) rfl rfl rfl dX12_books_78 ?_
      obtain ⟨fs17, v18, hM, hv, h⟩ := h
      refine kz_getf (pc := 79) (k := 0) kcX12 hM hv (by decide) kw_1378 dX12_books_79 ?_
      refine kz_iconst (pc := 82) (v := 2) (by decide) dX12_books_82 ?_
      obtain ⟨n19, f20, hM, hi, h⟩ := h
      refine kz_iald (pc := 83) hM hi dX12_books_83 ?_
      obtain ⟨n21, f22, hM, hi, h⟩ := h
      refine kz_iast (pc := 84) hM hi dX12_books_84 ?_
      refine kz_nameM (fun M23 e9 => ?_)
      replace h := h M23 e9
      refine kz_aload_n (pc := 85) 1 (v := .ref a0) (i := 0) rfl rfl rfl dX12_books_85 ?_
      obtain ⟨fs24, v25, hM, hv, h⟩ := h
      refine kz_getf (pc := 86) (k := 0) kcX12 hM hv (by decide) kw_1378 dX12_books_86 ?_
      refine kz_iload (pc := 89) 0 (i := 4) rfl dX12_books_89 ?_
      refine kz_iconst (pc := 91) (v := 1) (by decide) dX12_books_91 ?_
      refine kz_iadd (pc := 92) dX12_books_92 ?_
      refine kz_iload_n (pc := 93) 2 (i := 1) rfl rfl dX12_books_93 ?_
      obtain ⟨n26, f27, hM, hi, h⟩ := h
      refine kz_iast (pc := 94) hM hi dX12_books_94 ?_
      refine kz_aload_n (pc := 95) 1 (v := .ref a0) (i := 0) rfl rfl rfl dX12_books_95 ?_
      obtain ⟨fs28, v29, hM, hv, h⟩ := h
      refine kz_getf (pc := 96) (k := 0) kcX12 hM hv (by decide) kw_1378 dX12_books_96 ?_
      refine kz_iload (pc := 99) 0 (i := 4) rfl dX12_books_99 ?_
      refine kz_iconst (pc := 101) (v := 2) (by decide) dX12_books_101 ?_
      refine kz_iadd (pc := 102) dX12_books_102 ?_
      refine kz_iload_n (pc := 103) 3 (i := 2) rfl rfl dX12_books_103 ?_
      obtain ⟨n30, f31, hM, hi, h⟩ := h
      refine kz_iast (pc := 104) hM hi dX12_books_104 ?_
      refine kz_nameM (fun M32 e9 => ?_)
      replace h := h M32 e9
      refine kz_aload_n (pc := 105) 1 (v := .ref a0) (i := 0) rfl rfl rfl dX12_books_105 ?_
      obtain ⟨fs33, v34, hM, hv, h⟩ := h
      refine kz_getf (pc := 106) (k := 0) kcX12 hM hv (by decide) kw_1378 dX12_books_106 ?_
      refine kz_iload (pc := 109) 0 (i := 4) rfl dX12_books_109 ?_
      refine kz_iconst (pc := 111) (v := 3) (by decide) dX12_books_111 ?_
      refine kz_iadd (pc := 112) dX12_books_112 ?_
      refine kz_iload_n (pc := 113) 4 (i := 3) rfl rfl dX12_books_113 ?_
      obtain ⟨n35, f36, hM, hi, h⟩ := h
      refine kz_iast (pc := 114) hM hi dX12_books_114 ?_
      refine kz_aload_n (pc := 115) 1 (v := .ref a0) (i := 0) rfl rfl rfl dX12_books_115 ?_
      obtain ⟨fs37, v38, hM, hv, h⟩ := h
      refine kz_getf (pc := 116) (k := 0) kcX12 hM hv (by decide) kw_1378 dX12_books_116 ?_
      refine kz_iconst (pc := 119) (v := 4) (by decide) dX12_books_119 ?_
      refine kz_dup2_11 (pc := 120) rfl rfl dX12_books_120 ?_
      obtain ⟨n39, f40, hM, hi, h⟩ := h
      refine kz_iald (pc := 121) hM hi dX12_books_121 ?_
      refine kz_iconst (pc := 122) (v := 1) (by decide) dX12_books_122 ?_
      refine kz_iadd (pc := 123) dX12_books_123 ?_
      obtain ⟨n41, f42, hM, hi, h⟩ := h
      refine kz_iast (pc := 124) hM hi dX12_books_124 ?_
      refine kz_nameM (fun M43 e9 => ?_)
      replace h := h M43 e9
      exact kz_vret (pc := 125) rfl (Nat.le_refl _) (Nat.le_refl _) dX12_books_125 h
    · replace h := h.2 hb
      refine kz_aload_n (pc := 29) 0 (v := .ref a0) (i := 0) rfl rfl rfl dX12_books_29 ?_
      obtain ⟨fs44, v45, hM, hv, h⟩ := h
      refine kz_getf (pc := 30) (k := 0) kcX12 hM hv (by decide) kw_1378 dX12_books_30 ?_
      refine kz_sipush (pc := 33) (v := 3697) (by decide) dX12_books_33 ?_
      refine kz_aload_n (pc := 36) 0 (v := .ref a0) (i := 0) rfl rfl rfl dX12_books_36 ?_
      obtain ⟨fs46, v47, hM, hv, h⟩ := h
      refine kz_getf (pc := 37) (k := 0) kcX12 hM hv (by decide) kw_1378 dX12_books_37 ?_
      refine kz_sipush (pc := 40) (v := 3693) (by decide) dX12_books_40 ?_
      refine kz_bipush (pc := 43) (v := 116) (by decide) dX12_books_43 ?_
      refine kz_callS (pc := 45) (μ' := mX12_copies) (d' := d + 0) (mc' := 0) (ms' := 0) (As := [.ref v45, .int 3697, .ref v47, .int 3693, .int 116]) (st := []) (c := 0) (sl := 0) kmX12_copies kw_1498 (by omega) rfl (Nat.le_of_ble_eq_true rfl) (Nat.le_refl _) (Nat.le_refl _) dX12_books_45 (fun E M9 hx => kz_Tout rfl (Nat.le_refl _) (Nat.le_refl _) hx) (kz_Cmono (fun v M48 h => ?_) (fun _ _ h => h) h)
      obtain ⟨rfl, h⟩ := h
      show kz_Z G (d + 1) 0 0 mX12_books Qr Qx 48 [(0, .ref a0), (1, .int p1), (2, .int p2), (3, .int p3)] [] M48 0 0
      refine kz_aload_n (pc := 48) 0 (v := .ref a0) (i := 0) rfl rfl rfl dX12_books_48 ?_
      obtain ⟨fs51, v52, hM, hv, h⟩ := h
      refine kz_getf (pc := 49) (k := 0) kcX12 hM hv (by decide) kw_1378 dX12_books_49 ?_
      refine kz_iconst (pc := 52) (v := 4) (by decide) dX12_books_52 ?_
      refine kz_dup2_11 (pc := 53) rfl rfl dX12_books_53 ?_
      obtain ⟨n53, f54, hM, hi, h⟩ := h
      refine kz_iald (pc := 54) hM hi dX12_books_54 ?_
      refine kz_iconst (pc := 55) (v := 1) (by decide) dX12_books_55 ?_
      refine kz_isub (pc := 56) dX12_books_56 ?_
      obtain ⟨n55, f56, hM, hi, h⟩ := h
      refine kz_iast (pc := 57) hM hi dX12_books_57 ?_
      refine kz_sipush (pc := 58) (v := 3693) (by decide) dX12_books_58 ?_
      refine kz_iconst (pc := 61) (v := 4) (by decide) dX12_books_61 ?_
      refine kz_aload_n (pc := 62) 0 (v := .ref a0) (i := 0) rfl rfl rfl dX12_books_62 ?_
      obtain ⟨fs57, v58, hM, hv, h⟩ := h
      refine kz_getf (pc := 63) (k := 0) kcX12 hM hv (by decide) kw_1378 dX12_books_63 ?_
      refine kz_iconst (pc := 66) (v := 4) (by decide) dX12_books_66 ?_
      obtain ⟨n59, f60, hM, hi, h⟩ := h
      refine kz_iald (pc := 67) hM hi dX12_books_67 ?_
      refine kz_imul (pc := 68) dX12_books_68 ?_
      refine kz_iadd (pc := 69) dX12_books_69 ?_
      refine kz_istore (pc := 70) (i := 4) (ls' := [(0, .ref a0), (1, .int p1), (2, .int p2), (3, .int p3)]) (by decide) rfl dX12_books_70 ?_
      refine kz_aload_n (pc := 72) 1 (v := .ref a0) (i := 0) rfl rfl rfl dX12_books_72 ?_
      obtain ⟨fs61, v62, hM, hv, h⟩ := h
      refine kz_getf (pc := 73) (k := 0) kcX12 hM hv (by decide) kw_1378 dX12_books_73 ?_
      refine kz_iload (pc := 76) 0 (i := 4) rfl dX12_books_76 ?_
      refine kz_aload_n (pc := 78) 1 (v := .ref a0) (i := 0) rfl rfl rfl dX12_books_78 ?_
      obtain ⟨fs63, v64, hM, hv, h⟩ := h
      refine kz_getf (pc := 79) (k := 0) kcX12 hM hv (by decide) kw_1378 dX12_books_79 ?_
      refine kz_iconst (pc := 82) (v := 2) (by decide) dX12_books_82 ?_
      obtain ⟨n65, f66, hM, hi, h⟩ := h
      refine kz_iald (pc := 83) hM hi dX12_books_83 ?_
      obtain ⟨n67, f68, hM, hi, h⟩ := h
      refine kz_iast (pc := 84) hM hi dX12_books_84 ?_
      refine kz_nameM (fun M69 e9 => ?_)
      replace h := h M69 e9
      refine kz_aload_n (pc := 85) 1 (v := .ref a0) (i := 0) rfl rfl rfl dX12_books_85 ?_
      obtain ⟨fs70, v71, hM, hv, h⟩ := h
      refine kz_getf (pc := 86) (k := 0) kcX12 hM hv (by decide) kw_1378 dX12_books_86 ?_
      refine kz_iload (pc := 89) 0 (i := 4) rfl dX12_books_89 ?_
      refine kz_iconst (pc := 91) (v := 1) (by decide) dX12_books_91 ?_
      refine kz_iadd (pc := 92) dX12_books_92 ?_
      refine kz_iload_n (pc := 93) 2 (i := 1) rfl rfl dX12_books_93 ?_
      obtain ⟨n72, f73, hM, hi, h⟩ := h
      refine kz_iast (pc := 94) hM hi dX12_books_94 ?_
      refine kz_aload_n (pc := 95) 1 (v := .ref a0) (i := 0) rfl rfl rfl dX12_books_95 ?_
      obtain ⟨fs74, v75, hM, hv, h⟩ := h
      refine kz_getf (pc := 96) (k := 0) kcX12 hM hv (by decide) kw_1378 dX12_books_96 ?_
      refine kz_iload (pc := 99) 0 (i := 4) rfl dX12_books_99 ?_
      refine kz_iconst (pc := 101) (v := 2) (by decide) dX12_books_101 ?_
      refine kz_iadd (pc := 102) dX12_books_102 ?_
      refine kz_iload_n (pc := 103) 3 (i := 2) rfl rfl dX12_books_103 ?_
      obtain ⟨n76, f77, hM, hi, h⟩ := h
      refine kz_iast (pc := 104) hM hi dX12_books_104 ?_
      refine kz_nameM (fun M78 e9 => ?_)
      replace h := h M78 e9
      refine kz_aload_n (pc := 105) 1 (v := .ref a0) (i := 0) rfl rfl rfl dX12_books_105 ?_
      obtain ⟨fs79, v80, hM, hv, h⟩ := h
      refine kz_getf (pc := 106) (k := 0) kcX12 hM hv (by decide) kw_1378 dX12_books_106 ?_
      refine kz_iload (pc := 109) 0 (i := 4) rfl dX12_books_109 ?_
      refine kz_iconst (pc := 111) (v := 3) (by decide) dX12_books_111 ?_
      refine kz_iadd (pc := 112) dX12_books_112 ?_
      refine kz_iload_n (pc := 113) 4 (i := 3) rfl rfl dX12_books_113 ?_
      obtain ⟨n81, f82, hM, hi, h⟩ := h
      refine kz_iast (pc := 114) hM hi dX12_books_114 ?_
      refine kz_aload_n (pc := 115) 1 (v := .ref a0) (i := 0) rfl rfl rfl dX12_books_115 ?_
      obtain ⟨fs83, v84, hM, hv, h⟩ := h
      refine kz_getf (pc := 116) (k := 0) kcX12 hM hv (by decide) kw_1378 dX12_books_116 ?_
      refine kz_iconst (pc := 119) (v := 4) (by decide) dX12_books_119 ?_
      refine kz_dup2_11 (pc := 120) rfl rfl dX12_books_120 ?_
      obtain ⟨n85, f86, hM, hi, h⟩ := h
      refine kz_iald (pc := 121) hM hi dX12_books_121 ?_
      refine kz_iconst (pc := 122) (v := 1) (by decide) dX12_books_122 ?_
      refine kz_iadd (pc := 123) dX12_books_123 ?_
      obtain ⟨n87, f88, hM, hi, h⟩ := h
      refine kz_iast (pc := 124) hM hi dX12_books_124 ?_
      refine kz_nameM (fun M89 e9 => ?_)
      replace h := h M89 e9
      exact kz_vret (pc := 125) rfl (Nat.le_refl _) (Nat.le_refl _) dX12_books_125 h
  · replace h := h.2 hb
    exact kz_vret (pc := 17) rfl (Nat.le_refl _) (Nat.le_refl _) dX12_books_17 h
theorem dX12_appendWord_0 : decode cX12_appendWord 0 = .ok (.bipush 24, 2) := by decide +kernel
theorem dX12_appendWord_2 : decode cX12_appendWord 2 = .ok (.istore_n 2, 1) := by decide +kernel
theorem dX12_appendWord_3 : decode cX12_appendWord 3 = .ok (.iload_n 2, 1) := by decide +kernel
theorem dX12_appendWord_4 : decode cX12_appendWord 4 = .ok (.ifCond .lt 35, 3) := by decide +kernel
theorem dX12_appendWord_7 : decode cX12_appendWord 7 = .ok (.aload_n 0, 1) := by decide +kernel
theorem dX12_appendWord_8 : decode cX12_appendWord 8 = .ok (.getfield 47, 3) := by decide +kernel
theorem dX12_appendWord_11 : decode cX12_appendWord 11 = .ok (.aload_n 0, 1) := by decide +kernel
theorem dX12_appendWord_12 : decode cX12_appendWord 12 = .ok (.getfield 177, 3) := by decide +kernel
theorem dX12_appendWord_15 : decode cX12_appendWord 15 = .ok (.iload_n 1, 1) := by decide +kernel
theorem dX12_appendWord_16 : decode cX12_appendWord 16 = .ok (.iload_n 2, 1) := by decide +kernel
theorem dX12_appendWord_17 : decode cX12_appendWord 17 = .ok (.ishr, 1) := by decide +kernel
theorem dX12_appendWord_18 : decode cX12_appendWord 18 = .ok (.sipush 255, 3) := by decide +kernel
theorem dX12_appendWord_21 : decode cX12_appendWord 21 = .ok (.iand, 1) := by decide +kernel
theorem dX12_appendWord_22 : decode cX12_appendWord 22 = .ok (.iastore, 1) := by decide +kernel
theorem dX12_appendWord_23 : decode cX12_appendWord 23 = .ok (.aload_n 0, 1) := by decide +kernel
theorem dX12_appendWord_24 : decode cX12_appendWord 24 = .ok (.dup, 1) := by decide +kernel
theorem dX12_appendWord_25 : decode cX12_appendWord 25 = .ok (.getfield 177, 3) := by decide +kernel
theorem dX12_appendWord_28 : decode cX12_appendWord 28 = .ok (.iconst 1, 1) := by decide +kernel
theorem dX12_appendWord_29 : decode cX12_appendWord 29 = .ok (.iadd, 1) := by decide +kernel
theorem dX12_appendWord_30 : decode cX12_appendWord 30 = .ok (.putfield 177, 3) := by decide +kernel
theorem dX12_appendWord_33 : decode cX12_appendWord 33 = .ok (.iinc 2 (-8), 3) := by decide +kernel
theorem dX12_appendWord_36 : decode cX12_appendWord 36 = .ok (.goto (-33), 3) := by decide +kernel
theorem dX12_appendWord_39 : decode cX12_appendWord 39 = .ok (.return_, 1) := by decide +kernel
def zX12_appendWord_3 (G : kz_G) (d : Nat) (Qr : Option Value → kz_M → Prop) (Qx : String → kz_M → Prop) (x0 : Nat) (x1 : Int32) (x2 : Int32)  (M : kz_M) : Prop := kz_Z G d 0 0 mX12_appendWord Qr Qx 3 [(0, .ref x0), (1, .int x1), (2, .int x2)] [] M 0 0
theorem rX12_appendWord_0 {G : kz_G} {d : Nat} {Qr : Option Value → kz_M → Prop} {Qx : String → kz_M → Prop} {a0 : Nat} {p1 : Int32}  {M : kz_M} (h : zX12_appendWord_3 G d Qr Qx a0 p1 24 M) : kz_C G d 0 0 mX12_appendWord [.ref a0, .int p1] M Qr Qx := by
  refine kz_enter (n := 1) kmX12_appendWord.1 (Nat.le_of_ble_eq_true rfl) (ls := [(0, .ref a0), (1, .int p1)]) rfl ?_
  refine kz_bipush (pc := 0) (v := 24) (by decide) dX12_appendWord_0 ?_
  refine kz_istore_n (pc := 2) (i := 2) (ls' := [(0, .ref a0), (1, .int p1)]) rfl (by decide) rfl dX12_appendWord_2 ?_
  refine kz_sub [1, 2, 0] rfl ?_
  exact h
theorem rX12_appendWord_3 {G : kz_G} {d : Nat} {Qr : Option Value → kz_M → Prop} {Qx : String → kz_M → Prop} {x0 : Nat} {x1 : Int32} {x2 : Int32}  {M : kz_M} (h : (x2 < 0 → Qr none M) ∧ (¬ x2 < 0 → ∃ fs1 v2, (M).1 x0 = some (.inl (11, fs1)) ∧ fs1[18]? = some (.ref v2) ∧ (∃ fs3 v4, (M).1 x0 = some (.inl (11, fs3)) ∧ fs3[19]? = some (.int v4) ∧ (∃ n5 f6, (M).1 v2 = some (.inr (.int, n5, .inl f6)) ∧ vp_in v4 n5 ∧ (∃ fs7 v8, ((kz_up M v2 (.inr (.int, n5, .inl (upd f6 (v4 : Int32).toNatClampNeg ((x1 >>> (x2 &&& 31)) &&& 255)))))).1 x0 = some (.inl (11, fs7)) ∧ fs7[19]? = some (.int v8) ∧ (∃ fs9, ((kz_up M v2 (.inr (.int, n5, .inl (upd f6 (v4 : Int32).toNatClampNeg ((x1 >>> (x2 &&& 31)) &&& 255)))))).1 x0 = some (.inl (11, fs9)) ∧ 19 < fs9.length ∧ (∀ M10, M10 = kz_up (kz_up M v2 (.inr (.int, n5, .inl (upd f6 (v4 : Int32).toNatClampNeg ((x1 >>> (x2 &&& 31)) &&& 255))))) x0 (.inl (11, fs9.set 19 (.int (v8 + 1)))) → zX12_appendWord_3 G d Qr Qx x0 x1 (x2 + (-8)) M10))))))) : zX12_appendWord_3 G d Qr Qx x0 x1 x2  M := by
  show kz_Z G d 0 0 mX12_appendWord Qr Qx 3 [(0, .ref x0), (1, .int x1), (2, .int x2)] [] M 0 0
  refine kz_iload_n (pc := 3) 2 (i := 2) rfl rfl dX12_appendWord_3 ?_
  refine kz_if_lt (pc := 4) (tgt := 39) (by decide) dX12_appendWord_4 (fun hb => ?_) (fun hb => ?_)
  · replace h := h.1 hb
    exact kz_vret (pc := 39) rfl (Nat.le_refl _) (Nat.le_refl _) dX12_appendWord_39 h
  · replace h := h.2 hb
    refine kz_aload_n (pc := 7) 0 (v := .ref x0) (i := 0) rfl rfl rfl dX12_appendWord_7 ?_
    obtain ⟨fs1, v2, hM, hv, h⟩ := h
    refine kz_getf (pc := 8) (k := 18) kcX12 hM hv (by decide) kw_1396 dX12_appendWord_8 ?_
    refine kz_aload_n (pc := 11) 0 (v := .ref x0) (i := 0) rfl rfl rfl dX12_appendWord_11 ?_
    obtain ⟨fs3, v4, hM, hv, h⟩ := h
    refine kz_getf (pc := 12) (k := 19) kcX12 hM hv (by decide) kw_1397 dX12_appendWord_12 ?_
    refine kz_iload_n (pc := 15) 1 (i := 1) rfl rfl dX12_appendWord_15 ?_
    refine kz_iload_n (pc := 16) 2 (i := 2) rfl rfl dX12_appendWord_16 ?_
    refine kz_ishr (pc := 17) dX12_appendWord_17 ?_
    refine kz_sipush (pc := 18) (v := 255) (by decide) dX12_appendWord_18 ?_
    refine kz_iand (pc := 21) dX12_appendWord_21 ?_
    obtain ⟨n5, f6, hM, hi, h⟩ := h
    refine kz_iast (pc := 22) hM hi dX12_appendWord_22 ?_
    refine kz_aload_n (pc := 23) 0 (v := .ref x0) (i := 0) rfl rfl rfl dX12_appendWord_23 ?_
    refine kz_dup (pc := 24) rfl dX12_appendWord_24 ?_
    obtain ⟨fs7, v8, hM, hv, h⟩ := h
    refine kz_getf (pc := 25) (k := 19) kcX12 hM hv (by decide) kw_1397 dX12_appendWord_25 ?_
    refine kz_iconst (pc := 28) (v := 1) (by decide) dX12_appendWord_28 ?_
    refine kz_iadd (pc := 29) dX12_appendWord_29 ?_
    obtain ⟨fs9, hM, hlen, h⟩ := h
    refine kz_putf (pc := 30) (k := 19) kcX12 hM (by decide) hlen kw_1397 rfl rfl rfl dX12_appendWord_30 ?_
    refine kz_nameM (fun M10 e9 => ?_)
    replace h := h M10 e9
    refine kz_iinc (pc := 33) 2 (i := 2) (v := x2 + (-8)) (ls' := [(0, .ref x0), (1, .int x1)]) rfl (congrArg (fun z => x2 + z) (by decide)) (by decide) rfl dX12_appendWord_33 ?_
    refine kz_goto (pc := 36) (tgt := 3) (by decide) dX12_appendWord_36 ?_
    refine kz_sub [1, 2, 0] rfl ?_
    exact h
theorem dX12_appendInput_0 : decode cX12_appendInput 0 = .ok (.aload_n 0, 1) := by decide +kernel
theorem dX12_appendInput_1 : decode cX12_appendInput 1 = .ok (.iconst 0, 1) := by decide +kernel
theorem dX12_appendInput_2 : decode cX12_appendInput 2 = .ok (.putfield 60, 3) := by decide +kernel
theorem dX12_appendInput_5 : decode cX12_appendInput 5 = .ok (.aload_n 0, 1) := by decide +kernel
theorem dX12_appendInput_6 : decode cX12_appendInput 6 = .ok (.getfield 177, 3) := by decide +kernel
theorem dX12_appendInput_9 : decode cX12_appendInput 9 = .ok (.bipush 20, 2) := by decide +kernel
theorem dX12_appendInput_11 : decode cX12_appendInput 11 = .ok (.iadd, 1) := by decide +kernel
theorem dX12_appendInput_12 : decode cX12_appendInput 12 = .ok (.sipush 600, 3) := by decide +kernel
theorem dX12_appendInput_15 : decode cX12_appendInput 15 = .ok (.if_icmp .le 5, 3) := by decide +kernel
theorem dX12_appendInput_18 : decode cX12_appendInput 18 = .ok (.iconst (-1), 1) := by decide +kernel
theorem dX12_appendInput_19 : decode cX12_appendInput 19 = .ok (.ireturn, 1) := by decide +kernel
theorem dX12_appendInput_20 : decode cX12_appendInput 20 = .ok (.aload_n 0, 1) := by decide +kernel
theorem dX12_appendInput_21 : decode cX12_appendInput 21 = .ok (.iload_n 1, 1) := by decide +kernel
theorem dX12_appendInput_22 : decode cX12_appendInput 22 = .ok (.invokevirtual 180, 3) := by decide +kernel
theorem dX12_appendInput_25 : decode cX12_appendInput 25 = .ok (.aload_n 0, 1) := by decide +kernel
theorem dX12_appendInput_26 : decode cX12_appendInput 26 = .ok (.iload_n 2, 1) := by decide +kernel
theorem dX12_appendInput_27 : decode cX12_appendInput 27 = .ok (.invokevirtual 180, 3) := by decide +kernel
theorem dX12_appendInput_30 : decode cX12_appendInput 30 = .ok (.aload_n 0, 1) := by decide +kernel
theorem dX12_appendInput_31 : decode cX12_appendInput 31 = .ok (.iload_n 3, 1) := by decide +kernel
theorem dX12_appendInput_32 : decode cX12_appendInput 32 = .ok (.invokevirtual 180, 3) := by decide +kernel
theorem dX12_appendInput_35 : decode cX12_appendInput 35 = .ok (.aload_n 0, 1) := by decide +kernel
theorem dX12_appendInput_36 : decode cX12_appendInput 36 = .ok (.iload 4, 2) := by decide +kernel
theorem dX12_appendInput_38 : decode cX12_appendInput 38 = .ok (.invokevirtual 180, 3) := by decide +kernel
theorem dX12_appendInput_41 : decode cX12_appendInput 41 = .ok (.aload_n 0, 1) := by decide +kernel
theorem dX12_appendInput_42 : decode cX12_appendInput 42 = .ok (.iload 5, 2) := by decide +kernel
theorem dX12_appendInput_44 : decode cX12_appendInput 44 = .ok (.invokevirtual 180, 3) := by decide +kernel
theorem dX12_appendInput_47 : decode cX12_appendInput 47 = .ok (.aload_n 0, 1) := by decide +kernel
theorem dX12_appendInput_48 : decode cX12_appendInput 48 = .ok (.getfield 177, 3) := by decide +kernel
theorem dX12_appendInput_51 : decode cX12_appendInput 51 = .ok (.ireturn, 1) := by decide +kernel
theorem rX12_appendInput_0 {G : kz_G} {d : Nat} {Qr : Option Value → kz_M → Prop} {Qx : String → kz_M → Prop} {a0 : Nat} {p1 : Int32} {p2 : Int32} {p3 : Int32} {p4 : Int32} {p5 : Int32}  {M : kz_M} (h : ∃ fs1, (M).1 a0 = some (.inl (11, fs1)) ∧ 9 < fs1.length ∧ (∃ fs2 v3, ((kz_up M a0 (.inl (11, fs1.set 9 (.int 0))))).1 a0 = some (.inl (11, fs2)) ∧ fs2[19]? = some (.int v3) ∧ (((v3 + 20) ≤ (600 : Int32) → (∃ fs25, ((kz_up M a0 (.inl (11, fs1.set 9 (.int 0))))).1 a0 = some (.inl (11, fs25))) ∧ kz_C G (d + 0) 0 0 mX12_appendWord [.ref a0, .int p1] (kz_up M a0 (.inl (11, fs1.set 9 (.int 0)))) (fun v M4 => v = none ∧ ((∃ fs24, (M4).1 a0 = some (.inl (11, fs24))) ∧ kz_C G (d + 0) 0 0 mX12_appendWord [.ref a0, .int p2] M4 (fun v M7 => v = none ∧ ((∃ fs23, (M7).1 a0 = some (.inl (11, fs23))) ∧ kz_C G (d + 0) 0 0 mX12_appendWord [.ref a0, .int p3] M7 (fun v M10 => v = none ∧ ((∃ fs22, (M10).1 a0 = some (.inl (11, fs22))) ∧ kz_C G (d + 0) 0 0 mX12_appendWord [.ref a0, .int p4] M10 (fun v M13 => v = none ∧ ((∃ fs21, (M13).1 a0 = some (.inl (11, fs21))) ∧ kz_C G (d + 0) 0 0 mX12_appendWord [.ref a0, .int p5] M13 (fun v M16 => v = none ∧ (∃ fs19 v20, (M16).1 a0 = some (.inl (11, fs19)) ∧ fs19[19]? = some (.int v20) ∧ (Qr (some (.int v20)) M16))) Qx)) Qx)) Qx)) Qx)) Qx) ∧ (¬ (v3 + 20) ≤ (600 : Int32) → Qr (some (.int ((-1)))) (kz_up M a0 (.inl (11, fs1.set 9 (.int 0)))))))) : kz_C G (d + 1) 0 0 mX12_appendInput [.ref a0, .int p1, .int p2, .int p3, .int p4, .int p5] M Qr Qx := by
  refine kz_enter (n := 5) kmX12_appendInput.1 (Nat.le_of_ble_eq_true rfl) (ls := [(0, .ref a0), (1, .int p1), (2, .int p2), (3, .int p3), (4, .int p4), (5, .int p5)]) rfl ?_
  refine kz_aload_n (pc := 0) 0 (v := .ref a0) (i := 0) rfl rfl rfl dX12_appendInput_0 ?_
  refine kz_iconst (pc := 1) (v := 0) (by decide) dX12_appendInput_1 ?_
  obtain ⟨fs1, hM, hlen, h⟩ := h
  refine kz_putf (pc := 2) (k := 9) kcX12 hM (by decide) hlen kw_1387 rfl rfl rfl dX12_appendInput_2 ?_
  refine kz_aload_n (pc := 5) 0 (v := .ref a0) (i := 0) rfl rfl rfl dX12_appendInput_5 ?_
  obtain ⟨fs2, v3, hM, hv, h⟩ := h
  refine kz_getf (pc := 6) (k := 19) kcX12 hM hv (by decide) kw_1397 dX12_appendInput_6 ?_
  refine kz_bipush (pc := 9) (v := 20) (by decide) dX12_appendInput_9 ?_
  refine kz_iadd (pc := 11) dX12_appendInput_11 ?_
  refine kz_sipush (pc := 12) (v := 600) (by decide) dX12_appendInput_12 ?_
  refine kz_icmp_le (pc := 15) (tgt := 20) (by decide) dX12_appendInput_15 (fun hb => ?_) (fun hb => ?_)
  · replace h := h.1 hb
    refine kz_aload_n (pc := 20) 0 (v := .ref a0) (i := 0) rfl rfl rfl dX12_appendInput_20 ?_
    refine kz_iload_n (pc := 21) 1 (i := 1) rfl rfl dX12_appendInput_21 ?_
    obtain ⟨⟨fs25, he⟩, h⟩ := h
    refine kz_callV (pc := 22) (μ' := mX12_appendWord) (ci := 11) (q := (RX12, TX12, 32)) (b := a0) (d' := d + 0) (mc' := 0) (ms' := 0) (As := [.int p1]) (st := []) (c := 0) (sl := 0) kmX12_appendWord kw_1483 (by omega) rfl (Nat.le_of_ble_eq_true rfl) he rfl rfl (Nat.le_refl _) (Nat.le_refl _) dX12_appendInput_22 (fun E M9 hx => kz_Tout rfl (Nat.le_refl _) (Nat.le_refl _) hx) (kz_Cmono (fun v M4 h => ?_) (fun _ _ h => h) h)
    obtain ⟨rfl, h⟩ := h
    show kz_Z G (d + 1) 0 0 mX12_appendInput Qr Qx 25 [(0, .ref a0), (1, .int p1), (2, .int p2), (3, .int p3), (4, .int p4), (5, .int p5)] [] M4 0 0
    refine kz_aload_n (pc := 25) 0 (v := .ref a0) (i := 0) rfl rfl rfl dX12_appendInput_25 ?_
    refine kz_iload_n (pc := 26) 2 (i := 2) rfl rfl dX12_appendInput_26 ?_
    obtain ⟨⟨fs24, he⟩, h⟩ := h
    refine kz_callV (pc := 27) (μ' := mX12_appendWord) (ci := 11) (q := (RX12, TX12, 32)) (b := a0) (d' := d + 0) (mc' := 0) (ms' := 0) (As := [.int p2]) (st := []) (c := 0) (sl := 0) kmX12_appendWord kw_1483 (by omega) rfl (Nat.le_of_ble_eq_true rfl) he rfl rfl (Nat.le_refl _) (Nat.le_refl _) dX12_appendInput_27 (fun E M9 hx => kz_Tout rfl (Nat.le_refl _) (Nat.le_refl _) hx) (kz_Cmono (fun v M7 h => ?_) (fun _ _ h => h) h)
    obtain ⟨rfl, h⟩ := h
    show kz_Z G (d + 1) 0 0 mX12_appendInput Qr Qx 30 [(0, .ref a0), (1, .int p1), (2, .int p2), (3, .int p3), (4, .int p4), (5, .int p5)] [] M7 0 0
    refine kz_aload_n (pc := 30) 0 (v := .ref a0) (i := 0) rfl rfl rfl dX12_appendInput_30 ?_
    refine kz_iload_n (pc := 31) 3 (i := 3) rfl rfl dX12_appendInput_31 ?_
    obtain ⟨⟨fs23, he⟩, h⟩ := h
    refine kz_callV (pc := 32) (μ' := mX12_appendWord) (ci := 11) (q := (RX12, TX12, 32)) (b := a0) (d' := d + 0) (mc' := 0) (ms' := 0) (As := [.int p3]) (st := []) (c := 0) (sl := 0) kmX12_appendWord kw_1483 (by omega) rfl (Nat.le_of_ble_eq_true rfl) he rfl rfl (Nat.le_refl _) (Nat.le_refl _) dX12_appendInput_32 (fun E M9 hx => kz_Tout rfl (Nat.le_refl _) (Nat.le_refl _) hx) (kz_Cmono (fun v M10 h => ?_) (fun _ _ h => h) h)
    obtain ⟨rfl, h⟩ := h
    show kz_Z G (d + 1) 0 0 mX12_appendInput Qr Qx 35 [(0, .ref a0), (1, .int p1), (2, .int p2), (3, .int p3), (4, .int p4), (5, .int p5)] [] M10 0 0
    refine kz_aload_n (pc := 35) 0 (v := .ref a0) (i := 0) rfl rfl rfl dX12_appendInput_35 ?_
    refine kz_iload (pc := 36) 4 (i := 4) rfl dX12_appendInput_36 ?_
    obtain ⟨⟨fs22, he⟩, h⟩ := h
    refine kz_callV (pc := 38) (μ' := mX12_appendWord) (ci := 11) (q := (RX12, TX12, 32)) (b := a0) (d' := d + 0) (mc' := 0) (ms' := 0) (As := [.int p4]) (st := []) (c := 0) (sl := 0) kmX12_appendWord kw_1483 (by omega) rfl (Nat.le_of_ble_eq_true rfl) he rfl rfl (Nat.le_refl _) (Nat.le_refl _) dX12_appendInput_38 (fun E M9 hx => kz_Tout rfl (Nat.le_refl _) (Nat.le_refl _) hx) (kz_Cmono (fun v M13 h => ?_) (fun _ _ h => h) h)
    obtain ⟨rfl, h⟩ := h
    show kz_Z G (d + 1) 0 0 mX12_appendInput Qr Qx 41 [(0, .ref a0), (1, .int p1), (2, .int p2), (3, .int p3), (4, .int p4), (5, .int p5)] [] M13 0 0
    refine kz_aload_n (pc := 41) 0 (v := .ref a0) (i := 0) rfl rfl rfl dX12_appendInput_41 ?_
    refine kz_iload (pc := 42) 5 (i := 5) rfl dX12_appendInput_42 ?_
    obtain ⟨⟨fs21, he⟩, h⟩ := h
    refine kz_callV (pc := 44) (μ' := mX12_appendWord) (ci := 11) (q := (RX12, TX12, 32)) (b := a0) (d' := d + 0) (mc' := 0) (ms' := 0) (As := [.int p5]) (st := []) (c := 0) (sl := 0) kmX12_appendWord kw_1483 (by omega) rfl (Nat.le_of_ble_eq_true rfl) he rfl rfl (Nat.le_refl _) (Nat.le_refl _) dX12_appendInput_44 (fun E M9 hx => kz_Tout rfl (Nat.le_refl _) (Nat.le_refl _) hx) (kz_Cmono (fun v M16 h => ?_) (fun _ _ h => h) h)
    obtain ⟨rfl, h⟩ := h
    show kz_Z G (d + 1) 0 0 mX12_appendInput Qr Qx 47 [(0, .ref a0), (1, .int p1), (2, .int p2), (3, .int p3), (4, .int p4), (5, .int p5)] [] M16 0 0
    refine kz_aload_n (pc := 47) 0 (v := .ref a0) (i := 0) rfl rfl rfl dX12_appendInput_47 ?_
    obtain ⟨fs19, v20, hM, hv, h⟩ := h
    refine kz_getf (pc := 48) (k := 19) kcX12 hM hv (by decide) kw_1397 dX12_appendInput_48 ?_
    exact kz_iret (pc := 51) rfl (Nat.le_refl _) (Nat.le_refl _) dX12_appendInput_51 h
  · replace h := h.2 hb
    refine kz_iconst (pc := 18) (v := (-1)) (by decide) dX12_appendInput_18 ?_
    exact kz_iret (pc := 19) rfl (Nat.le_refl _) (Nat.le_refl _) dX12_appendInput_19 h
theorem dX12_truncateInput_0 : decode cX12_truncateInput 0 = .ok (.aload_n 0, 1) := by decide +kernel
theorem dX12_truncateInput_1 : decode cX12_truncateInput 1 = .ok (.iconst 0, 1) := by decide +kernel
theorem dX12_truncateInput_2 : decode cX12_truncateInput 2 = .ok (.putfield 60, 3) := by decide +kernel
theorem dX12_truncateInput_5 : decode cX12_truncateInput 5 = .ok (.iload_n 1, 1) := by decide +kernel
theorem dX12_truncateInput_6 : decode cX12_truncateInput 6 = .ok (.iconst 0, 1) := by decide +kernel
theorem dX12_truncateInput_7 : decode cX12_truncateInput 7 = .ok (.aload_n 0, 1) := by decide +kernel
theorem dX12_truncateInput_8 : decode cX12_truncateInput 8 = .ok (.getfield 177, 3) := by decide +kernel
theorem dX12_truncateInput_11 : decode cX12_truncateInput 11 = .ok (.invokestatic 67, 3) := by decide +kernel
theorem dX12_truncateInput_14 : decode cX12_truncateInput 14 = .ok (.ifCond .ne 5, 3) := by decide +kernel
theorem dX12_truncateInput_17 : decode cX12_truncateInput 17 = .ok (.iconst 0, 1) := by decide +kernel
theorem dX12_truncateInput_18 : decode cX12_truncateInput 18 = .ok (.ireturn, 1) := by decide +kernel
theorem dX12_truncateInput_19 : decode cX12_truncateInput 19 = .ok (.aload_n 0, 1) := by decide +kernel
theorem dX12_truncateInput_20 : decode cX12_truncateInput 20 = .ok (.iload_n 1, 1) := by decide +kernel
theorem dX12_truncateInput_21 : decode cX12_truncateInput 21 = .ok (.putfield 177, 3) := by decide +kernel
theorem dX12_truncateInput_24 : decode cX12_truncateInput 24 = .ok (.iconst 1, 1) := by decide +kernel
theorem dX12_truncateInput_25 : decode cX12_truncateInput 25 = .ok (.ireturn, 1) := by decide +kernel
theorem rX12_truncateInput_0 {G : kz_G} {d : Nat} {Qr : Option Value → kz_M → Prop} {Qx : String → kz_M → Prop} {a0 : Nat} {p1 : Int32}  {M : kz_M} (h : ∃ fs1, (M).1 a0 = some (.inl (11, fs1)) ∧ 9 < fs1.length ∧ (∃ fs2 v3, ((kz_up M a0 (.inl (11, fs1.set 9 (.int 0))))).1 a0 = some (.inl (11, fs2)) ∧ fs2[19]? = some (.int v3) ∧ (kz_C G (d + 0) 0 0 mX12_inRange [.int p1, .int 0, .int v3] (kz_up M a0 (.inl (11, fs1.set 9 (.int 0)))) (fun v M4 => ∃ r5 : Int32, v = some (.int r5) ∧ ((¬ r5 = 0 → ∃ fs7, (M4).1 a0 = some (.inl (11, fs7)) ∧ 19 < fs7.length ∧ (Qr (some (.int 1)) (kz_up M4 a0 (.inl (11, fs7.set 19 (.int p1)))))) ∧ (r5 = 0 → Qr (some (.int 0)) M4))) Qx))) : kz_C G (d + 1) 0 0 mX12_truncateInput [.ref a0, .int p1] M Qr Qx := by
  refine kz_enter (n := 1) kmX12_truncateInput.1 (Nat.le_of_ble_eq_true rfl) (ls := [(0, .ref a0), (1, .int p1)]) rfl ?_
  refine kz_aload_n (pc := 0) 0 (v := .ref a0) (i := 0) rfl rfl rfl dX12_truncateInput_0 ?_
  refine kz_iconst (pc := 1) (v := 0) (by decide) dX12_truncateInput_1 ?_
  obtain ⟨fs1, hM, hlen, h⟩ := h
  refine kz_putf (pc := 2) (k := 9) kcX12 hM (by decide) hlen kw_1387 rfl rfl rfl dX12_truncateInput_2 ?_
  refine kz_iload_n (pc := 5) 1 (i := 1) rfl rfl dX12_truncateInput_5 ?_
  refine kz_iconst (pc := 6) (v := 0) (by decide) dX12_truncateInput_6 ?_
  refine kz_aload_n (pc := 7) 0 (v := .ref a0) (i := 0) rfl rfl rfl dX12_truncateInput_7 ?_
  obtain ⟨fs2, v3, hM, hv, h⟩ := h
  refine kz_getf (pc := 8) (k := 19) kcX12 hM hv (by decide) kw_1397 dX12_truncateInput_8 ?_
  refine kz_callS (pc := 11) (μ' := mX12_inRange) (d' := d + 0) (mc' := 0) (ms' := 0) (As := [.int p1, .int 0, .int v3]) (st := []) (c := 0) (sl := 0) kmX12_inRange kw_1491 (by omega) rfl (Nat.le_of_ble_eq_true rfl) (Nat.le_refl _) (Nat.le_refl _) dX12_truncateInput_11 (fun E M9 hx => kz_Tout rfl (Nat.le_refl _) (Nat.le_refl _) hx) (kz_Cmono (fun v M4 h => ?_) (fun _ _ h => h) h)
  obtain ⟨r5, rfl, h⟩ := h
  show kz_Z G (d + 1) 0 0 mX12_truncateInput Qr Qx 14 [(0, .ref a0), (1, .int p1)] [.int r5] M4 0 0
  refine kz_if_ne (pc := 14) (tgt := 19) (by decide) dX12_truncateInput_14 (fun hb => ?_) (fun hb => ?_)
  · replace h := h.1 hb
    refine kz_aload_n (pc := 19) 0 (v := .ref a0) (i := 0) rfl rfl rfl dX12_truncateInput_19 ?_
    refine kz_iload_n (pc := 20) 1 (i := 1) rfl rfl dX12_truncateInput_20 ?_
    obtain ⟨fs7, hM, hlen, h⟩ := h
    refine kz_putf (pc := 21) (k := 19) kcX12 hM (by decide) hlen kw_1397 rfl rfl rfl dX12_truncateInput_21 ?_
    refine kz_iconst (pc := 24) (v := 1) (by decide) dX12_truncateInput_24 ?_
    exact kz_zret (pc := 25) (ty := .boolean) rfl (by decide) (Nat.le_refl _) (Nat.le_refl _) dX12_truncateInput_25 h
  · replace h := h.2 hb
    refine kz_iconst (pc := 17) (v := 0) (by decide) dX12_truncateInput_17 ?_
    exact kz_zret (pc := 18) (ty := .boolean) rfl (by decide) (Nat.le_refl _) (Nat.le_refl _) dX12_truncateInput_18 h
theorem dX12_byteAt_0 : decode cX12_byteAt 0 = .ok (.iload_n 1, 1) := by decide +kernel
theorem dX12_byteAt_1 : decode cX12_byteAt 1 = .ok (.aload_n 0, 1) := by decide +kernel
theorem dX12_byteAt_2 : decode cX12_byteAt 2 = .ok (.getfield 177, 3) := by decide +kernel
theorem dX12_byteAt_5 : decode cX12_byteAt 5 = .ok (.if_icmp .ge 12, 3) := by decide +kernel
theorem dX12_byteAt_8 : decode cX12_byteAt 8 = .ok (.aload_n 0, 1) := by decide +kernel
theorem dX12_byteAt_9 : decode cX12_byteAt 9 = .ok (.getfield 47, 3) := by decide +kernel
theorem dX12_byteAt_12 : decode cX12_byteAt 12 = .ok (.iload_n 1, 1) := by decide +kernel
theorem dX12_byteAt_13 : decode cX12_byteAt 13 = .ok (.iaload, 1) := by decide +kernel
theorem dX12_byteAt_14 : decode cX12_byteAt 14 = .ok (.goto 4, 3) := by decide +kernel
theorem dX12_byteAt_17 : decode cX12_byteAt 17 = .ok (.iconst (-1), 1) := by decide +kernel
theorem dX12_byteAt_18 : decode cX12_byteAt 18 = .ok (.ireturn, 1) := by decide +kernel
theorem rX12_byteAt_0 {G : kz_G} {d : Nat} {Qr : Option Value → kz_M → Prop} {Qx : String → kz_M → Prop} {a0 : Nat} {p1 : Int32}  {M : kz_M} (h : ∃ fs1 v2, (M).1 a0 = some (.inl (11, fs1)) ∧ fs1[19]? = some (.int v2) ∧ ((v2 ≤ p1 → Qr (some (.int ((-1)))) M) ∧ (¬ v2 ≤ p1 → ∃ fs3 v4, (M).1 a0 = some (.inl (11, fs3)) ∧ fs3[18]? = some (.ref v4) ∧ (∃ n5 f6, (M).1 v4 = some (.inr (.int, n5, .inl f6)) ∧ vp_in p1 n5 ∧ (Qr (some (.int (f6 p1.toNatClampNeg))) M))))) : kz_C G d 0 0 mX12_byteAt [.ref a0, .int p1] M Qr Qx := by
  refine kz_enter (n := 1) kmX12_byteAt.1 (Nat.le_of_ble_eq_true rfl) (ls := [(0, .ref a0), (1, .int p1)]) rfl ?_
  refine kz_iload_n (pc := 0) 1 (i := 1) rfl rfl dX12_byteAt_0 ?_
  refine kz_aload_n (pc := 1) 0 (v := .ref a0) (i := 0) rfl rfl rfl dX12_byteAt_1 ?_
  obtain ⟨fs1, v2, hM, hv, h⟩ := h
  refine kz_getf (pc := 2) (k := 19) kcX12 hM hv (by decide) kw_1397 dX12_byteAt_2 ?_
  refine kz_icmp_ge (pc := 5) (tgt := 17) (by decide) dX12_byteAt_5 (fun hb => ?_) (fun hb => ?_)
  · replace h := h.1 hb
    refine kz_iconst (pc := 17) (v := (-1)) (by decide) dX12_byteAt_17 ?_
    exact kz_iret (pc := 18) rfl (Nat.le_refl _) (Nat.le_refl _) dX12_byteAt_18 h
  · replace h := h.2 hb
    refine kz_aload_n (pc := 8) 0 (v := .ref a0) (i := 0) rfl rfl rfl dX12_byteAt_8 ?_
    obtain ⟨fs3, v4, hM, hv, h⟩ := h
    refine kz_getf (pc := 9) (k := 18) kcX12 hM hv (by decide) kw_1396 dX12_byteAt_9 ?_
    refine kz_iload_n (pc := 12) 1 (i := 1) rfl rfl dX12_byteAt_12 ?_
    obtain ⟨n5, f6, hM, hi, h⟩ := h
    refine kz_iald (pc := 13) hM hi dX12_byteAt_13 ?_
    refine kz_goto (pc := 14) (tgt := 18) (by decide) dX12_byteAt_14 ?_
    exact kz_iret (pc := 18) rfl (Nat.le_refl _) (Nat.le_refl _) dX12_byteAt_18 h
theorem dX12_advanceToken_0 : decode cX12_advanceToken 0 = .ok (.aload_n 0, 1) := by decide +kernel
theorem dX12_advanceToken_1 : decode cX12_advanceToken 1 = .ok (.aload_n 0, 1) := by decide +kernel
theorem dX12_advanceToken_2 : decode cX12_advanceToken 2 = .ok (.getfield 184, 3) := by decide +kernel
theorem dX12_advanceToken_5 : decode cX12_advanceToken 5 = .ok (.invokevirtual 187, 3) := by decide +kernel
theorem dX12_advanceToken_8 : decode cX12_advanceToken 8 = .ok (.bipush 32, 2) := by decide +kernel
theorem dX12_advanceToken_10 : decode cX12_advanceToken 10 = .ok (.if_icmp .eq 16, 3) := by decide +kernel
theorem dX12_advanceToken_13 : decode cX12_advanceToken 13 = .ok (.aload_n 0, 1) := by decide +kernel
theorem dX12_advanceToken_14 : decode cX12_advanceToken 14 = .ok (.aload_n 0, 1) := by decide +kernel
theorem dX12_advanceToken_15 : decode cX12_advanceToken 15 = .ok (.getfield 184, 3) := by decide +kernel
theorem dX12_advanceToken_18 : decode cX12_advanceToken 18 = .ok (.invokevirtual 187, 3) := by decide +kernel
theorem dX12_advanceToken_21 : decode cX12_advanceToken 21 = .ok (.bipush 10, 2) := by decide +kernel
theorem dX12_advanceToken_23 : decode cX12_advanceToken 23 = .ok (.if_icmp .ne 16, 3) := by decide +kernel
theorem dX12_advanceToken_26 : decode cX12_advanceToken 26 = .ok (.aload_n 0, 1) := by decide +kernel
theorem dX12_advanceToken_27 : decode cX12_advanceToken 27 = .ok (.dup, 1) := by decide +kernel
theorem dX12_advanceToken_28 : decode cX12_advanceToken 28 = .ok (.getfield 184, 3) := by decide +kernel
theorem dX12_advanceToken_31 : decode cX12_advanceToken 31 = .ok (.iconst 1, 1) := by decide +kernel
theorem dX12_advanceToken_32 : decode cX12_advanceToken 32 = .ok (.iadd, 1) := by decide +kernel
theorem dX12_advanceToken_33 : decode cX12_advanceToken 33 = .ok (.putfield 184, 3) := by decide +kernel
theorem dX12_advanceToken_36 : decode cX12_advanceToken 36 = .ok (.goto (-36), 3) := by decide +kernel
theorem dX12_advanceToken_39 : decode cX12_advanceToken 39 = .ok (.aload_n 0, 1) := by decide +kernel
theorem dX12_advanceToken_40 : decode cX12_advanceToken 40 = .ok (.aload_n 0, 1) := by decide +kernel
theorem dX12_advanceToken_41 : decode cX12_advanceToken 41 = .ok (.getfield 184, 3) := by decide +kernel
theorem dX12_advanceToken_44 : decode cX12_advanceToken 44 = .ok (.putfield 190, 3) := by decide +kernel
theorem dX12_advanceToken_47 : decode cX12_advanceToken 47 = .ok (.aload_n 0, 1) := by decide +kernel
theorem dX12_advanceToken_48 : decode cX12_advanceToken 48 = .ok (.aload_n 0, 1) := by decide +kernel
theorem dX12_advanceToken_49 : decode cX12_advanceToken 49 = .ok (.getfield 184, 3) := by decide +kernel
theorem dX12_advanceToken_52 : decode cX12_advanceToken 52 = .ok (.invokevirtual 187, 3) := by decide +kernel
theorem dX12_advanceToken_55 : decode cX12_advanceToken 55 = .ok (.istore_n 1, 1) := by decide +kernel
theorem dX12_advanceToken_56 : decode cX12_advanceToken 56 = .ok (.aload_n 0, 1) := by decide +kernel
theorem dX12_advanceToken_57 : decode cX12_advanceToken 57 = .ok (.iconst 0, 1) := by decide +kernel
theorem dX12_advanceToken_58 : decode cX12_advanceToken 58 = .ok (.putfield 193, 3) := by decide +kernel
theorem dX12_advanceToken_61 : decode cX12_advanceToken 61 = .ok (.iload_n 1, 1) := by decide +kernel
theorem dX12_advanceToken_62 : decode cX12_advanceToken 62 = .ok (.iconst (-1), 1) := by decide +kernel
theorem dX12_advanceToken_63 : decode cX12_advanceToken 63 = .ok (.if_icmp .ne 11, 3) := by decide +kernel
theorem dX12_advanceToken_66 : decode cX12_advanceToken 66 = .ok (.aload_n 0, 1) := by decide +kernel
theorem dX12_advanceToken_67 : decode cX12_advanceToken 67 = .ok (.iconst 0, 1) := by decide +kernel
theorem dX12_advanceToken_68 : decode cX12_advanceToken 68 = .ok (.putfield 196, 3) := by decide +kernel
theorem dX12_advanceToken_71 : decode cX12_advanceToken 71 = .ok (.goto 150, 3) := by decide +kernel
theorem dX12_advanceToken_74 : decode cX12_advanceToken 74 = .ok (.iload_n 1, 1) := by decide +kernel
theorem dX12_advanceToken_75 : decode cX12_advanceToken 75 = .ok (.invokestatic 174, 3) := by decide +kernel
theorem dX12_advanceToken_78 : decode cX12_advanceToken 78 = .ok (.ifCond .eq 35, 3) := by decide +kernel
theorem dX12_advanceToken_81 : decode cX12_advanceToken 81 = .ok (.aload_n 0, 1) := by decide +kernel
theorem dX12_advanceToken_82 : decode cX12_advanceToken 82 = .ok (.iconst 1, 1) := by decide +kernel
theorem dX12_advanceToken_83 : decode cX12_advanceToken 83 = .ok (.putfield 196, 3) := by decide +kernel
theorem dX12_advanceToken_86 : decode cX12_advanceToken 86 = .ok (.aload_n 0, 1) := by decide +kernel
theorem dX12_advanceToken_87 : decode cX12_advanceToken 87 = .ok (.aload_n 0, 1) := by decide +kernel
theorem dX12_advanceToken_88 : decode cX12_advanceToken 88 = .ok (.getfield 184, 3) := by decide +kernel
theorem dX12_advanceToken_91 : decode cX12_advanceToken 91 = .ok (.invokevirtual 187, 3) := by decide +kernel
theorem dX12_advanceToken_94 : decode cX12_advanceToken 94 = .ok (.invokestatic 174, 3) := by decide +kernel
theorem dX12_advanceToken_97 : decode cX12_advanceToken 97 = .ok (.ifCond .eq 124, 3) := by decide +kernel
theorem dX12_advanceToken_100 : decode cX12_advanceToken 100 = .ok (.aload_n 0, 1) := by decide +kernel
theorem dX12_advanceToken_101 : decode cX12_advanceToken 101 = .ok (.dup, 1) := by decide +kernel
theorem dX12_advanceToken_102 : decode cX12_advanceToken 102 = .ok (.getfield 184, 3) := by decide +kernel
theorem dX12_advanceToken_105 : decode cX12_advanceToken 105 = .ok (.iconst 1, 1) := by decide +kernel
theorem dX12_advanceToken_106 : decode cX12_advanceToken 106 = .ok (.iadd, 1) := by decide +kernel
theorem dX12_advanceToken_107 : decode cX12_advanceToken 107 = .ok (.putfield 184, 3) := by decide +kernel
theorem dX12_advanceToken_110 : decode cX12_advanceToken 110 = .ok (.goto (-24), 3) := by decide +kernel
theorem dX12_advanceToken_113 : decode cX12_advanceToken 113 = .ok (.iload_n 1, 1) := by decide +kernel
theorem dX12_advanceToken_114 : decode cX12_advanceToken 114 = .ok (.bipush 48, 2) := by decide +kernel
theorem dX12_advanceToken_116 : decode cX12_advanceToken 116 = .ok (.bipush 57, 2) := by decide +kernel
theorem dX12_advanceToken_118 : decode cX12_advanceToken 118 = .ok (.invokestatic 67, 3) := by decide +kernel
theorem dX12_advanceToken_121 : decode cX12_advanceToken 121 = .ok (.ifCond .eq 75, 3) := by decide +kernel
theorem dX12_advanceToken_124 : decode cX12_advanceToken 124 = .ok (.aload_n 0, 1) := by decide +kernel
theorem dX12_advanceToken_125 : decode cX12_advanceToken 125 = .ok (.iconst 2, 1) := by decide +kernel
theorem dX12_advanceToken_126 : decode cX12_advanceToken 126 = .ok (.putfield 196, 3) := by decide +kernel
theorem dX12_advanceToken_129 : decode cX12_advanceToken 129 = .ok (.aload_n 0, 1) := by decide +kernel
theorem dX12_advanceToken_130 : decode cX12_advanceToken 130 = .ok (.aload_n 0, 1) := by decide +kernel
theorem dX12_advanceToken_131 : decode cX12_advanceToken 131 = .ok (.getfield 184, 3) := by decide +kernel
theorem dX12_advanceToken_134 : decode cX12_advanceToken 134 = .ok (.invokevirtual 187, 3) := by decide +kernel
theorem dX12_advanceToken_137 : decode cX12_advanceToken 137 = .ok (.bipush 48, 2) := by decide +kernel
theorem dX12_advanceToken_139 : decode cX12_advanceToken 139 = .ok (.bipush 57, 2) := by decide +kernel
theorem dX12_advanceToken_141 : decode cX12_advanceToken 141 = .ok (.invokestatic 67, 3) := by decide +kernel
theorem dX12_advanceToken_144 : decode cX12_advanceToken 144 = .ok (.ifCond .eq 77, 3) := by decide +kernel
theorem dX12_advanceToken_147 : decode cX12_advanceToken 147 = .ok (.aload_n 0, 1) := by decide +kernel
theorem dX12_advanceToken_148 : decode cX12_advanceToken 148 = .ok (.getfield 184, 3) := by decide +kernel
theorem dX12_advanceToken_151 : decode cX12_advanceToken 151 = .ok (.aload_n 0, 1) := by decide +kernel
theorem dX12_advanceToken_152 : decode cX12_advanceToken 152 = .ok (.getfield 190, 3) := by decide +kernel
theorem dX12_advanceToken_155 : decode cX12_advanceToken 155 = .ok (.isub, 1) := by decide +kernel
theorem dX12_advanceToken_156 : decode cX12_advanceToken 156 = .ok (.iconst 5, 1) := by decide +kernel
theorem dX12_advanceToken_157 : decode cX12_advanceToken 157 = .ok (.if_icmp .ge 26, 3) := by decide +kernel
theorem dX12_advanceToken_160 : decode cX12_advanceToken 160 = .ok (.aload_n 0, 1) := by decide +kernel
theorem dX12_advanceToken_161 : decode cX12_advanceToken 161 = .ok (.bipush 10, 2) := by decide +kernel
theorem dX12_advanceToken_163 : decode cX12_advanceToken 163 = .ok (.aload_n 0, 1) := by decide +kernel
theorem dX12_advanceToken_164 : decode cX12_advanceToken 164 = .ok (.getfield 193, 3) := by decide +kernel
theorem dX12_advanceToken_167 : decode cX12_advanceToken 167 = .ok (.imul, 1) := by decide +kernel
theorem dX12_advanceToken_168 : decode cX12_advanceToken 168 = .ok (.aload_n 0, 1) := by decide +kernel
theorem dX12_advanceToken_169 : decode cX12_advanceToken 169 = .ok (.aload_n 0, 1) := by decide +kernel
theorem dX12_advanceToken_170 : decode cX12_advanceToken 170 = .ok (.getfield 184, 3) := by decide +kernel
theorem dX12_advanceToken_173 : decode cX12_advanceToken 173 = .ok (.invokevirtual 187, 3) := by decide +kernel
theorem dX12_advanceToken_176 : decode cX12_advanceToken 176 = .ok (.iadd, 1) := by decide +kernel
theorem dX12_advanceToken_177 : decode cX12_advanceToken 177 = .ok (.bipush 48, 2) := by decide +kernel
theorem dX12_advanceToken_179 : decode cX12_advanceToken 179 = .ok (.isub, 1) := by decide +kernel
theorem dX12_advanceToken_180 : decode cX12_advanceToken 180 = .ok (.putfield 193, 3) := by decide +kernel
theorem dX12_advanceToken_183 : decode cX12_advanceToken 183 = .ok (.aload_n 0, 1) := by decide +kernel
theorem dX12_advanceToken_184 : decode cX12_advanceToken 184 = .ok (.dup, 1) := by decide +kernel
theorem dX12_advanceToken_185 : decode cX12_advanceToken 185 = .ok (.getfield 184, 3) := by decide +kernel
theorem dX12_advanceToken_188 : decode cX12_advanceToken 188 = .ok (.iconst 1, 1) := by decide +kernel
theorem dX12_advanceToken_189 : decode cX12_advanceToken 189 = .ok (.iadd, 1) := by decide +kernel
theorem dX12_advanceToken_190 : decode cX12_advanceToken 190 = .ok (.putfield 184, 3) := by decide +kernel
theorem dX12_advanceToken_193 : decode cX12_advanceToken 193 = .ok (.goto (-64), 3) := by decide +kernel
theorem dX12_advanceToken_196 : decode cX12_advanceToken 196 = .ok (.aload_n 0, 1) := by decide +kernel
theorem dX12_advanceToken_197 : decode cX12_advanceToken 197 = .ok (.iload_n 1, 1) := by decide +kernel
theorem dX12_advanceToken_198 : decode cX12_advanceToken 198 = .ok (.bipush 59, 2) := by decide +kernel
theorem dX12_advanceToken_200 : decode cX12_advanceToken 200 = .ok (.if_icmp .ne 7, 3) := by decide +kernel
theorem dX12_advanceToken_203 : decode cX12_advanceToken 203 = .ok (.iconst 3, 1) := by decide +kernel
theorem dX12_advanceToken_204 : decode cX12_advanceToken 204 = .ok (.goto 4, 3) := by decide +kernel
theorem dX12_advanceToken_207 : decode cX12_advanceToken 207 = .ok (.iconst 4, 1) := by decide +kernel
theorem dX12_advanceToken_208 : decode cX12_advanceToken 208 = .ok (.putfield 196, 3) := by decide +kernel
theorem dX12_advanceToken_211 : decode cX12_advanceToken 211 = .ok (.aload_n 0, 1) := by decide +kernel
theorem dX12_advanceToken_212 : decode cX12_advanceToken 212 = .ok (.dup, 1) := by decide +kernel
theorem dX12_advanceToken_213 : decode cX12_advanceToken 213 = .ok (.getfield 184, 3) := by decide +kernel
theorem dX12_advanceToken_216 : decode cX12_advanceToken 216 = .ok (.iconst 1, 1) := by decide +kernel
theorem dX12_advanceToken_217 : decode cX12_advanceToken 217 = .ok (.iadd, 1) := by decide +kernel
theorem dX12_advanceToken_218 : decode cX12_advanceToken 218 = .ok (.putfield 184, 3) := by decide +kernel
theorem dX12_advanceToken_221 : decode cX12_advanceToken 221 = .ok (.return_, 1) := by decide +kernel
def zX12_advanceToken_0 (G : kz_G) (d : Nat) (Qr : Option Value → kz_M → Prop) (Qx : String → kz_M → Prop) (x0 : Nat)  (M : kz_M) : Prop := kz_Z G (d + 2) 0 0 mX12_advanceToken Qr Qx 0 [(0, .ref x0)] [] M 0 0
def zX12_advanceToken_86 (G : kz_G) (d : Nat) (Qr : Option Value → kz_M → Prop) (Qx : String → kz_M → Prop) (x0 : Nat)  (M : kz_M) : Prop := kz_Z G (d + 2) 0 0 mX12_advanceToken Qr Qx 86 [(0, .ref x0)] [] M 0 0
def zX12_advanceToken_129 (G : kz_G) (d : Nat) (Qr : Option Value → kz_M → Prop) (Qx : String → kz_M → Prop) (x0 : Nat)  (M : kz_M) : Prop := kz_Z G (d + 2) 0 0 mX12_advanceToken Qr Qx 129 [(0, .ref x0)] [] M 0 0
theorem rX12_advanceToken_e {G : kz_G} {d : Nat} {Qr : Option Value → kz_M → Prop} {Qx : String → kz_M → Prop} {a0 : Nat} {M : kz_M} (h : zX12_advanceToken_0 G d Qr Qx a0 M) : kz_C G (d + 2) 0 0 mX12_advanceToken [.ref a0] M Qr Qx := by
  refine kz_enter (n := 0) kmX12_advanceToken.1 (Nat.le_of_ble_eq_true rfl) (ls := [(0, .ref a0)]) rfl ?_
  exact h
theorem rX12_advanceToken_0 {G : kz_G} {d : Nat} {Qr : Option Value → kz_M → Prop} {Qx : String → kz_M → Prop} {x0 : Nat}  {M : kz_M} (h : ∃ fs1 v2, (M).1 x0 = some (.inl (11, fs1)) ∧ fs1[24]? = some (.int v2) ∧ ((∃ fs47, (M).1 x0 = some (.inl (11, fs47))) ∧ kz_C G (d + 1) 0 0 mX12_byteAt [.ref x0, .int v2] M (fun v M3 => ∃ r4 : Int32, v = some (.int r4) ∧ ((r4 = (32 : Int32) → ∃ fs6 v7, (M3).1 x0 = some (.inl (11, fs6)) ∧ fs6[24]? = some (.int v7) ∧ (∃ fs8, (M3).1 x0 = some (.inl (11, fs8)) ∧ 24 < fs8.length ∧ (zX12_advanceToken_0 G d Qr Qx x0 (kz_up M3 x0 (.inl (11, fs8.set 24 (.int (v7 + 1)))))))) ∧ (¬ r4 = (32 : Int32) → ∃ fs9 v10, (M3).1 x0 = some (.inl (11, fs9)) ∧ fs9[24]? = some (.int v10) ∧ ((∃ fs46, (M3).1 x0 = some (.inl (11, fs46))) ∧ kz_C G (d + 1) 0 0 mX12_byteAt [.ref x0, .int v10] M3 (fun v M11 => ∃ r12 : Int32, v = some (.int r12) ∧ ((¬ r12 = (10 : Int32) → ∃ fs14 v15, (M11).1 x0 = some (.inl (11, fs14)) ∧ fs14[24]? = some (.int v15) ∧ (∃ fs16, (M11).1 x0 = some (.inl (11, fs16)) ∧ 25 < fs16.length ∧ (∃ fs17 v18, ((kz_up M11 x0 (.inl (11, fs16.set 25 (.int v15))))).1 x0 = some (.inl (11, fs17)) ∧ fs17[24]? = some (.int v18) ∧ ((∃ fs42, ((kz_up M11 x0 (.inl (11, fs16.set 25 (.int v15))))).1 x0 = some (.inl (11, fs42))) ∧ kz_C G (d + 1) 0 0 mX12_byteAt [.ref x0, .int v18] (kz_up M11 x0 (.inl (11, fs16.set 25 (.int v15)))) (fun v M19 => ∃ r20 : Int32, v = some (.int r20) ∧ (∃ fs22, (M19).1 x0 = some (.inl (11, fs22)) ∧ 26 < fs22.length ∧ ((¬ r20 = ((-1) : Int32) → kz_C G (d + 1) 0 0 mX12_isLetter [.int r20] (kz_up M19 x0 (.inl (11, fs22.set 26 (.int 0)))) (fun v M23 => ∃ r24 : Int32, v = some (.int r24) ∧ ((r24 = 0 → kz_C G (d + 1) 0 0 mX12_inRange [.int r20, .int 48, .int 57] M23 (fun v M26 => ∃ r27 : Int32, v = some (.int r27) ∧ ((r27 = 0 → (¬ r20 = (59 : Int32) → ∃ fs29, (M26).1 x0 = some (.inl (11, fs29)) ∧ 27 < fs29.length ∧ (∃ fs30 v31, ((kz_up M26 x0 (.inl (11, fs29.set 27 (.int 4))))).1 x0 = some (.inl (11, fs30)) ∧ fs30[24]? = some (.int v31) ∧ (∃ fs32, ((kz_up M26 x0 (.inl (11, fs29.set 27 (.int 4))))).1 x0 = some (.inl (11, fs32)) ∧ 24 < fs32.length ∧ (Qr none (kz_up (kz_up M26 x0 (.inl (11, fs29.set 27 (.int 4)))) x0 (.inl (11, fs32.set 24 (.int (v31 + 1))))))))) ∧ (r20 = (59 : Int32) → ∃ fs33, (M26).1 x0 = some (.inl (11, fs33)) ∧ 27 < fs33.length ∧ (∃ fs34 v35, ((kz_up M26 x0 (.inl (11, fs33.set 27 (.int 3))))).1 x0 = some (.inl (11, fs34)) ∧ fs34[24]? = some (.int v35) ∧ (∃ fs36, ((kz_up M26 x0 (.inl (11, fs33.set 27 (.int 3))))).1 x0 = some (.inl (11, fs36)) ∧ 24 < fs36.length ∧ (Qr none (kz_up (kz_up M26 x0 (.inl (11, fs33.set 27 (.int 3)))) x0 (.inl (11, fs36.set 24 (.int (v35 + 1)))))))))) ∧ (¬ r27 = 0 → ∃ fs37, (M26).1 x0 = some (.inl (11, fs37)) ∧ 27 < fs37.length ∧ (zX12_advanceToken_129 G d Qr Qx x0 (kz_up M26 x0 (.inl (11, fs37.set 27 (.int 2)))))))) Qx) ∧ (¬ r24 = 0 → ∃ fs39, (M23).1 x0 = some (.inl (11, fs39)) ∧ 27 < fs39.length ∧ (zX12_advanceToken_86 G d Qr Qx x0 (kz_up M23 x0 (.inl (11, fs39.set 27 (.int 1)))))))) Qx) ∧ (r20 = ((-1) : Int32) → ∃ fs41, ((kz_up M19 x0 (.inl (11, fs22.set 26 (.int 0))))).1 x0 = some (.inl (11, fs41)) ∧ 27 < fs41.length ∧ (Qr none (kz_up (kz_up M19 x0 (.inl (11, fs22.set 26 (.int 0)))) x0 (.inl (11, fs41.set 27 (.int 0))))))))) Qx)))) ∧ (r12 = (10 : Int32) → ∃ fs43 v44, (M11).1 x0 = some (.inl (11, fs43)) ∧ fs43[24]? = some (.int v44) ∧ (∃ fs45, (M11).1 x0 = some (.inl (11, fs45)) ∧ 24 < fs45.length ∧ (zX12_advanceToken_0 G d Qr Qx x0 (kz_up M11 x0 (.inl (11, fs45.set 24 (.int (v44 + 1)))))))))) Qx)))) Qx)) : zX12_advanceToken_0 G d Qr Qx x0  M := by
  show kz_Z G (d + 2) 0 0 mX12_advanceToken Qr Qx 0 [(0, .ref x0)] [] M 0 0
  refine kz_aload_n (pc := 0) 0 (v := .ref x0) (i := 0) rfl rfl rfl dX12_advanceToken_0 ?_
  refine kz_aload_n (pc := 1) 0 (v := .ref x0) (i := 0) rfl rfl rfl dX12_advanceToken_1 ?_
  obtain ⟨fs1, v2, hM, hv, h⟩ := h
  refine kz_getf (pc := 2) (k := 24) kcX12 hM hv (by decide) kw_1402 dX12_advanceToken_2 ?_
  obtain ⟨⟨fs47, he⟩, h⟩ := h
  refine kz_callV (pc := 5) (μ' := mX12_byteAt) (ci := 11) (q := (RX12, TX12, 32)) (b := x0) (d' := d + 1) (mc' := 0) (ms' := 0) (As := [.int v2]) (st := []) (c := 0) (sl := 0) kmX12_byteAt kw_1505 (by omega) rfl (Nat.le_of_ble_eq_true rfl) he rfl rfl (Nat.le_refl _) (Nat.le_refl _) dX12_advanceToken_5 (fun E M9 hx => kz_Tout rfl (Nat.le_refl _) (Nat.le_refl _) hx) (kz_Cmono (fun v M3 h => ?_) (fun _ _ h => h) h)
  obtain ⟨r4, rfl, h⟩ := h
  show kz_Z G (d + 2) 0 0 mX12_advanceToken Qr Qx 8 [(0, .ref x0)] [.int r4] M3 0 0
  refine kz_bipush (pc := 8) (v := 32) (by decide) dX12_advanceToken_8 ?_
  refine kz_icmp_eq (pc := 10) (tgt := 26) (by decide) dX12_advanceToken_10 (fun hb => ?_) (fun hb => ?_)
  · replace h := h.1 hb
    refine kz_aload_n (pc := 26) 0 (v := .ref x0) (i := 0) rfl rfl rfl dX12_advanceToken_26 ?_
    refine kz_dup (pc := 27) rfl dX12_advanceToken_27 ?_
    obtain ⟨fs6, v7, hM, hv, h⟩ := h
    refine kz_getf (pc := 28) (k := 24) kcX12 hM hv (by decide) kw_1402 dX12_advanceToken_28 ?_
    refine kz_iconst (pc := 31) (v := 1) (by decide) dX12_advanceToken_31 ?_
    refine kz_iadd (pc := 32) dX12_advanceToken_32 ?_
    obtain ⟨fs8, hM, hlen, h⟩ := h
    refine kz_putf (pc := 33) (k := 24) kcX12 hM (by decide) hlen kw_1402 rfl rfl rfl dX12_advanceToken_33 ?_
    refine kz_goto (pc := 36) (tgt := 0) (by decide) dX12_advanceToken_36 ?_
    exact h
  · replace h := h.2 hb
    refine kz_aload_n (pc := 13) 0 (v := .ref x0) (i := 0) rfl rfl rfl dX12_advanceToken_13 ?_
    refine kz_aload_n (pc := 14) 0 (v := .ref x0) (i := 0) rfl rfl rfl dX12_advanceToken_14 ?_
    obtain ⟨fs9, v10, hM, hv, h⟩ := h
    refine kz_getf (pc := 15) (k := 24) kcX12 hM hv (by decide) kw_1402 dX12_advanceToken_15 ?_
    obtain ⟨⟨fs46, he⟩, h⟩ := h
    refine kz_callV (pc := 18) (μ' := mX12_byteAt) (ci := 11) (q := (RX12, TX12, 32)) (b := x0) (d' := d + 1) (mc' := 0) (ms' := 0) (As := [.int v10]) (st := []) (c := 0) (sl := 0) kmX12_byteAt kw_1505 (by omega) rfl (Nat.le_of_ble_eq_true rfl) he rfl rfl (Nat.le_refl _) (Nat.le_refl _) dX12_advanceToken_18 (fun E M9 hx => kz_Tout rfl (Nat.le_refl _) (Nat.le_refl _) hx) (kz_Cmono (fun v M11 h => ?_) (fun _ _ h => h) h)
    obtain ⟨r12, rfl, h⟩ := h
    show kz_Z G (d + 2) 0 0 mX12_advanceToken Qr Qx 21 [(0, .ref x0)] [.int r12] M11 0 0
    refine kz_bipush (pc := 21) (v := 10) (by decide) dX12_advanceToken_21 ?_
    refine kz_icmp_ne (pc := 23) (tgt := 39) (by decide) dX12_advanceToken_23 (fun hb => ?_) (fun hb => ?_)
    · replace h := h.1 hb
      refine kz_aload_n (pc := 39) 0 (v := .ref x0) (i := 0) rfl rfl rfl dX12_advanceToken_39 ?_
      refine kz_aload_n (pc := 40) 0 (v := .ref x0) (i := 0) rfl rfl rfl dX12_advanceToken_40 ?_
      obtain ⟨fs14, v15, hM, hv, h⟩ := h
      refine kz_getf (pc := 41) (k := 24) kcX12 hM hv (by decide) kw_1402 dX12_advanceToken_41 ?_
      obtain ⟨fs16, hM, hlen, h⟩ := h
      refine kz_putf (pc := 44) (k := 25) kcX12 hM (by decide) hlen kw_1403 rfl rfl rfl dX12_advanceToken_44 ?_
      refine kz_aload_n (pc := 47) 0 (v := .ref x0) (i := 0) rfl rfl rfl dX12_advanceToken_47 ?_
      refine kz_aload_n (pc := 48) 0 (v := .ref x0) (i := 0) rfl rfl rfl dX12_advanceToken_48 ?_
      obtain ⟨fs17, v18, hM, hv, h⟩ := h
      refine kz_getf (pc := 49) (k := 24) kcX12 hM hv (by decide) kw_1402 dX12_advanceToken_49 ?_
      obtain ⟨⟨fs42, he⟩, h⟩ := h
      refine kz_callV (pc := 52) (μ' := mX12_byteAt) (ci := 11) (q := (RX12, TX12, 32)) (b := x0) (d' := d + 1) (mc' := 0) (ms' := 0) (As := [.int v18]) (st := []) (c := 0) (sl := 0) kmX12_byteAt kw_1505 (by omega) rfl (Nat.le_of_ble_eq_true rfl) he rfl rfl (Nat.le_refl _) (Nat.le_refl _) dX12_advanceToken_52 (fun E M9 hx => kz_Tout rfl (Nat.le_refl _) (Nat.le_refl _) hx) (kz_Cmono (fun v M19 h => ?_) (fun _ _ h => h) h)
      obtain ⟨r20, rfl, h⟩ := h
      show kz_Z G (d + 2) 0 0 mX12_advanceToken Qr Qx 55 [(0, .ref x0)] [.int r20] M19 0 0
      refine kz_istore_n (pc := 55) (i := 1) (ls' := [(0, .ref x0)]) rfl (by decide) rfl dX12_advanceToken_55 ?_
      refine kz_aload_n (pc := 56) 1 (v := .ref x0) (i := 0) rfl rfl rfl dX12_advanceToken_56 ?_
      refine kz_iconst (pc := 57) (v := 0) (by decide) dX12_advanceToken_57 ?_
      obtain ⟨fs22, hM, hlen, h⟩ := h
      refine kz_putf (pc := 58) (k := 26) kcX12 hM (by decide) hlen kw_1404 rfl rfl rfl dX12_advanceToken_58 ?_
      refine kz_iload_n (pc := 61) 0 (i := 1) rfl rfl dX12_advanceToken_61 ?_
      refine kz_iconst (pc := 62) (v := (-1)) (by decide) dX12_advanceToken_62 ?_
      refine kz_icmp_ne (pc := 63) (tgt := 74) (by decide) dX12_advanceToken_63 (fun hb => ?_) (fun hb => ?_)
      · replace h := h.1 hb
        refine kz_iload_n (pc := 74) 0 (i := 1) rfl rfl dX12_advanceToken_74 ?_
        refine kz_callS (pc := 75) (μ' := mX12_isLetter) (d' := d + 1) (mc' := 0) (ms' := 0) (As := [.int r20]) (st := []) (c := 0) (sl := 0) kmX12_isLetter kw_1509 (by omega) rfl (Nat.le_of_ble_eq_true rfl) (Nat.le_refl _) (Nat.le_refl _) dX12_advanceToken_75 (fun E M9 hx => kz_Tout rfl (Nat.le_refl _) (Nat.le_refl _) hx) (kz_Cmono (fun v M23 h => ?_) (fun _ _ h => h) h)
        obtain ⟨r24, rfl, h⟩ := h
        show kz_Z G (d + 2) 0 0 mX12_advanceToken Qr Qx 78 [(1, .int r20), (0, .ref x0)] [.int r24] M23 0 0
        refine kz_if_eq (pc := 78) (tgt := 113) (by decide) dX12_advanceToken_78 (fun hb => ?_) (fun hb => ?_)
        · replace h := h.1 hb
          refine kz_iload_n (pc := 113) 0 (i := 1) rfl rfl dX12_advanceToken_113 ?_
          refine kz_bipush (pc := 114) (v := 48) (by decide) dX12_advanceToken_114 ?_
          refine kz_bipush (pc := 116) (v := 57) (by decide) dX12_advanceToken_116 ?_
          refine kz_callS (pc := 118) (μ' := mX12_inRange) (d' := d + 1) (mc' := 0) (ms' := 0) (As := [.int r20, .int 48, .int 57]) (st := []) (c := 0) (sl := 0) kmX12_inRange kw_1491 (by omega) rfl (Nat.le_of_ble_eq_true rfl) (Nat.le_refl _) (Nat.le_refl _) dX12_advanceToken_118 (fun E M9 hx => kz_Tout rfl (Nat.le_refl _) (Nat.le_refl _) hx) (kz_Cmono (fun v M26 h => ?_) (fun _ _ h => h) h)
          obtain ⟨r27, rfl, h⟩ := h
          show kz_Z G (d + 2) 0 0 mX12_advanceToken Qr Qx 121 [(1, .int r20), (0, .ref x0)] [.int r27] M26 0 0
          refine kz_if_eq (pc := 121) (tgt := 196) (by decide) dX12_advanceToken_121 (fun hb => ?_) (fun hb => ?_)
          · replace h := h.1 hb
            refine kz_aload_n (pc := 196) 1 (v := .ref x0) (i := 0) rfl rfl rfl dX12_advanceToken_196 ?_
            refine kz_iload_n (pc := 197) 0 (i := 1) rfl rfl dX12_advanceToken_197 ?_
            refine kz_bipush (pc := 198) (v := 59) (by decide) dX12_advanceToken_198 ?_
            refine kz_icmp_ne (pc := 200) (tgt := 207) (by decide) dX12_advanceToken_200 (fun hb => ?_) (fun hb => ?_)
            · replace h := h.1 hb
              refine kz_iconst (pc := 207) (v := 4) (by decide) dX12_advanceToken_207 ?_
              obtain ⟨fs29, hM, hlen, h⟩ := h
              refine kz_putf (pc := 208) (k := 27) kcX12 hM (by decide) hlen kw_1405 rfl rfl rfl dX12_advanceToken_208 ?_
              refine kz_aload_n (pc := 211) 1 (v := .ref x0) (i := 0) rfl rfl rfl dX12_advanceToken_211 ?_
              refine kz_dup (pc := 212) rfl dX12_advanceToken_212 ?_
              obtain ⟨fs30, v31, hM, hv, h⟩ := h
              refine kz_getf (pc := 213) (k := 24) kcX12 hM hv (by decide) kw_1402 dX12_advanceToken_213 ?_
              refine kz_iconst (pc := 216) (v := 1) (by decide) dX12_advanceToken_216 ?_
              refine kz_iadd (pc := 217) dX12_advanceToken_217 ?_
              obtain ⟨fs32, hM, hlen, h⟩ := h
              refine kz_putf (pc := 218) (k := 24) kcX12 hM (by decide) hlen kw_1402 rfl rfl rfl dX12_advanceToken_218 ?_
              exact kz_vret (pc := 221) rfl (Nat.le_refl _) (Nat.le_refl _) dX12_advanceToken_221 h
            · replace h := h.2 hb
              refine kz_iconst (pc := 203) (v := 3) (by decide) dX12_advanceToken_203 ?_
              refine kz_goto (pc := 204) (tgt := 208) (by decide) dX12_advanceToken_204 ?_
              obtain ⟨fs33, hM, hlen, h⟩ := h
              refine kz_putf (pc := 208) (k := 27) kcX12 hM (by decide) hlen kw_1405 rfl rfl rfl dX12_advanceToken_208 ?_
              refine kz_aload_n (pc := 211) 1 (v := .ref x0) (i := 0) rfl rfl rfl dX12_advanceToken_211 ?_
              refine kz_dup (pc := 212) rfl dX12_advanceToken_212 ?_
              obtain ⟨fs34, v35, hM, hv, h⟩ := h
              refine kz_getf (pc := 213) (k := 24) kcX12 hM hv (by decide) kw_1402 dX12_advanceToken_213 ?_
              refine kz_iconst (pc := 216) (v := 1) (by decide) dX12_advanceToken_216 ?_
              refine kz_iadd (pc := 217) dX12_advanceToken_217 ?_
              obtain ⟨fs36, hM, hlen, h⟩ := h
              refine kz_putf (pc := 218) (k := 24) kcX12 hM (by decide) hlen kw_1402 rfl rfl rfl dX12_advanceToken_218 ?_
              exact kz_vret (pc := 221) rfl (Nat.le_refl _) (Nat.le_refl _) dX12_advanceToken_221 h
          · replace h := h.2 hb
            refine kz_aload_n (pc := 124) 1 (v := .ref x0) (i := 0) rfl rfl rfl dX12_advanceToken_124 ?_
            refine kz_iconst (pc := 125) (v := 2) (by decide) dX12_advanceToken_125 ?_
            obtain ⟨fs37, hM, hlen, h⟩ := h
            refine kz_putf (pc := 126) (k := 27) kcX12 hM (by decide) hlen kw_1405 rfl rfl rfl dX12_advanceToken_126 ?_
            refine kz_sub [1] rfl ?_
            exact h
        · replace h := h.2 hb
          refine kz_aload_n (pc := 81) 1 (v := .ref x0) (i := 0) rfl rfl rfl dX12_advanceToken_81 ?_
          refine kz_iconst (pc := 82) (v := 1) (by decide) dX12_advanceToken_82 ?_
          obtain ⟨fs39, hM, hlen, h⟩ := h
          refine kz_putf (pc := 83) (k := 27) kcX12 hM (by decide) hlen kw_1405 rfl rfl rfl dX12_advanceToken_83 ?_
          refine kz_sub [1] rfl ?_
          exact h
      · replace h := h.2 hb
        refine kz_aload_n (pc := 66) 1 (v := .ref x0) (i := 0) rfl rfl rfl dX12_advanceToken_66 ?_
        refine kz_iconst (pc := 67) (v := 0) (by decide) dX12_advanceToken_67 ?_
        obtain ⟨fs41, hM, hlen, h⟩ := h
        refine kz_putf (pc := 68) (k := 27) kcX12 hM (by decide) hlen kw_1405 rfl rfl rfl dX12_advanceToken_68 ?_
        refine kz_goto (pc := 71) (tgt := 221) (by decide) dX12_advanceToken_71 ?_
        exact kz_vret (pc := 221) rfl (Nat.le_refl _) (Nat.le_refl _) dX12_advanceToken_221 h
    · replace h := h.2 hb
      refine kz_aload_n (pc := 26) 0 (v := .ref x0) (i := 0) rfl rfl rfl dX12_advanceToken_26 ?_
      refine kz_dup (pc := 27) rfl dX12_advanceToken_27 ?_
      obtain ⟨fs43, v44, hM, hv, h⟩ := h
      refine kz_getf (pc := 28) (k := 24) kcX12 hM hv (by decide) kw_1402 dX12_advanceToken_28 ?_
      refine kz_iconst (pc := 31) (v := 1) (by decide) dX12_advanceToken_31 ?_
      refine kz_iadd (pc := 32) dX12_advanceToken_32 ?_
      obtain ⟨fs45, hM, hlen, h⟩ := h
      refine kz_putf (pc := 33) (k := 24) kcX12 hM (by decide) hlen kw_1402 rfl rfl rfl dX12_advanceToken_33 ?_
      refine kz_goto (pc := 36) (tgt := 0) (by decide) dX12_advanceToken_36 ?_
      exact h
theorem rX12_advanceToken_86 {G : kz_G} {d : Nat} {Qr : Option Value → kz_M → Prop} {Qx : String → kz_M → Prop} {x0 : Nat}  {M : kz_M} (h : ∃ fs1 v2, (M).1 x0 = some (.inl (11, fs1)) ∧ fs1[24]? = some (.int v2) ∧ ((∃ fs13, (M).1 x0 = some (.inl (11, fs13))) ∧ kz_C G (d + 1) 0 0 mX12_byteAt [.ref x0, .int v2] M (fun v M3 => ∃ r4 : Int32, v = some (.int r4) ∧ (kz_C G (d + 1) 0 0 mX12_isLetter [.int r4] M3 (fun v M6 => ∃ r7 : Int32, v = some (.int r7) ∧ ((r7 = 0 → Qr none M6) ∧ (¬ r7 = 0 → ∃ fs9 v10, (M6).1 x0 = some (.inl (11, fs9)) ∧ fs9[24]? = some (.int v10) ∧ (∃ fs11, (M6).1 x0 = some (.inl (11, fs11)) ∧ 24 < fs11.length ∧ (zX12_advanceToken_86 G d Qr Qx x0 (kz_up M6 x0 (.inl (11, fs11.set 24 (.int (v10 + 1)))))))))) Qx)) Qx)) : zX12_advanceToken_86 G d Qr Qx x0  M := by
  show kz_Z G (d + 2) 0 0 mX12_advanceToken Qr Qx 86 [(0, .ref x0)] [] M 0 0
  refine kz_aload_n (pc := 86) 0 (v := .ref x0) (i := 0) rfl rfl rfl dX12_advanceToken_86 ?_
  refine kz_aload_n (pc := 87) 0 (v := .ref x0) (i := 0) rfl rfl rfl dX12_advanceToken_87 ?_
  obtain ⟨fs1, v2, hM, hv, h⟩ := h
  refine kz_getf (pc := 88) (k := 24) kcX12 hM hv (by decide) kw_1402 dX12_advanceToken_88 ?_
  obtain ⟨⟨fs13, he⟩, h⟩ := h
  refine kz_callV (pc := 91) (μ' := mX12_byteAt) (ci := 11) (q := (RX12, TX12, 32)) (b := x0) (d' := d + 1) (mc' := 0) (ms' := 0) (As := [.int v2]) (st := []) (c := 0) (sl := 0) kmX12_byteAt kw_1505 (by omega) rfl (Nat.le_of_ble_eq_true rfl) he rfl rfl (Nat.le_refl _) (Nat.le_refl _) dX12_advanceToken_91 (fun E M9 hx => kz_Tout rfl (Nat.le_refl _) (Nat.le_refl _) hx) (kz_Cmono (fun v M3 h => ?_) (fun _ _ h => h) h)
  obtain ⟨r4, rfl, h⟩ := h
  show kz_Z G (d + 2) 0 0 mX12_advanceToken Qr Qx 94 [(0, .ref x0)] [.int r4] M3 0 0
  refine kz_callS (pc := 94) (μ' := mX12_isLetter) (d' := d + 1) (mc' := 0) (ms' := 0) (As := [.int r4]) (st := []) (c := 0) (sl := 0) kmX12_isLetter kw_1509 (by omega) rfl (Nat.le_of_ble_eq_true rfl) (Nat.le_refl _) (Nat.le_refl _) dX12_advanceToken_94 (fun E M9 hx => kz_Tout rfl (Nat.le_refl _) (Nat.le_refl _) hx) (kz_Cmono (fun v M6 h => ?_) (fun _ _ h => h) h)
  obtain ⟨r7, rfl, h⟩ := h
  show kz_Z G (d + 2) 0 0 mX12_advanceToken Qr Qx 97 [(0, .ref x0)] [.int r7] M6 0 0
  refine kz_if_eq (pc := 97) (tgt := 221) (by decide) dX12_advanceToken_97 (fun hb => ?_) (fun hb => ?_)
  · replace h := h.1 hb
    exact kz_vret (pc := 221) rfl (Nat.le_refl _) (Nat.le_refl _) dX12_advanceToken_221 h
  · replace h := h.2 hb
    refine kz_aload_n (pc := 100) 0 (v := .ref x0) (i := 0) rfl rfl rfl dX12_advanceToken_100 ?_
    refine kz_dup (pc := 101) rfl dX12_advanceToken_101 ?_
    obtain ⟨fs9, v10, hM, hv, h⟩ := h
    refine kz_getf (pc := 102) (k := 24) kcX12 hM hv (by decide) kw_1402 dX12_advanceToken_102 ?_
    refine kz_iconst (pc := 105) (v := 1) (by decide) dX12_advanceToken_105 ?_
    refine kz_iadd (pc := 106) dX12_advanceToken_106 ?_
    obtain ⟨fs11, hM, hlen, h⟩ := h
    refine kz_putf (pc := 107) (k := 24) kcX12 hM (by decide) hlen kw_1402 rfl rfl rfl dX12_advanceToken_107 ?_
    refine kz_goto (pc := 110) (tgt := 86) (by decide) dX12_advanceToken_110 ?_
    exact h
theorem rX12_advanceToken_129 {G : kz_G} {d : Nat} {Qr : Option Value → kz_M → Prop} {Qx : String → kz_M → Prop} {x0 : Nat}  {M : kz_M} (h : ∃ fs1 v2, (M).1 x0 = some (.inl (11, fs1)) ∧ fs1[24]? = some (.int v2) ∧ ((∃ fs29, (M).1 x0 = some (.inl (11, fs29))) ∧ kz_C G (d + 1) 0 0 mX12_byteAt [.ref x0, .int v2] M (fun v M3 => ∃ r4 : Int32, v = some (.int r4) ∧ (kz_C G (d + 1) 0 0 mX12_inRange [.int r4, .int 48, .int 57] M3 (fun v M6 => ∃ r7 : Int32, v = some (.int r7) ∧ ((r7 = 0 → Qr none M6) ∧ (¬ r7 = 0 → ∃ fs9 v10, (M6).1 x0 = some (.inl (11, fs9)) ∧ fs9[24]? = some (.int v10) ∧ (∃ fs11 v12, (M6).1 x0 = some (.inl (11, fs11)) ∧ fs11[25]? = some (.int v12) ∧ (((5 : Int32) ≤ (v10 - v12) → ∃ fs13 v14, (M6).1 x0 = some (.inl (11, fs13)) ∧ fs13[24]? = some (.int v14) ∧ (∃ fs15, (M6).1 x0 = some (.inl (11, fs15)) ∧ 24 < fs15.length ∧ (zX12_advanceToken_129 G d Qr Qx x0 (kz_up M6 x0 (.inl (11, fs15.set 24 (.int (v14 + 1)))))))) ∧ (¬ (5 : Int32) ≤ (v10 - v12) → ∃ fs16 v17, (M6).1 x0 = some (.inl (11, fs16)) ∧ fs16[26]? = some (.int v17) ∧ (∃ fs18 v19, (M6).1 x0 = some (.inl (11, fs18)) ∧ fs18[24]? = some (.int v19) ∧ ((∃ fs27, (M6).1 x0 = some (.inl (11, fs27))) ∧ kz_C G (d + 1) 0 0 mX12_byteAt [.ref x0, .int v19] M6 (fun v M20 => ∃ r21 : Int32, v = some (.int r21) ∧ (∃ fs23, (M20).1 x0 = some (.inl (11, fs23)) ∧ 26 < fs23.length ∧ (∃ fs24 v25, ((kz_up M20 x0 (.inl (11, fs23.set 26 (.int (((10 * v17) + r21) - 48)))))).1 x0 = some (.inl (11, fs24)) ∧ fs24[24]? = some (.int v25) ∧ (∃ fs26, ((kz_up M20 x0 (.inl (11, fs23.set 26 (.int (((10 * v17) + r21) - 48)))))).1 x0 = some (.inl (11, fs26)) ∧ 24 < fs26.length ∧ (zX12_advanceToken_129 G d Qr Qx x0 (kz_up (kz_up M20 x0 (.inl (11, fs23.set 26 (.int (((10 * v17) + r21) - 48))))) x0 (.inl (11, fs26.set 24 (.int (v25 + 1)))))))))) Qx)))))))) Qx)) Qx)) : zX12_advanceToken_129 G d Qr Qx x0  M := by
  show kz_Z G (d + 2) 0 0 mX12_advanceToken Qr Qx 129 [(0, .ref x0)] [] M 0 0
  refine kz_aload_n (pc := 129) 0 (v := .ref x0) (i := 0) rfl rfl rfl dX12_advanceToken_129 ?_
  refine kz_aload_n (pc := 130) 0 (v := .ref x0) (i := 0) rfl rfl rfl dX12_advanceToken_130 ?_
  obtain ⟨fs1, v2, hM, hv, h⟩ := h
  refine kz_getf (pc := 131) (k := 24) kcX12 hM hv (by decide) kw_1402 dX12_advanceToken_131 ?_
  obtain ⟨⟨fs29, he⟩, h⟩ := h
  refine kz_callV (pc := 134) (μ' := mX12_byteAt) (ci := 11) (q := (RX12, TX12, 32)) (b := x0) (d' := d + 1) (mc' := 0) (ms' := 0) (As := [.int v2]) (st := []) (c := 0) (sl := 0) kmX12_byteAt kw_1505 (by omega) rfl (Nat.le_of_ble_eq_true rfl) he rfl rfl (Nat.le_refl _) (Nat.le_refl _) dX12_advanceToken_134 (fun E M9 hx => kz_Tout rfl (Nat.le_refl _) (Nat.le_refl _) hx) (kz_Cmono (fun v M3 h => ?_) (fun _ _ h => h) h)
  obtain ⟨r4, rfl, h⟩ := h
  show kz_Z G (d + 2) 0 0 mX12_advanceToken Qr Qx 137 [(0, .ref x0)] [.int r4] M3 0 0
  refine kz_bipush (pc := 137) (v := 48) (by decide) dX12_advanceToken_137 ?_
  refine kz_bipush (pc := 139) (v := 57) (by decide) dX12_advanceToken_139 ?_
  refine kz_callS (pc := 141) (μ' := mX12_inRange) (d' := d + 1) (mc' := 0) (ms' := 0) (As := [.int r4, .int 48, .int 57]) (st := []) (c := 0) (sl := 0) kmX12_inRange kw_1491 (by omega) rfl (Nat.le_of_ble_eq_true rfl) (Nat.le_refl _) (Nat.le_refl _) dX12_advanceToken_141 (fun E M9 hx => kz_Tout rfl (Nat.le_refl _) (Nat.le_refl _) hx) (kz_Cmono (fun v M6 h => ?_) (fun _ _ h => h) h)
  obtain ⟨r7, rfl, h⟩ := h
  show kz_Z G (d + 2) 0 0 mX12_advanceToken Qr Qx 144 [(0, .ref x0)] [.int r7] M6 0 0
  refine kz_if_eq (pc := 144) (tgt := 221) (by decide) dX12_advanceToken_144 (fun hb => ?_) (fun hb => ?_)
  · replace h := h.1 hb
    exact kz_vret (pc := 221) rfl (Nat.le_refl _) (Nat.le_refl _) dX12_advanceToken_221 h
  · replace h := h.2 hb
    refine kz_aload_n (pc := 147) 0 (v := .ref x0) (i := 0) rfl rfl rfl dX12_advanceToken_147 ?_
    obtain ⟨fs9, v10, hM, hv, h⟩ := h
    refine kz_getf (pc := 148) (k := 24) kcX12 hM hv (by decide) kw_1402 dX12_advanceToken_148 ?_
    refine kz_aload_n (pc := 151) 0 (v := .ref x0) (i := 0) rfl rfl rfl dX12_advanceToken_151 ?_
    obtain ⟨fs11, v12, hM, hv, h⟩ := h
    refine kz_getf (pc := 152) (k := 25) kcX12 hM hv (by decide) kw_1403 dX12_advanceToken_152 ?_
    refine kz_isub (pc := 155) dX12_advanceToken_155 ?_
    refine kz_iconst (pc := 156) (v := 5) (by decide) dX12_advanceToken_156 ?_
    refine kz_icmp_ge (pc := 157) (tgt := 183) (by decide) dX12_advanceToken_157 (fun hb => ?_) (fun hb => ?_)
    · replace h := h.1 hb
      refine kz_aload_n (pc := 183) 0 (v := .ref x0) (i := 0) rfl rfl rfl dX12_advanceToken_183 ?_
      refine kz_dup (pc := 184) rfl dX12_advanceToken_184 ?_
      obtain ⟨fs13, v14, hM, hv, h⟩ := h
      refine kz_getf (pc := 185) (k := 24) kcX12 hM hv (by decide) kw_1402 dX12_advanceToken_185 ?_
      refine kz_iconst (pc := 188) (v := 1) (by decide) dX12_advanceToken_188 ?_
      refine kz_iadd (pc := 189) dX12_advanceToken_189 ?_
      obtain ⟨fs15, hM, hlen, h⟩ := h
      refine kz_putf (pc := 190) (k := 24) kcX12 hM (by decide) hlen kw_1402 rfl rfl rfl dX12_advanceToken_190 ?_
      refine kz_goto (pc := 193) (tgt := 129) (by decide) dX12_advanceToken_193 ?_
      exact h
    · replace h := h.2 hb
      refine kz_aload_n (pc := 160) 0 (v := .ref x0) (i := 0) rfl rfl rfl dX12_advanceToken_160 ?_
      refine kz_bipush (pc := 161) (v := 10) (by decide) dX12_advanceToken_161 ?_
      refine kz_aload_n (pc := 163) 0 (v := .ref x0) (i := 0) rfl rfl rfl dX12_advanceToken_163 ?_
      obtain ⟨fs16, v17, hM, hv, h⟩ := h
      refine kz_getf (pc := 164) (k := 26) kcX12 hM hv (by decide) kw_1404 dX12_advanceToken_164 ?_
      refine kz_imul (pc := 167) dX12_advanceToken_167 ?_
      refine kz_aload_n (pc := 168) 0 (v := .ref x0) (i := 0) rfl rfl rfl dX12_advanceToken_168 ?_
      refine kz_aload_n (pc := 169) 0 (v := .ref x0) (i := 0) rfl rfl rfl dX12_advanceToken_169 ?_
      obtain ⟨fs18, v19, hM, hv, h⟩ := h
      refine kz_getf (pc := 170) (k := 24) kcX12 hM hv (by decide) kw_1402 dX12_advanceToken_170 ?_
      obtain ⟨⟨fs27, he⟩, h⟩ := h
      refine kz_callV (pc := 173) (μ' := mX12_byteAt) (ci := 11) (q := (RX12, TX12, 32)) (b := x0) (d' := d + 1) (mc' := 0) (ms' := 0) (As := [.int v19]) (st := [.int (10 * v17), .ref x0]) (c := 0) (sl := 0) kmX12_byteAt kw_1505 (by omega) rfl (Nat.le_of_ble_eq_true rfl) he rfl rfl (Nat.le_refl _) (Nat.le_refl _) dX12_advanceToken_173 (fun E M9 hx => kz_Tout rfl (Nat.le_refl _) (Nat.le_refl _) hx) (kz_Cmono (fun v M20 h => ?_) (fun _ _ h => h) h)
      obtain ⟨r21, rfl, h⟩ := h
      show kz_Z G (d + 2) 0 0 mX12_advanceToken Qr Qx 176 [(0, .ref x0)] [.int r21, .int (10 * v17), .ref x0] M20 0 0
      refine kz_iadd (pc := 176) dX12_advanceToken_176 ?_
      refine kz_bipush (pc := 177) (v := 48) (by decide) dX12_advanceToken_177 ?_
      refine kz_isub (pc := 179) dX12_advanceToken_179 ?_
      obtain ⟨fs23, hM, hlen, h⟩ := h
      refine kz_putf (pc := 180) (k := 26) kcX12 hM (by decide) hlen kw_1404 rfl rfl rfl dX12_advanceToken_180 ?_
      refine kz_aload_n (pc := 183) 0 (v := .ref x0) (i := 0) rfl rfl rfl dX12_advanceToken_183 ?_
      refine kz_dup (pc := 184) rfl dX12_advanceToken_184 ?_
      obtain ⟨fs24, v25, hM, hv, h⟩ := h
      refine kz_getf (pc := 185) (k := 24) kcX12 hM hv (by decide) kw_1402 dX12_advanceToken_185 ?_
      refine kz_iconst (pc := 188) (v := 1) (by decide) dX12_advanceToken_188 ?_
      refine kz_iadd (pc := 189) dX12_advanceToken_189 ?_
      obtain ⟨fs26, hM, hlen, h⟩ := h
      refine kz_putf (pc := 190) (k := 24) kcX12 hM (by decide) hlen kw_1402 rfl rfl rfl dX12_advanceToken_190 ?_
      refine kz_goto (pc := 193) (tgt := 129) (by decide) dX12_advanceToken_193 ?_
      exact h
theorem dX12_tokenLength_0 : decode cX12_tokenLength 0 = .ok (.aload_n 0, 1) := by decide +kernel
theorem dX12_tokenLength_1 : decode cX12_tokenLength 1 = .ok (.getfield 184, 3) := by decide +kernel
theorem dX12_tokenLength_4 : decode cX12_tokenLength 4 = .ok (.aload_n 0, 1) := by decide +kernel
theorem dX12_tokenLength_5 : decode cX12_tokenLength 5 = .ok (.getfield 190, 3) := by decide +kernel
theorem dX12_tokenLength_8 : decode cX12_tokenLength 8 = .ok (.isub, 1) := by decide +kernel
theorem dX12_tokenLength_9 : decode cX12_tokenLength 9 = .ok (.ireturn, 1) := by decide +kernel
theorem rX12_tokenLength_0 {G : kz_G} {d : Nat} {Qr : Option Value → kz_M → Prop} {Qx : String → kz_M → Prop} {a0 : Nat}  {M : kz_M} (h : ∃ fs1 v2, (M).1 a0 = some (.inl (11, fs1)) ∧ fs1[24]? = some (.int v2) ∧ (∃ fs3 v4, (M).1 a0 = some (.inl (11, fs3)) ∧ fs3[25]? = some (.int v4) ∧ (Qr (some (.int (v2 - v4))) M))) : kz_C G d 0 0 mX12_tokenLength [.ref a0] M Qr Qx := by
  refine kz_enter (n := 0) kmX12_tokenLength.1 (Nat.le_of_ble_eq_true rfl) (ls := [(0, .ref a0)]) rfl ?_
  refine kz_aload_n (pc := 0) 0 (v := .ref a0) (i := 0) rfl rfl rfl dX12_tokenLength_0 ?_
  obtain ⟨fs1, v2, hM, hv, h⟩ := h
  refine kz_getf (pc := 1) (k := 24) kcX12 hM hv (by decide) kw_1402 dX12_tokenLength_1 ?_
  refine kz_aload_n (pc := 4) 0 (v := .ref a0) (i := 0) rfl rfl rfl dX12_tokenLength_4 ?_
  obtain ⟨fs3, v4, hM, hv, h⟩ := h
  refine kz_getf (pc := 5) (k := 25) kcX12 hM hv (by decide) kw_1403 dX12_tokenLength_5 ?_
  refine kz_isub (pc := 8) dX12_tokenLength_8 ?_
  exact kz_iret (pc := 9) rfl (Nat.le_refl _) (Nat.le_refl _) dX12_tokenLength_9 h
theorem dX12_failsAt_0 : decode cX12_failsAt 0 = .ok (.aload_n 0, 1) := by decide +kernel
theorem dX12_failsAt_1 : decode cX12_failsAt 1 = .ok (.getfield 199, 3) := by decide +kernel
theorem dX12_failsAt_4 : decode cX12_failsAt 4 = .ok (.ifCond .ne 16, 3) := by decide +kernel
theorem dX12_failsAt_7 : decode cX12_failsAt 7 = .ok (.aload_n 0, 1) := by decide +kernel
theorem dX12_failsAt_8 : decode cX12_failsAt 8 = .ok (.iload_n 1, 1) := by decide +kernel
theorem dX12_failsAt_9 : decode cX12_failsAt 9 = .ok (.putfield 199, 3) := by decide +kernel
theorem dX12_failsAt_12 : decode cX12_failsAt 12 = .ok (.aload_n 0, 1) := by decide +kernel
theorem dX12_failsAt_13 : decode cX12_failsAt 13 = .ok (.aload_n 0, 1) := by decide +kernel
theorem dX12_failsAt_14 : decode cX12_failsAt 14 = .ok (.getfield 190, 3) := by decide +kernel
theorem dX12_failsAt_17 : decode cX12_failsAt 17 = .ok (.putfield 202, 3) := by decide +kernel
theorem dX12_failsAt_20 : decode cX12_failsAt 20 = .ok (.iconst 0, 1) := by decide +kernel
theorem dX12_failsAt_21 : decode cX12_failsAt 21 = .ok (.ireturn, 1) := by decide +kernel
theorem rX12_failsAt_0 {G : kz_G} {d : Nat} {Qr : Option Value → kz_M → Prop} {Qx : String → kz_M → Prop} {a0 : Nat} {p1 : Int32}  {M : kz_M} (h : ∃ fs1 v2, (M).1 a0 = some (.inl (11, fs1)) ∧ fs1[22]? = some (.int v2) ∧ ((¬ v2 = 0 → Qr (some (.int 0)) M) ∧ (v2 = 0 → ∃ fs3, (M).1 a0 = some (.inl (11, fs3)) ∧ 22 < fs3.length ∧ (∃ fs4 v5, ((kz_up M a0 (.inl (11, fs3.set 22 (.int p1))))).1 a0 = some (.inl (11, fs4)) ∧ fs4[25]? = some (.int v5) ∧ (∃ fs6, ((kz_up M a0 (.inl (11, fs3.set 22 (.int p1))))).1 a0 = some (.inl (11, fs6)) ∧ 23 < fs6.length ∧ (Qr (some (.int 0)) (kz_up (kz_up M a0 (.inl (11, fs3.set 22 (.int p1)))) a0 (.inl (11, fs6.set 23 (.int v5)))))))))) : kz_C G d 0 0 mX12_failsAt [.ref a0, .int p1] M Qr Qx := by
  refine kz_enter (n := 1) kmX12_failsAt.1 (Nat.le_of_ble_eq_true rfl) (ls := [(0, .ref a0), (1, .int p1)]) rfl ?_
  refine kz_aload_n (pc := 0) 0 (v := .ref a0) (i := 0) rfl rfl rfl dX12_failsAt_0 ?_
  obtain ⟨fs1, v2, hM, hv, h⟩ := h
  refine kz_getf (pc := 1) (k := 22) kcX12 hM hv (by decide) kw_1400 dX12_failsAt_1 ?_
  refine kz_if_ne (pc := 4) (tgt := 20) (by decide) dX12_failsAt_4 (fun hb => ?_) (fun hb => ?_)
  · replace h := h.1 hb
    refine kz_iconst (pc := 20) (v := 0) (by decide) dX12_failsAt_20 ?_
    exact kz_zret (pc := 21) (ty := .boolean) rfl (by decide) (Nat.le_refl _) (Nat.le_refl _) dX12_failsAt_21 h
  · replace h := h.2 hb
    refine kz_aload_n (pc := 7) 0 (v := .ref a0) (i := 0) rfl rfl rfl dX12_failsAt_7 ?_
    refine kz_iload_n (pc := 8) 1 (i := 1) rfl rfl dX12_failsAt_8 ?_
    obtain ⟨fs3, hM, hlen, h⟩ := h
    refine kz_putf (pc := 9) (k := 22) kcX12 hM (by decide) hlen kw_1400 rfl rfl rfl dX12_failsAt_9 ?_
    refine kz_aload_n (pc := 12) 0 (v := .ref a0) (i := 0) rfl rfl rfl dX12_failsAt_12 ?_
    refine kz_aload_n (pc := 13) 0 (v := .ref a0) (i := 0) rfl rfl rfl dX12_failsAt_13 ?_
    obtain ⟨fs4, v5, hM, hv, h⟩ := h
    refine kz_getf (pc := 14) (k := 25) kcX12 hM hv (by decide) kw_1403 dX12_failsAt_14 ?_
    obtain ⟨fs6, hM, hlen, h⟩ := h
    refine kz_putf (pc := 17) (k := 23) kcX12 hM (by decide) hlen kw_1401 rfl rfl rfl dX12_failsAt_17 ?_
    refine kz_iconst (pc := 20) (v := 0) (by decide) dX12_failsAt_20 ?_
    exact kz_zret (pc := 21) (ty := .boolean) rfl (by decide) (Nat.le_refl _) (Nat.le_refl _) dX12_failsAt_21 h
theorem dX12_isWordAt_0 : decode cX12_isWordAt 0 = .ok (.iload_n 3, 1) := by decide +kernel
theorem dX12_isWordAt_1 : decode cX12_isWordAt 1 = .ok (.iload_n 2, 1) := by decide +kernel
theorem dX12_isWordAt_2 : decode cX12_isWordAt 2 = .ok (.isub, 1) := by decide +kernel
theorem dX12_isWordAt_3 : decode cX12_isWordAt 3 = .ok (.aload_n 1, 1) := by decide +kernel
theorem dX12_isWordAt_4 : decode cX12_isWordAt 4 = .ok (.invokevirtual 205, 3) := by decide +kernel
theorem dX12_isWordAt_7 : decode cX12_isWordAt 7 = .ok (.if_icmp .eq 5, 3) := by decide +kernel
theorem dX12_isWordAt_10 : decode cX12_isWordAt 10 = .ok (.iconst 0, 1) := by decide +kernel
theorem dX12_isWordAt_11 : decode cX12_isWordAt 11 = .ok (.ireturn, 1) := by decide +kernel
theorem dX12_isWordAt_12 : decode cX12_isWordAt 12 = .ok (.iconst 0, 1) := by decide +kernel
theorem dX12_isWordAt_13 : decode cX12_isWordAt 13 = .ok (.istore 4, 2) := by decide +kernel
theorem dX12_isWordAt_15 : decode cX12_isWordAt 15 = .ok (.iload 4, 2) := by decide +kernel
theorem dX12_isWordAt_17 : decode cX12_isWordAt 17 = .ok (.aload_n 1, 1) := by decide +kernel
theorem dX12_isWordAt_18 : decode cX12_isWordAt 18 = .ok (.invokevirtual 205, 3) := by decide +kernel
theorem dX12_isWordAt_21 : decode cX12_isWordAt 21 = .ok (.if_icmp .ge 29, 3) := by decide +kernel
theorem dX12_isWordAt_24 : decode cX12_isWordAt 24 = .ok (.aload_n 0, 1) := by decide +kernel
theorem dX12_isWordAt_25 : decode cX12_isWordAt 25 = .ok (.getfield 47, 3) := by decide +kernel
theorem dX12_isWordAt_28 : decode cX12_isWordAt 28 = .ok (.iload_n 2, 1) := by decide +kernel
theorem dX12_isWordAt_29 : decode cX12_isWordAt 29 = .ok (.iload 4, 2) := by decide +kernel
theorem dX12_isWordAt_31 : decode cX12_isWordAt 31 = .ok (.iadd, 1) := by decide +kernel
theorem dX12_isWordAt_32 : decode cX12_isWordAt 32 = .ok (.iaload, 1) := by decide +kernel
theorem dX12_isWordAt_33 : decode cX12_isWordAt 33 = .ok (.aload_n 1, 1) := by decide +kernel
theorem dX12_isWordAt_34 : decode cX12_isWordAt 34 = .ok (.iload 4, 2) := by decide +kernel
theorem dX12_isWordAt_36 : decode cX12_isWordAt 36 = .ok (.invokevirtual 210, 3) := by decide +kernel
theorem dX12_isWordAt_39 : decode cX12_isWordAt 39 = .ok (.if_icmp .eq 5, 3) := by decide +kernel
theorem dX12_isWordAt_42 : decode cX12_isWordAt 42 = .ok (.iconst 0, 1) := by decide +kernel
theorem dX12_isWordAt_43 : decode cX12_isWordAt 43 = .ok (.ireturn, 1) := by decide +kernel
theorem dX12_isWordAt_44 : decode cX12_isWordAt 44 = .ok (.iinc 4 1, 3) := by decide +kernel
theorem dX12_isWordAt_47 : decode cX12_isWordAt 47 = .ok (.goto (-32), 3) := by decide +kernel
theorem dX12_isWordAt_50 : decode cX12_isWordAt 50 = .ok (.iconst 1, 1) := by decide +kernel
theorem dX12_isWordAt_51 : decode cX12_isWordAt 51 = .ok (.ireturn, 1) := by decide +kernel
def zX12_isWordAt_15 (G : kz_G) (d : Nat) (Qr : Option Value → kz_M → Prop) (Qx : String → kz_M → Prop) (x0 : Nat) (x1 : Nat) (x2 : Int32) (x4 : Int32)  (M : kz_M) : Prop := kz_Z G (d + 4) 0 0 mX12_isWordAt Qr Qx 15 [(0, .ref x0), (1, .retAddr x1), (2, .int x2), (4, .int x4)] [] M 0 0
theorem rX12_isWordAt_0 {G : kz_G} {d : Nat} {Qr : Option Value → kz_M → Prop} {Qx : String → kz_M → Prop} {a0 : Nat} {p1 : Nat} {p2 : Int32} {p3 : Int32}  {M : kz_M} (hG : kz_stat G) (h : p1 ∈ kz_read ∧ (((p3 - p2) = (Int32.ofNat (kz_txt p1).length) → zX12_isWordAt_15 G d Qr Qx a0 p1 p2 0 M) ∧ (¬ (p3 - p2) = (Int32.ofNat (kz_txt p1).length) → Qr (some (.int 0)) M))) : kz_C G (d + 4) 0 0 mX12_isWordAt [.ref a0, .retAddr p1, .int p2, .int p3] M Qr Qx := by
  refine kz_enter (n := 3) kmX12_isWordAt.1 (Nat.le_of_ble_eq_true rfl) (ls := [(0, .ref a0), (1, .retAddr p1), (2, .int p2), (3, .int p3)]) rfl ?_
  refine kz_iload_n (pc := 0) 3 (i := 3) rfl rfl dX12_isWordAt_0 ?_
  refine kz_iload_n (pc := 1) 2 (i := 2) rfl rfl dX12_isWordAt_1 ?_
  refine kz_isub (pc := 2) dX12_isWordAt_2 ?_
  refine kz_aload_n (pc := 3) 1 (v := .retAddr p1) (i := 1) rfl rfl rfl dX12_isWordAt_3 ?_
  obtain ⟨hj, h⟩ := h
  refine kz_strlen (pc := 4) hG hj kw_1529 (by omega) (Nat.le_of_ble_eq_true rfl) (Nat.le_refl _) (Nat.le_refl _) dX12_isWordAt_4 ?_
  refine kz_icmp_eq (pc := 7) (tgt := 12) (by decide) dX12_isWordAt_7 (fun hb => ?_) (fun hb => ?_)
  · replace h := h.1 hb
    refine kz_iconst (pc := 12) (v := 0) (by decide) dX12_isWordAt_12 ?_
    refine kz_istore (pc := 13) (i := 4) (ls' := [(0, .ref a0), (1, .retAddr p1), (2, .int p2), (3, .int p3)]) (by decide) rfl dX12_isWordAt_13 ?_
    refine kz_sub [1, 2, 3, 0] rfl ?_
    exact h
  · replace h := h.2 hb
    refine kz_iconst (pc := 10) (v := 0) (by decide) dX12_isWordAt_10 ?_
    exact kz_zret (pc := 11) (ty := .boolean) rfl (by decide) (Nat.le_refl _) (Nat.le_refl _) dX12_isWordAt_11 h
theorem rX12_isWordAt_15 {G : kz_G} {d : Nat} {Qr : Option Value → kz_M → Prop} {Qx : String → kz_M → Prop} {x0 : Nat} {x1 : Nat} {x2 : Int32} {x4 : Int32}  {M : kz_M} (hG : kz_stat G) (h : x1 ∈ kz_read ∧ (((Int32.ofNat (kz_txt x1).length) ≤ x4 → Qr (some (.int 1)) M) ∧ (¬ (Int32.ofNat (kz_txt x1).length) ≤ x4 → ∃ fs2 v3, (M).1 x0 = some (.inl (11, fs2)) ∧ fs2[18]? = some (.ref v3) ∧ (∃ n4 f5, (M).1 v3 = some (.inr (.int, n4, .inl f5)) ∧ vp_in (x2 + x4) n4 ∧ (x1 ∈ kz_read ∧ vp_in x4 (kz_txt x1).length ∧ (((f5 (x2 + x4).toNatClampNeg) = ((kz_txt x1).getD x4.toNatClampNeg 0) → zX12_isWordAt_15 G d Qr Qx x0 x1 x2 (x4 + 1) M) ∧ (¬ (f5 (x2 + x4).toNatClampNeg) = ((kz_txt x1).getD x4.toNatClampNeg 0) → Qr (some (.int 0)) M))))))) : zX12_isWordAt_15 G d Qr Qx x0 x1 x2 x4  M := by
  show kz_Z G (d + 4) 0 0 mX12_isWordAt Qr Qx 15 [(0, .ref x0), (1, .retAddr x1), (2, .int x2), (4, .int x4)] [] M 0 0
  refine kz_iload (pc := 15) 3 (i := 4) rfl dX12_isWordAt_15 ?_
  refine kz_aload_n (pc := 17) 1 (v := .retAddr x1) (i := 1) rfl rfl rfl dX12_isWordAt_17 ?_
  obtain ⟨hj, h⟩ := h
  refine kz_strlen (pc := 18) hG hj kw_1529 (by omega) (Nat.le_of_ble_eq_true rfl) (Nat.le_refl _) (Nat.le_refl _) dX12_isWordAt_18 ?_
  refine kz_icmp_ge (pc := 21) (tgt := 50) (by decide) dX12_isWordAt_21 (fun hb => ?_) (fun hb => ?_)
  · replace h := h.1 hb
    refine kz_iconst (pc := 50) (v := 1) (by decide) dX12_isWordAt_50 ?_
    exact kz_zret (pc := 51) (ty := .boolean) rfl (by decide) (Nat.le_refl _) (Nat.le_refl _) dX12_isWordAt_51 h
  · replace h := h.2 hb
    refine kz_aload_n (pc := 24) 0 (v := .ref x0) (i := 0) rfl rfl rfl dX12_isWordAt_24 ?_
    obtain ⟨fs2, v3, hM, hv, h⟩ := h
    refine kz_getf (pc := 25) (k := 18) kcX12 hM hv (by decide) kw_1396 dX12_isWordAt_25 ?_
    refine kz_iload_n (pc := 28) 2 (i := 2) rfl rfl dX12_isWordAt_28 ?_
    refine kz_iload (pc := 29) 3 (i := 4) rfl dX12_isWordAt_29 ?_
    refine kz_iadd (pc := 31) dX12_isWordAt_31 ?_
    obtain ⟨n4, f5, hM, hi, h⟩ := h
    refine kz_iald (pc := 32) hM hi dX12_isWordAt_32 ?_
    refine kz_aload_n (pc := 33) 1 (v := .retAddr x1) (i := 1) rfl rfl rfl dX12_isWordAt_33 ?_
    refine kz_iload (pc := 34) 3 (i := 4) rfl dX12_isWordAt_34 ?_
    obtain ⟨hj, hi, h⟩ := h
    refine kz_charAt (pc := 36) hG hj hi kw_1530 (by omega) (Nat.le_of_ble_eq_true rfl) (Nat.le_refl _) (Nat.le_refl _) dX12_isWordAt_36 ?_
    refine kz_icmp_eq (pc := 39) (tgt := 44) (by decide) dX12_isWordAt_39 (fun hb => ?_) (fun hb => ?_)
    · replace h := h.1 hb
      refine kz_iinc (pc := 44) 3 (i := 4) (v := x4 + 1) (ls' := [(0, .ref x0), (1, .retAddr x1), (2, .int x2)]) rfl (congrArg (fun z => x4 + z) (by decide)) (by decide) rfl dX12_isWordAt_44 ?_
      refine kz_goto (pc := 47) (tgt := 15) (by decide) dX12_isWordAt_47 ?_
      refine kz_sub [1, 2, 3, 0] rfl ?_
      exact h
    · replace h := h.2 hb
      refine kz_iconst (pc := 42) (v := 0) (by decide) dX12_isWordAt_42 ?_
      exact kz_zret (pc := 43) (ty := .boolean) rfl (by decide) (Nat.le_refl _) (Nat.le_refl _) dX12_isWordAt_43 h
theorem dX12_isWord_0 : decode cX12_isWord 0 = .ok (.aload_n 0, 1) := by decide +kernel
theorem dX12_isWord_1 : decode cX12_isWord 1 = .ok (.getfield 196, 3) := by decide +kernel
theorem dX12_isWord_4 : decode cX12_isWord 4 = .ok (.iconst 1, 1) := by decide +kernel
theorem dX12_isWord_5 : decode cX12_isWord 5 = .ok (.if_icmp .ne 23, 3) := by decide +kernel
theorem dX12_isWord_8 : decode cX12_isWord 8 = .ok (.aload_n 0, 1) := by decide +kernel
theorem dX12_isWord_9 : decode cX12_isWord 9 = .ok (.aload_n 1, 1) := by decide +kernel
theorem dX12_isWord_10 : decode cX12_isWord 10 = .ok (.aload_n 0, 1) := by decide +kernel
theorem dX12_isWord_11 : decode cX12_isWord 11 = .ok (.getfield 190, 3) := by decide +kernel
theorem dX12_isWord_14 : decode cX12_isWord 14 = .ok (.aload_n 0, 1) := by decide +kernel
theorem dX12_isWord_15 : decode cX12_isWord 15 = .ok (.getfield 184, 3) := by decide +kernel
theorem dX12_isWord_18 : decode cX12_isWord 18 = .ok (.invokevirtual 214, 3) := by decide +kernel
theorem dX12_isWord_21 : decode cX12_isWord 21 = .ok (.ifCond .eq 7, 3) := by decide +kernel
theorem dX12_isWord_24 : decode cX12_isWord 24 = .ok (.iconst 1, 1) := by decide +kernel
theorem dX12_isWord_25 : decode cX12_isWord 25 = .ok (.goto 4, 3) := by decide +kernel
theorem dX12_isWord_28 : decode cX12_isWord 28 = .ok (.iconst 0, 1) := by decide +kernel
theorem dX12_isWord_29 : decode cX12_isWord 29 = .ok (.ireturn, 1) := by decide +kernel
theorem rX12_isWord_0 {G : kz_G} {d : Nat} {Qr : Option Value → kz_M → Prop} {Qx : String → kz_M → Prop} {a0 : Nat} {p1 : Nat}  {M : kz_M} (h : ∃ fs1 v2, (M).1 a0 = some (.inl (11, fs1)) ∧ fs1[27]? = some (.int v2) ∧ ((¬ v2 = (1 : Int32) → Qr (some (.int 0)) M) ∧ (v2 = (1 : Int32) → ∃ fs3 v4, (M).1 a0 = some (.inl (11, fs3)) ∧ fs3[25]? = some (.int v4) ∧ (∃ fs5 v6, (M).1 a0 = some (.inl (11, fs5)) ∧ fs5[24]? = some (.int v6) ∧ ((∃ fs10, (M).1 a0 = some (.inl (11, fs10))) ∧ kz_C G (d + 4) 0 0 mX12_isWordAt [.ref a0, .retAddr p1, .int v4, .int v6] M (fun v M7 => ∃ r8 : Int32, v = some (.int r8) ∧ ((r8 = 0 → Qr (some (.int 0)) M7) ∧ (¬ r8 = 0 → Qr (some (.int 1)) M7))) Qx))))) : kz_C G (d + 5) 0 0 mX12_isWord [.ref a0, .retAddr p1] M Qr Qx := by
  refine kz_enter (n := 1) kmX12_isWord.1 (Nat.le_of_ble_eq_true rfl) (ls := [(0, .ref a0), (1, .retAddr p1)]) rfl ?_
  refine kz_aload_n (pc := 0) 0 (v := .ref a0) (i := 0) rfl rfl rfl dX12_isWord_0 ?_
  obtain ⟨fs1, v2, hM, hv, h⟩ := h
  refine kz_getf (pc := 1) (k := 27) kcX12 hM hv (by decide) kw_1405 dX12_isWord_1 ?_
  refine kz_iconst (pc := 4) (v := 1) (by decide) dX12_isWord_4 ?_
  refine kz_icmp_ne (pc := 5) (tgt := 28) (by decide) dX12_isWord_5 (fun hb => ?_) (fun hb => ?_)
  · replace h := h.1 hb
    refine kz_iconst (pc := 28) (v := 0) (by decide) dX12_isWord_28 ?_
    exact kz_zret (pc := 29) (ty := .boolean) rfl (by decide) (Nat.le_refl _) (Nat.le_refl _) dX12_isWord_29 h
  · replace h := h.2 hb
    refine kz_aload_n (pc := 8) 0 (v := .ref a0) (i := 0) rfl rfl rfl dX12_isWord_8 ?_
    refine kz_aload_n (pc := 9) 1 (v := .retAddr p1) (i := 1) rfl rfl rfl dX12_isWord_9 ?_
    refine kz_aload_n (pc := 10) 0 (v := .ref a0) (i := 0) rfl rfl rfl dX12_isWord_10 ?_
    obtain ⟨fs3, v4, hM, hv, h⟩ := h
    refine kz_getf (pc := 11) (k := 25) kcX12 hM hv (by decide) kw_1403 dX12_isWord_11 ?_
    refine kz_aload_n (pc := 14) 0 (v := .ref a0) (i := 0) rfl rfl rfl dX12_isWord_14 ?_
    obtain ⟨fs5, v6, hM, hv, h⟩ := h
    refine kz_getf (pc := 15) (k := 24) kcX12 hM hv (by decide) kw_1402 dX12_isWord_15 ?_
    obtain ⟨⟨fs10, he⟩, h⟩ := h
    refine kz_callV (pc := 18) (μ' := mX12_isWordAt) (ci := 11) (q := (RX12, TX12, 32)) (b := a0) (d' := d + 4) (mc' := 0) (ms' := 0) (As := [.retAddr p1, .int v4, .int v6]) (st := []) (c := 0) (sl := 0) kmX12_isWordAt kw_1525 (by omega) rfl (Nat.le_of_ble_eq_true rfl) he rfl rfl (Nat.le_refl _) (Nat.le_refl _) dX12_isWord_18 (fun E M9 hx => kz_Tout rfl (Nat.le_refl _) (Nat.le_refl _) hx) (kz_Cmono (fun v M7 h => ?_) (fun _ _ h => h) h)
    obtain ⟨r8, rfl, h⟩ := h
    show kz_Z G (d + 5) 0 0 mX12_isWord Qr Qx 21 [(0, .ref a0), (1, .retAddr p1)] [.int r8] M7 0 0
    refine kz_if_eq (pc := 21) (tgt := 28) (by decide) dX12_isWord_21 (fun hb => ?_) (fun hb => ?_)
    · replace h := h.1 hb
      refine kz_iconst (pc := 28) (v := 0) (by decide) dX12_isWord_28 ?_
      exact kz_zret (pc := 29) (ty := .boolean) rfl (by decide) (Nat.le_refl _) (Nat.le_refl _) dX12_isWord_29 h
    · replace h := h.2 hb
      refine kz_iconst (pc := 24) (v := 1) (by decide) dX12_isWord_24 ?_
      refine kz_goto (pc := 25) (tgt := 29) (by decide) dX12_isWord_25 ?_
      exact kz_zret (pc := 29) (ty := .boolean) rfl (by decide) (Nat.le_refl _) (Nat.le_refl _) dX12_isWord_29 h
theorem dX12_reads_0 : decode cX12_reads 0 = .ok (.aload_n 0, 1) := by decide +kernel
theorem dX12_reads_1 : decode cX12_reads 1 = .ok (.getfield 196, 3) := by decide +kernel
theorem dX12_reads_4 : decode cX12_reads 4 = .ok (.iconst 2, 1) := by decide +kernel
theorem dX12_reads_5 : decode cX12_reads 5 = .ok (.if_icmp .ne 11, 3) := by decide +kernel
theorem dX12_reads_8 : decode cX12_reads 8 = .ok (.aload_n 0, 1) := by decide +kernel
theorem dX12_reads_9 : decode cX12_reads 9 = .ok (.invokevirtual 218, 3) := by decide +kernel
theorem dX12_reads_12 : decode cX12_reads 12 = .ok (.iconst 5, 1) := by decide +kernel
theorem dX12_reads_13 : decode cX12_reads 13 = .ok (.if_icmp .le 9, 3) := by decide +kernel
theorem dX12_reads_16 : decode cX12_reads 16 = .ok (.aload_n 0, 1) := by decide +kernel
theorem dX12_reads_17 : decode cX12_reads 17 = .ok (.iconst 1, 1) := by decide +kernel
theorem dX12_reads_18 : decode cX12_reads 18 = .ok (.invokevirtual 221, 3) := by decide +kernel
theorem dX12_reads_21 : decode cX12_reads 21 = .ok (.ireturn, 1) := by decide +kernel
theorem dX12_reads_22 : decode cX12_reads 22 = .ok (.aload_n 0, 1) := by decide +kernel
theorem dX12_reads_23 : decode cX12_reads 23 = .ok (.getfield 193, 3) := by decide +kernel
theorem dX12_reads_26 : decode cX12_reads 26 = .ok (.iload_n 1, 1) := by decide +kernel
theorem dX12_reads_27 : decode cX12_reads 27 = .ok (.iload_n 2, 1) := by decide +kernel
theorem dX12_reads_28 : decode cX12_reads 28 = .ok (.invokestatic 67, 3) := by decide +kernel
theorem dX12_reads_31 : decode cX12_reads 31 = .ok (.ifCond .ne 9, 3) := by decide +kernel
theorem dX12_reads_34 : decode cX12_reads 34 = .ok (.aload_n 0, 1) := by decide +kernel
theorem dX12_reads_35 : decode cX12_reads 35 = .ok (.iconst 2, 1) := by decide +kernel
theorem dX12_reads_36 : decode cX12_reads 36 = .ok (.invokevirtual 221, 3) := by decide +kernel
theorem dX12_reads_39 : decode cX12_reads 39 = .ok (.ireturn, 1) := by decide +kernel
theorem dX12_reads_40 : decode cX12_reads 40 = .ok (.aload_n 0, 1) := by decide +kernel
theorem dX12_reads_41 : decode cX12_reads 41 = .ok (.aload_n 0, 1) := by decide +kernel
theorem dX12_reads_42 : decode cX12_reads 42 = .ok (.getfield 193, 3) := by decide +kernel
theorem dX12_reads_45 : decode cX12_reads 45 = .ok (.putfield 224, 3) := by decide +kernel
theorem dX12_reads_48 : decode cX12_reads 48 = .ok (.aload_n 0, 1) := by decide +kernel
theorem dX12_reads_49 : decode cX12_reads 49 = .ok (.invokevirtual 227, 3) := by decide +kernel
theorem dX12_reads_52 : decode cX12_reads 52 = .ok (.iconst 1, 1) := by decide +kernel
theorem dX12_reads_53 : decode cX12_reads 53 = .ok (.ireturn, 1) := by decide +kernel
theorem rX12_reads_0 {G : kz_G} {d : Nat} {Qr : Option Value → kz_M → Prop} {Qx : String → kz_M → Prop} {a0 : Nat} {p1 : Int32} {p2 : Int32}  {M : kz_M} (h : ∃ fs1 v2, (M).1 a0 = some (.inl (11, fs1)) ∧ fs1[27]? = some (.int v2) ∧ ((¬ v2 = (2 : Int32) → (∃ fs6, (M).1 a0 = some (.inl (11, fs6))) ∧ kz_C G (d + 2) 0 0 mX12_failsAt [.ref a0, .int 1] M (fun v M3 => ∃ r4 : Int32, v = some (.int r4) ∧ (narrow .boolean (.int r4) = .int r4 ∧ Qr (some (.int r4)) M3)) Qx) ∧ (v2 = (2 : Int32) → (∃ fs31, (M).1 a0 = some (.inl (11, fs31))) ∧ kz_C G (d + 2) 0 0 mX12_tokenLength [.ref a0] M (fun v M7 => ∃ r8 : Int32, v = some (.int r8) ∧ ((r8 ≤ (5 : Int32) → ∃ fs10 v11, (M7).1 a0 = some (.inl (11, fs10)) ∧ fs10[26]? = some (.int v11) ∧ (kz_C G (d + 2) 0 0 mX12_inRange [.int v11, .int p1, .int p2] M7 (fun v M12 => ∃ r13 : Int32, v = some (.int r13) ∧ ((¬ r13 = 0 → ∃ fs15 v16, (M12).1 a0 = some (.inl (11, fs15)) ∧ fs15[26]? = some (.int v16) ∧ (∃ fs17, (M12).1 a0 = some (.inl (11, fs17)) ∧ 28 < fs17.length ∧ ((∃ fs21, ((kz_up M12 a0 (.inl (11, fs17.set 28 (.int v16))))).1 a0 = some (.inl (11, fs21))) ∧ kz_C G (d + 2) 0 0 mX12_advanceToken [.ref a0] (kz_up M12 a0 (.inl (11, fs17.set 28 (.int v16)))) (fun v M18 => v = none ∧ (Qr (some (.int 1)) M18)) Qx))) ∧ (r13 = 0 → (∃ fs25, (M12).1 a0 = some (.inl (11, fs25))) ∧ kz_C G (d + 2) 0 0 mX12_failsAt [.ref a0, .int 2] M12 (fun v M22 => ∃ r23 : Int32, v = some (.int r23) ∧ (narrow .boolean (.int r23) = .int r23 ∧ Qr (some (.int r23)) M22)) Qx))) Qx)) ∧ (¬ r8 ≤ (5 : Int32) → (∃ fs30, (M7).1 a0 = some (.inl (11, fs30))) ∧ kz_C G (d + 2) 0 0 mX12_failsAt [.ref a0, .int 1] M7 (fun v M27 => ∃ r28 : Int32, v = some (.int r28) ∧ (narrow .boolean (.int r28) = .int r28 ∧ Qr (some (.int r28)) M27)) Qx))) Qx))) : kz_C G (d + 3) 0 0 mX12_reads [.ref a0, .int p1, .int p2] M Qr Qx := by
  refine kz_enter (n := 2) kmX12_reads.1 (Nat.le_of_ble_eq_true rfl) (ls := [(0, .ref a0), (1, .int p1), (2, .int p2)]) rfl ?_
  refine kz_aload_n (pc := 0) 0 (v := .ref a0) (i := 0) rfl rfl rfl dX12_reads_0 ?_
  obtain ⟨fs1, v2, hM, hv, h⟩ := h
  refine kz_getf (pc := 1) (k := 27) kcX12 hM hv (by decide) kw_1405 dX12_reads_1 ?_
  refine kz_iconst (pc := 4) (v := 2) (by decide) dX12_reads_4 ?_
  refine kz_icmp_ne (pc := 5) (tgt := 16) (by decide) dX12_reads_5 (fun hb => ?_) (fun hb => ?_)
  · replace h := h.1 hb
    refine kz_aload_n (pc := 16) 0 (v := .ref a0) (i := 0) rfl rfl rfl dX12_reads_16 ?_
    refine kz_iconst (pc := 17) (v := 1) (by decide) dX12_reads_17 ?_
    obtain ⟨⟨fs6, he⟩, h⟩ := h
    refine kz_callV (pc := 18) (μ' := mX12_failsAt) (ci := 11) (q := (RX12, TX12, 32)) (b := a0) (d' := d + 2) (mc' := 0) (ms' := 0) (As := [.int 1]) (st := []) (c := 0) (sl := 0) kmX12_failsAt kw_1531 (by omega) rfl (Nat.le_of_ble_eq_true rfl) he rfl rfl (Nat.le_refl _) (Nat.le_refl _) dX12_reads_18 (fun E M9 hx => kz_Tout rfl (Nat.le_refl _) (Nat.le_refl _) hx) (kz_Cmono (fun v M3 h => ?_) (fun _ _ h => h) h)
    obtain ⟨r4, rfl, h⟩ := h
    show kz_Z G (d + 3) 0 0 mX12_reads Qr Qx 21 [(0, .ref a0), (1, .int p1), (2, .int p2)] [.int r4] M3 0 0
    exact kz_zret (pc := 21) (ty := .boolean) rfl h.1 (Nat.le_refl _) (Nat.le_refl _) dX12_reads_21 h.2
  · replace h := h.2 hb
    refine kz_aload_n (pc := 8) 0 (v := .ref a0) (i := 0) rfl rfl rfl dX12_reads_8 ?_
    obtain ⟨⟨fs31, he⟩, h⟩ := h
    refine kz_callV (pc := 9) (μ' := mX12_tokenLength) (ci := 11) (q := (RX12, TX12, 32)) (b := a0) (d' := d + 2) (mc' := 0) (ms' := 0) (As := []) (st := []) (c := 0) (sl := 0) kmX12_tokenLength kw_1540 (by omega) rfl (Nat.le_of_ble_eq_true rfl) he rfl rfl (Nat.le_refl _) (Nat.le_refl _) dX12_reads_9 (fun E M9 hx => kz_Tout rfl (Nat.le_refl _) (Nat.le_refl _) hx) (kz_Cmono (fun v M7 h => ?_) (fun _ _ h => h) h)
    obtain ⟨r8, rfl, h⟩ := h
    show kz_Z G (d + 3) 0 0 mX12_reads Qr Qx 12 [(0, .ref a0), (1, .int p1), (2, .int p2)] [.int r8] M7 0 0
    refine kz_iconst (pc := 12) (v := 5) (by decide) dX12_reads_12 ?_
    refine kz_icmp_le (pc := 13) (tgt := 22) (by decide) dX12_reads_13 (fun hb => ?_) (fun hb => ?_)
    · replace h := h.1 hb
      refine kz_aload_n (pc := 22) 0 (v := .ref a0) (i := 0) rfl rfl rfl dX12_reads_22 ?_
      obtain ⟨fs10, v11, hM, hv, h⟩ := h
      refine kz_getf (pc := 23) (k := 26) kcX12 hM hv (by decide) kw_1404 dX12_reads_23 ?_
      refine kz_iload_n (pc := 26) 1 (i := 1) rfl rfl dX12_reads_26 ?_
      refine kz_iload_n (pc := 27) 2 (i := 2) rfl rfl dX12_reads_27 ?_
      refine kz_callS (pc := 28) (μ' := mX12_inRange) (d' := d + 2) (mc' := 0) (ms' := 0) (As := [.int v11, .int p1, .int p2]) (st := []) (c := 0) (sl := 0) kmX12_inRange kw_1491 (by omega) rfl (Nat.le_of_ble_eq_true rfl) (Nat.le_refl _) (Nat.le_refl _) dX12_reads_28 (fun E M9 hx => kz_Tout rfl (Nat.le_refl _) (Nat.le_refl _) hx) (kz_Cmono (fun v M12 h => ?_) (fun _ _ h => h) h)
      obtain ⟨r13, rfl, h⟩ := h
      show kz_Z G (d + 3) 0 0 mX12_reads Qr Qx 31 [(0, .ref a0), (1, .int p1), (2, .int p2)] [.int r13] M12 0 0
      refine kz_if_ne (pc := 31) (tgt := 40) (by decide) dX12_reads_31 (fun hb => ?_) (fun hb => ?_)
      · replace h := h.1 hb
        refine kz_aload_n (pc := 40) 0 (v := .ref a0) (i := 0) rfl rfl rfl dX12_reads_40 ?_
        refine kz_aload_n (pc := 41) 0 (v := .ref a0) (i := 0) rfl rfl rfl dX12_reads_41 ?_
        obtain ⟨fs15, v16, hM, hv, h⟩ := h
        refine kz_getf (pc := 42) (k := 26) kcX12 hM hv (by decide) kw_1404 dX12_reads_42 ?_
        obtain ⟨fs17, hM, hlen, h⟩ := h
        refine kz_putf (pc := 45) (k := 28) kcX12 hM (by decide) hlen kw_1406 rfl rfl rfl dX12_reads_45 ?_
        refine kz_aload_n (pc := 48) 0 (v := .ref a0) (i := 0) rfl rfl rfl dX12_reads_48 ?_
        obtain ⟨⟨fs21, he⟩, h⟩ := h
        refine kz_callV (pc := 49) (μ' := mX12_advanceToken) (ci := 11) (q := (RX12, TX12, 32)) (b := a0) (d' := d + 2) (mc' := 0) (ms' := 0) (As := []) (st := []) (c := 0) (sl := 0) kmX12_advanceToken kw_1501 (by omega) rfl (Nat.le_of_ble_eq_true rfl) he rfl rfl (Nat.le_refl _) (Nat.le_refl _) dX12_reads_49 (fun E M9 hx => kz_Tout rfl (Nat.le_refl _) (Nat.le_refl _) hx) (kz_Cmono (fun v M18 h => ?_) (fun _ _ h => h) h)
        obtain ⟨rfl, h⟩ := h
        show kz_Z G (d + 3) 0 0 mX12_reads Qr Qx 52 [(0, .ref a0), (1, .int p1), (2, .int p2)] [] M18 0 0
        refine kz_iconst (pc := 52) (v := 1) (by decide) dX12_reads_52 ?_
        exact kz_zret (pc := 53) (ty := .boolean) rfl (by decide) (Nat.le_refl _) (Nat.le_refl _) dX12_reads_53 h
      · replace h := h.2 hb
        refine kz_aload_n (pc := 34) 0 (v := .ref a0) (i := 0) rfl rfl rfl dX12_reads_34 ?_
        refine kz_iconst (pc := 35) (v := 2) (by decide) dX12_reads_35 ?_
        obtain ⟨⟨fs25, he⟩, h⟩ := h
        refine kz_callV (pc := 36) (μ' := mX12_failsAt) (ci := 11) (q := (RX12, TX12, 32)) (b := a0) (d' := d + 2) (mc' := 0) (ms' := 0) (As := [.int 2]) (st := []) (c := 0) (sl := 0) kmX12_failsAt kw_1531 (by omega) rfl (Nat.le_of_ble_eq_true rfl) he rfl rfl (Nat.le_refl _) (Nat.le_refl _) dX12_reads_36 (fun E M9 hx => kz_Tout rfl (Nat.le_refl _) (Nat.le_refl _) hx) (kz_Cmono (fun v M22 h => ?_) (fun _ _ h => h) h)
        obtain ⟨r23, rfl, h⟩ := h
        show kz_Z G (d + 3) 0 0 mX12_reads Qr Qx 39 [(0, .ref a0), (1, .int p1), (2, .int p2)] [.int r23] M22 0 0
        exact kz_zret (pc := 39) (ty := .boolean) rfl h.1 (Nat.le_refl _) (Nat.le_refl _) dX12_reads_39 h.2
    · replace h := h.2 hb
      refine kz_aload_n (pc := 16) 0 (v := .ref a0) (i := 0) rfl rfl rfl dX12_reads_16 ?_
      refine kz_iconst (pc := 17) (v := 1) (by decide) dX12_reads_17 ?_
      obtain ⟨⟨fs30, he⟩, h⟩ := h
      refine kz_callV (pc := 18) (μ' := mX12_failsAt) (ci := 11) (q := (RX12, TX12, 32)) (b := a0) (d' := d + 2) (mc' := 0) (ms' := 0) (As := [.int 1]) (st := []) (c := 0) (sl := 0) kmX12_failsAt kw_1531 (by omega) rfl (Nat.le_of_ble_eq_true rfl) he rfl rfl (Nat.le_refl _) (Nat.le_refl _) dX12_reads_18 (fun E M9 hx => kz_Tout rfl (Nat.le_refl _) (Nat.le_refl _) hx) (kz_Cmono (fun v M27 h => ?_) (fun _ _ h => h) h)
      obtain ⟨r28, rfl, h⟩ := h
      show kz_Z G (d + 3) 0 0 mX12_reads Qr Qx 21 [(0, .ref a0), (1, .int p1), (2, .int p2)] [.int r28] M27 0 0
      exact kz_zret (pc := 21) (ty := .boolean) rfl h.1 (Nat.le_refl _) (Nat.le_refl _) dX12_reads_21 h.2
theorem dX12_settingName_0 : decode cX12_settingName 0 = .ok (.iload_n 0, 1) := by decide +kernel
theorem dX12_settingName_1 : decode cX12_settingName 1 = .ok (.tableswitch 78 0 8 #[51, 54, 57, 60, 63, 66, 69, 72, 75], 51) := by decide +kernel
theorem dX12_settingName_52 : decode cX12_settingName 52 = .ok (.ldc 230, 2) := by decide +kernel
theorem dX12_settingName_54 : decode cX12_settingName 54 = .ok (.areturn, 1) := by decide +kernel
theorem dX12_settingName_55 : decode cX12_settingName 55 = .ok (.ldc 232, 2) := by decide +kernel
theorem dX12_settingName_57 : decode cX12_settingName 57 = .ok (.areturn, 1) := by decide +kernel
theorem dX12_settingName_58 : decode cX12_settingName 58 = .ok (.ldc 234, 2) := by decide +kernel
theorem dX12_settingName_60 : decode cX12_settingName 60 = .ok (.areturn, 1) := by decide +kernel
theorem dX12_settingName_61 : decode cX12_settingName 61 = .ok (.ldc 236, 2) := by decide +kernel
theorem dX12_settingName_63 : decode cX12_settingName 63 = .ok (.areturn, 1) := by decide +kernel
theorem dX12_settingName_64 : decode cX12_settingName 64 = .ok (.ldc 238, 2) := by decide +kernel
theorem dX12_settingName_66 : decode cX12_settingName 66 = .ok (.areturn, 1) := by decide +kernel
theorem dX12_settingName_67 : decode cX12_settingName 67 = .ok (.ldc 240, 2) := by decide +kernel
theorem dX12_settingName_69 : decode cX12_settingName 69 = .ok (.areturn, 1) := by decide +kernel
theorem dX12_settingName_70 : decode cX12_settingName 70 = .ok (.ldc 242, 2) := by decide +kernel
theorem dX12_settingName_72 : decode cX12_settingName 72 = .ok (.areturn, 1) := by decide +kernel
theorem dX12_settingName_73 : decode cX12_settingName 73 = .ok (.ldc 244, 2) := by decide +kernel
theorem dX12_settingName_75 : decode cX12_settingName 75 = .ok (.areturn, 1) := by decide +kernel
theorem dX12_settingName_76 : decode cX12_settingName 76 = .ok (.ldc 246, 2) := by decide +kernel
theorem dX12_settingName_78 : decode cX12_settingName 78 = .ok (.areturn, 1) := by decide +kernel
theorem dX12_settingName_79 : decode cX12_settingName 79 = .ok (.ldc 248, 2) := by decide +kernel
theorem dX12_settingName_81 : decode cX12_settingName 81 = .ok (.areturn, 1) := by decide +kernel
theorem rX12_settingName_0 {G : kz_G} {d : Nat} {Qr : Option Value → kz_M → Prop} {Qx : String → kz_M → Prop} {p0 : Int32}  {M : kz_M} (h : (p0 = 0 → Qr (some (.retAddr 1036)) M) ∧ (p0 = 1 → Qr (some (.retAddr 1037)) M) ∧ (p0 = 2 → Qr (some (.retAddr 1038)) M) ∧ (p0 = 3 → Qr (some (.retAddr 1039)) M) ∧ (p0 = 4 → Qr (some (.retAddr 1040)) M) ∧ (p0 = 5 → Qr (some (.retAddr 1041)) M) ∧ (p0 = 6 → Qr (some (.retAddr 1042)) M) ∧ (p0 = 7 → Qr (some (.retAddr 1043)) M) ∧ (p0 = 8 → Qr (some (.retAddr 1044)) M) ∧ (¬ p0 = 0 → ¬ p0 = 1 → ¬ p0 = 2 → ¬ p0 = 3 → ¬ p0 = 4 → ¬ p0 = 5 → ¬ p0 = 6 → ¬ p0 = 7 → ¬ p0 = 8 → Qr (some (.retAddr 1045)) M)) : kz_C G d 0 0 mX12_settingName [.int p0] M Qr Qx := by
  refine kz_enter (n := 1) kmX12_settingName.1 (Nat.le_of_ble_eq_true rfl) (ls := [(0, .int p0)]) rfl ?_
  refine kz_iload_n (pc := 0) 0 (i := 0) rfl rfl dX12_settingName_0 ?_
  by_cases hk0 : p0 = 0
  · replace h := h.1 hk0
    refine kz_tableIn (pc := 1) (off := 51) (tgt := 52) (by rw [hk0]; decide) (by rw [hk0]; decide) (by rw [hk0]; decide) (by decide) dX12_settingName_1 ?_
    refine kz_ldcS (pc := 52) (j := 1036) (tx := "measure") (List.mem_of_getElem? (i := 36) rfl) dX12_settingName_52 ?_
    exact kz_aret (pc := 54) (v := .retAddr 1036) rfl rfl (Or.inl ⟨_, rfl⟩) (Nat.le_refl _) (Nat.le_refl _) dX12_settingName_54 h
  by_cases hk1 : p0 = 1
  · replace h := h.2.1 hk1
    refine kz_tableIn (pc := 1) (off := 54) (tgt := 55) (by rw [hk1]; decide) (by rw [hk1]; decide) (by rw [hk1]; decide) (by decide) dX12_settingName_1 ?_
    refine kz_ldcS (pc := 55) (j := 1037) (tx := "stuff") (List.mem_of_getElem? (i := 37) rfl) dX12_settingName_55 ?_
    exact kz_aret (pc := 57) (v := .retAddr 1037) rfl rfl (Or.inl ⟨_, rfl⟩) (Nat.le_refl _) (Nat.le_refl _) dX12_settingName_57 h
  by_cases hk2 : p0 = 2
  · replace h := h.2.2.1 hk2
    refine kz_tableIn (pc := 1) (off := 57) (tgt := 58) (by rw [hk2]; decide) (by rw [hk2]; decide) (by rw [hk2]; decide) (by decide) dX12_settingName_1 ?_
    refine kz_ldcS (pc := 58) (j := 1038) (tx := "worn") (List.mem_of_getElem? (i := 38) rfl) dX12_settingName_58 ?_
    exact kz_aret (pc := 60) (v := .retAddr 1038) rfl rfl (Or.inl ⟨_, rfl⟩) (Nat.le_refl _) (Nat.le_refl _) dX12_settingName_60 h
  by_cases hk3 : p0 = 3
  · replace h := h.2.2.2.1 hk3
    refine kz_tableIn (pc := 1) (off := 60) (tgt := 61) (by rw [hk3]; decide) (by rw [hk3]; decide) (by rw [hk3]; decide) (by decide) dX12_settingName_1 ?_
    refine kz_ldcS (pc := 61) (j := 1039) (tx := "fine") (List.mem_of_getElem? (i := 39) rfl) dX12_settingName_61 ?_
    exact kz_aret (pc := 63) (v := .retAddr 1039) rfl rfl (Or.inl ⟨_, rfl⟩) (Nat.le_refl _) (Nat.le_refl _) dX12_settingName_63 h
  by_cases hk4 : p0 = 4
  · replace h := h.2.2.2.2.1 hk4
    refine kz_tableIn (pc := 1) (off := 63) (tgt := 64) (by rw [hk4]; decide) (by rw [hk4]; decide) (by rw [hk4]; decide) (by decide) dX12_settingName_1 ?_
    refine kz_ldcS (pc := 64) (j := 1040) (tx := "term") (List.mem_of_getElem? (i := 40) rfl) dX12_settingName_64 ?_
    exact kz_aret (pc := 66) (v := .retAddr 1040) rfl rfl (Or.inl ⟨_, rfl⟩) (Nat.le_refl _) (Nat.le_refl _) dX12_settingName_66 h
  by_cases hk5 : p0 = 5
  · replace h := h.2.2.2.2.2.1 hk5
    refine kz_tableIn (pc := 1) (off := 66) (tgt := 67) (by rw [hk5]; decide) (by rw [hk5]; decide) (by rw [hk5]; decide) (by decide) dX12_settingName_1 ?_
    refine kz_ldcS (pc := 67) (j := 1041) (tx := "distinct") (List.mem_of_getElem? (i := 41) rfl) dX12_settingName_67 ?_
    exact kz_aret (pc := 69) (v := .retAddr 1041) rfl rfl (Or.inl ⟨_, rfl⟩) (Nat.le_refl _) (Nat.le_refl _) dX12_settingName_69 h
  by_cases hk6 : p0 = 6
  · replace h := h.2.2.2.2.2.2.1 hk6
    refine kz_tableIn (pc := 1) (off := 69) (tgt := 70) (by rw [hk6]; decide) (by rw [hk6]; decide) (by rw [hk6]; decide) (by decide) dX12_settingName_1 ?_
    refine kz_ldcS (pc := 70) (j := 1042) (tx := "fee") (List.mem_of_getElem? (i := 42) rfl) dX12_settingName_70 ?_
    exact kz_aret (pc := 72) (v := .retAddr 1042) rfl rfl (Or.inl ⟨_, rfl⟩) (Nat.le_refl _) (Nat.le_refl _) dX12_settingName_72 h
  by_cases hk7 : p0 = 7
  · replace h := h.2.2.2.2.2.2.2.1 hk7
    refine kz_tableIn (pc := 1) (off := 72) (tgt := 73) (by rw [hk7]; decide) (by rw [hk7]; decide) (by rw [hk7]; decide) (by decide) dX12_settingName_1 ?_
    refine kz_ldcS (pc := 73) (j := 1043) (tx := "prose") (List.mem_of_getElem? (i := 43) rfl) dX12_settingName_73 ?_
    exact kz_aret (pc := 75) (v := .retAddr 1043) rfl rfl (Or.inl ⟨_, rfl⟩) (Nat.le_refl _) (Nat.le_refl _) dX12_settingName_75 h
  by_cases hk8 : p0 = 8
  · replace h := h.2.2.2.2.2.2.2.2.1 hk8
    refine kz_tableIn (pc := 1) (off := 75) (tgt := 76) (by rw [hk8]; decide) (by rw [hk8]; decide) (by rw [hk8]; decide) (by decide) dX12_settingName_1 ?_
    refine kz_ldcS (pc := 76) (j := 1044) (tx := "verse") (List.mem_of_getElem? (i := 44) rfl) dX12_settingName_76 ?_
    exact kz_aret (pc := 78) (v := .retAddr 1044) rfl rfl (Or.inl ⟨_, rfl⟩) (Nat.le_refl _) (Nat.le_refl _) dX12_settingName_78 h
  replace h := h.2.2.2.2.2.2.2.2.2 hk0 hk1 hk2 hk3 hk4 hk5 hk6 hk7 hk8
  refine kz_tableOut (pc := 1) (tgt := 79) (kz_swout (lo := 0) (n := 9) (by decide) (by decide) (kz_all9 (kz_swne (by decide) hk0) (kz_swne (by decide) hk1) (kz_swne (by decide) hk2) (kz_swne (by decide) hk3) (kz_swne (by decide) hk4) (kz_swne (by decide) hk5) (kz_swne (by decide) hk6) (kz_swne (by decide) hk7) (kz_swne (by decide) hk8))) (by decide) dX12_settingName_1 ?_
  refine kz_ldcS (pc := 79) (j := 1045) (tx := "list") (List.mem_of_getElem? (i := 45) rfl) dX12_settingName_79 ?_
  exact kz_aret (pc := 81) (v := .retAddr 1045) rfl rfl (Or.inl ⟨_, rfl⟩) (Nat.le_refl _) (Nat.le_refl _) dX12_settingName_81 h
theorem dX12_settingAt_0 : decode cX12_settingAt 0 = .ok (.iconst 0, 1) := by decide +kernel
theorem dX12_settingAt_1 : decode cX12_settingAt 1 = .ok (.istore_n 3, 1) := by decide +kernel
theorem dX12_settingAt_2 : decode cX12_settingAt 2 = .ok (.iload_n 3, 1) := by decide +kernel
theorem dX12_settingAt_3 : decode cX12_settingAt 3 = .ok (.bipush 10, 2) := by decide +kernel
theorem dX12_settingAt_5 : decode cX12_settingAt 5 = .ok (.if_icmp .ge 24, 3) := by decide +kernel
theorem dX12_settingAt_8 : decode cX12_settingAt 8 = .ok (.aload_n 0, 1) := by decide +kernel
theorem dX12_settingAt_9 : decode cX12_settingAt 9 = .ok (.iload_n 3, 1) := by decide +kernel
theorem dX12_settingAt_10 : decode cX12_settingAt 10 = .ok (.invokestatic 250, 3) := by decide +kernel
theorem dX12_settingAt_13 : decode cX12_settingAt 13 = .ok (.iload_n 1, 1) := by decide +kernel
theorem dX12_settingAt_14 : decode cX12_settingAt 14 = .ok (.iload_n 2, 1) := by decide +kernel
theorem dX12_settingAt_15 : decode cX12_settingAt 15 = .ok (.invokevirtual 214, 3) := by decide +kernel
theorem dX12_settingAt_18 : decode cX12_settingAt 18 = .ok (.ifCond .eq 5, 3) := by decide +kernel
theorem dX12_settingAt_21 : decode cX12_settingAt 21 = .ok (.iload_n 3, 1) := by decide +kernel
theorem dX12_settingAt_22 : decode cX12_settingAt 22 = .ok (.ireturn, 1) := by decide +kernel
theorem dX12_settingAt_23 : decode cX12_settingAt 23 = .ok (.iinc 3 1, 3) := by decide +kernel
theorem dX12_settingAt_26 : decode cX12_settingAt 26 = .ok (.goto (-24), 3) := by decide +kernel
theorem dX12_settingAt_29 : decode cX12_settingAt 29 = .ok (.iconst (-1), 1) := by decide +kernel
theorem dX12_settingAt_30 : decode cX12_settingAt 30 = .ok (.ireturn, 1) := by decide +kernel
def zX12_settingAt_2 (G : kz_G) (d : Nat) (Qr : Option Value → kz_M → Prop) (Qx : String → kz_M → Prop) (x0 : Nat) (x1 : Int32) (x2 : Int32) (x3 : Int32)  (M : kz_M) : Prop := kz_Z G (d + 5) 0 0 mX12_settingAt Qr Qx 2 [(0, .ref x0), (1, .int x1), (2, .int x2), (3, .int x3)] [] M 0 0
theorem rX12_settingAt_0 {G : kz_G} {d : Nat} {Qr : Option Value → kz_M → Prop} {Qx : String → kz_M → Prop} {a0 : Nat} {p1 : Int32} {p2 : Int32}  {M : kz_M} (h : zX12_settingAt_2 G d Qr Qx a0 p1 p2 0 M) : kz_C G (d + 5) 0 0 mX12_settingAt [.ref a0, .int p1, .int p2] M Qr Qx := by
  refine kz_enter (n := 2) kmX12_settingAt.1 (Nat.le_of_ble_eq_true rfl) (ls := [(0, .ref a0), (1, .int p1), (2, .int p2)]) rfl ?_
  refine kz_iconst (pc := 0) (v := 0) (by decide) dX12_settingAt_0 ?_
  refine kz_istore_n (pc := 1) (i := 3) (ls' := [(0, .ref a0), (1, .int p1), (2, .int p2)]) rfl (by decide) rfl dX12_settingAt_1 ?_
  refine kz_sub [1, 2, 3, 0] rfl ?_
  exact h
theorem rX12_settingAt_2 {G : kz_G} {d : Nat} {Qr : Option Value → kz_M → Prop} {Qx : String → kz_M → Prop} {x0 : Nat} {x1 : Int32} {x2 : Int32} {x3 : Int32}  {M : kz_M} (h : ((10 : Int32) ≤ x3 → Qr (some (.int ((-1)))) M) ∧ (¬ (10 : Int32) ≤ x3 → kz_C G (d + 4) 0 0 mX12_settingName [.int x3] M (fun v M1 => ∃ r2 : Nat, v = some (.retAddr r2) ∧ ((∃ fs7, (M1).1 x0 = some (.inl (11, fs7))) ∧ kz_C G (d + 4) 0 0 mX12_isWordAt [.ref x0, .retAddr r2, .int x1, .int x2] M1 (fun v M4 => ∃ r5 : Int32, v = some (.int r5) ∧ ((r5 = 0 → zX12_settingAt_2 G d Qr Qx x0 x1 x2 (x3 + 1) M4) ∧ (¬ r5 = 0 → Qr (some (.int x3)) M4))) Qx)) Qx)) : zX12_settingAt_2 G d Qr Qx x0 x1 x2 x3  M := by
  show kz_Z G (d + 5) 0 0 mX12_settingAt Qr Qx 2 [(0, .ref x0), (1, .int x1), (2, .int x2), (3, .int x3)] [] M 0 0
  refine kz_iload_n (pc := 2) 3 (i := 3) rfl rfl dX12_settingAt_2 ?_
  refine kz_bipush (pc := 3) (v := 10) (by decide) dX12_settingAt_3 ?_
  refine kz_icmp_ge (pc := 5) (tgt := 29) (by decide) dX12_settingAt_5 (fun hb => ?_) (fun hb => ?_)
  · replace h := h.1 hb
    refine kz_iconst (pc := 29) (v := (-1)) (by decide) dX12_settingAt_29 ?_
    exact kz_iret (pc := 30) rfl (Nat.le_refl _) (Nat.le_refl _) dX12_settingAt_30 h
  · replace h := h.2 hb
    refine kz_aload_n (pc := 8) 0 (v := .ref x0) (i := 0) rfl rfl rfl dX12_settingAt_8 ?_
    refine kz_iload_n (pc := 9) 3 (i := 3) rfl rfl dX12_settingAt_9 ?_
    refine kz_callS (pc := 10) (μ' := mX12_settingName) (d' := d + 4) (mc' := 0) (ms' := 0) (As := [.int x3]) (st := [.ref x0]) (c := 0) (sl := 0) kmX12_settingName kw_1565 (by omega) rfl (Nat.le_of_ble_eq_true rfl) (Nat.le_refl _) (Nat.le_refl _) dX12_settingAt_10 (fun E M9 hx => kz_Tout rfl (Nat.le_refl _) (Nat.le_refl _) hx) (kz_Cmono (fun v M1 h => ?_) (fun _ _ h => h) h)
    obtain ⟨r2, rfl, h⟩ := h
    show kz_Z G (d + 5) 0 0 mX12_settingAt Qr Qx 13 [(0, .ref x0), (1, .int x1), (2, .int x2), (3, .int x3)] [.retAddr r2, .ref x0] M1 0 0
    refine kz_iload_n (pc := 13) 1 (i := 1) rfl rfl dX12_settingAt_13 ?_
    refine kz_iload_n (pc := 14) 2 (i := 2) rfl rfl dX12_settingAt_14 ?_
    obtain ⟨⟨fs7, he⟩, h⟩ := h
    refine kz_callV (pc := 15) (μ' := mX12_isWordAt) (ci := 11) (q := (RX12, TX12, 32)) (b := x0) (d' := d + 4) (mc' := 0) (ms' := 0) (As := [.retAddr r2, .int x1, .int x2]) (st := []) (c := 0) (sl := 0) kmX12_isWordAt kw_1525 (by omega) rfl (Nat.le_of_ble_eq_true rfl) he rfl rfl (Nat.le_refl _) (Nat.le_refl _) dX12_settingAt_15 (fun E M9 hx => kz_Tout rfl (Nat.le_refl _) (Nat.le_refl _) hx) (kz_Cmono (fun v M4 h => ?_) (fun _ _ h => h) h)
    obtain ⟨r5, rfl, h⟩ := h
    show kz_Z G (d + 5) 0 0 mX12_settingAt Qr Qx 18 [(0, .ref x0), (1, .int x1), (2, .int x2), (3, .int x3)] [.int r5] M4 0 0
    refine kz_if_eq (pc := 18) (tgt := 23) (by decide) dX12_settingAt_18 (fun hb => ?_) (fun hb => ?_)
    · replace h := h.1 hb
      refine kz_iinc (pc := 23) 3 (i := 3) (v := x3 + 1) (ls' := [(0, .ref x0), (1, .int x1), (2, .int x2)]) rfl (congrArg (fun z => x3 + z) (by decide)) (by decide) rfl dX12_settingAt_23 ?_
      refine kz_goto (pc := 26) (tgt := 2) (by decide) dX12_settingAt_26 ?_
      refine kz_sub [1, 2, 3, 0] rfl ?_
      exact h
    · replace h := h.2 hb
      refine kz_iload_n (pc := 21) 3 (i := 3) rfl rfl dX12_settingAt_21 ?_
      exact kz_iret (pc := 22) rfl (Nat.le_refl _) (Nat.le_refl _) dX12_settingAt_22 h
theorem dX12_isName_0 : decode cX12_isName 0 = .ok (.iload_n 2, 1) := by decide +kernel
theorem dX12_isName_1 : decode cX12_isName 1 = .ok (.iload_n 1, 1) := by decide +kernel
theorem dX12_isName_2 : decode cX12_isName 2 = .ok (.isub, 1) := by decide +kernel
theorem dX12_isName_3 : decode cX12_isName 3 = .ok (.iconst 1, 1) := by decide +kernel
theorem dX12_isName_4 : decode cX12_isName 4 = .ok (.bipush 6, 2) := by decide +kernel
theorem dX12_isName_6 : decode cX12_isName 6 = .ok (.invokestatic 67, 3) := by decide +kernel
theorem dX12_isName_9 : decode cX12_isName 9 = .ok (.ifCond .ne 5, 3) := by decide +kernel
theorem dX12_isName_12 : decode cX12_isName 12 = .ok (.iconst 0, 1) := by decide +kernel
theorem dX12_isName_13 : decode cX12_isName 13 = .ok (.ireturn, 1) := by decide +kernel
theorem dX12_isName_14 : decode cX12_isName 14 = .ok (.iload_n 1, 1) := by decide +kernel
theorem dX12_isName_15 : decode cX12_isName 15 = .ok (.istore_n 3, 1) := by decide +kernel
theorem dX12_isName_16 : decode cX12_isName 16 = .ok (.iload_n 3, 1) := by decide +kernel
theorem dX12_isName_17 : decode cX12_isName 17 = .ok (.iload_n 2, 1) := by decide +kernel
theorem dX12_isName_18 : decode cX12_isName 18 = .ok (.if_icmp .ge 23, 3) := by decide +kernel
theorem dX12_isName_21 : decode cX12_isName 21 = .ok (.aload_n 0, 1) := by decide +kernel
theorem dX12_isName_22 : decode cX12_isName 22 = .ok (.getfield 47, 3) := by decide +kernel
theorem dX12_isName_25 : decode cX12_isName 25 = .ok (.iload_n 3, 1) := by decide +kernel
theorem dX12_isName_26 : decode cX12_isName 26 = .ok (.iaload, 1) := by decide +kernel
theorem dX12_isName_27 : decode cX12_isName 27 = .ok (.invokestatic 174, 3) := by decide +kernel
theorem dX12_isName_30 : decode cX12_isName 30 = .ok (.ifCond .ne 5, 3) := by decide +kernel
theorem dX12_isName_33 : decode cX12_isName 33 = .ok (.iconst 0, 1) := by decide +kernel
theorem dX12_isName_34 : decode cX12_isName 34 = .ok (.ireturn, 1) := by decide +kernel
theorem dX12_isName_35 : decode cX12_isName 35 = .ok (.iinc 3 1, 3) := by decide +kernel
theorem dX12_isName_38 : decode cX12_isName 38 = .ok (.goto (-22), 3) := by decide +kernel
theorem dX12_isName_41 : decode cX12_isName 41 = .ok (.aload_n 0, 1) := by decide +kernel
theorem dX12_isName_42 : decode cX12_isName 42 = .ok (.iload_n 1, 1) := by decide +kernel
theorem dX12_isName_43 : decode cX12_isName 43 = .ok (.iload_n 2, 1) := by decide +kernel
theorem dX12_isName_44 : decode cX12_isName 44 = .ok (.invokevirtual 254, 3) := by decide +kernel
theorem dX12_isName_47 : decode cX12_isName 47 = .ok (.iconst (-1), 1) := by decide +kernel
theorem dX12_isName_48 : decode cX12_isName 48 = .ok (.if_icmp .ne 31, 3) := by decide +kernel
theorem dX12_isName_51 : decode cX12_isName 51 = .ok (.aload_n 0, 1) := by decide +kernel
theorem dX12_isName_52 : decode cX12_isName 52 = .ok (.ldc_w 257, 3) := by decide +kernel
theorem dX12_isName_55 : decode cX12_isName 55 = .ok (.iload_n 1, 1) := by decide +kernel
theorem dX12_isName_56 : decode cX12_isName 56 = .ok (.iload_n 2, 1) := by decide +kernel
theorem dX12_isName_57 : decode cX12_isName 57 = .ok (.invokevirtual 214, 3) := by decide +kernel
theorem dX12_isName_60 : decode cX12_isName 60 = .ok (.ifCond .ne 19, 3) := by decide +kernel
theorem dX12_isName_63 : decode cX12_isName 63 = .ok (.aload_n 0, 1) := by decide +kernel
theorem dX12_isName_64 : decode cX12_isName 64 = .ok (.ldc_w 259, 3) := by decide +kernel
theorem dX12_isName_67 : decode cX12_isName 67 = .ok (.iload_n 1, 1) := by decide +kernel
theorem dX12_isName_68 : decode cX12_isName 68 = .ok (.iload_n 2, 1) := by decide +kernel
theorem dX12_isName_69 : decode cX12_isName 69 = .ok (.invokevirtual 214, 3) := by decide +kernel
theorem dX12_isName_72 : decode cX12_isName 72 = .ok (.ifCond .ne 7, 3) := by decide +kernel
theorem dX12_isName_75 : decode cX12_isName 75 = .ok (.iconst 1, 1) := by decide +kernel
theorem dX12_isName_76 : decode cX12_isName 76 = .ok (.goto 4, 3) := by decide +kernel
theorem dX12_isName_79 : decode cX12_isName 79 = .ok (.iconst 0, 1) := by decide +kernel
theorem dX12_isName_80 : decode cX12_isName 80 = .ok (.ireturn, 1) := by decide +kernel
def zX12_isName_16 (G : kz_G) (d : Nat) (Qr : Option Value → kz_M → Prop) (Qx : String → kz_M → Prop) (x0 : Nat) (x1 : Int32) (x2 : Int32) (x3 : Int32)  (M : kz_M) : Prop := kz_Z G (d + 6) 0 0 mX12_isName Qr Qx 16 [(0, .ref x0), (1, .int x1), (2, .int x2), (3, .int x3)] [] M 0 0
theorem rX12_isName_0 {G : kz_G} {d : Nat} {Qr : Option Value → kz_M → Prop} {Qx : String → kz_M → Prop} {a0 : Nat} {p1 : Int32} {p2 : Int32}  {M : kz_M} (h : kz_C G (d + 5) 0 0 mX12_inRange [.int (p2 - p1), .int 1, .int 6] M (fun v M1 => ∃ r2 : Int32, v = some (.int r2) ∧ ((¬ r2 = 0 → zX12_isName_16 G d Qr Qx a0 p1 p2 p1 M1) ∧ (r2 = 0 → Qr (some (.int 0)) M1))) Qx) : kz_C G (d + 6) 0 0 mX12_isName [.ref a0, .int p1, .int p2] M Qr Qx := by
  refine kz_enter (n := 2) kmX12_isName.1 (Nat.le_of_ble_eq_true rfl) (ls := [(0, .ref a0), (1, .int p1), (2, .int p2)]) rfl ?_
  refine kz_iload_n (pc := 0) 2 (i := 2) rfl rfl dX12_isName_0 ?_
  refine kz_iload_n (pc := 1) 1 (i := 1) rfl rfl dX12_isName_1 ?_
  refine kz_isub (pc := 2) dX12_isName_2 ?_
  refine kz_iconst (pc := 3) (v := 1) (by decide) dX12_isName_3 ?_
  refine kz_bipush (pc := 4) (v := 6) (by decide) dX12_isName_4 ?_
  refine kz_callS (pc := 6) (μ' := mX12_inRange) (d' := d + 5) (mc' := 0) (ms' := 0) (As := [.int (p2 - p1), .int 1, .int 6]) (st := []) (c := 0) (sl := 0) kmX12_inRange kw_1491 (by omega) rfl (Nat.le_of_ble_eq_true rfl) (Nat.le_refl _) (Nat.le_refl _) dX12_isName_6 (fun E M9 hx => kz_Tout rfl (Nat.le_refl _) (Nat.le_refl _) hx) (kz_Cmono (fun v M1 h => ?_) (fun _ _ h => h) h)
  obtain ⟨r2, rfl, h⟩ := h
  show kz_Z G (d + 6) 0 0 mX12_isName Qr Qx 9 [(0, .ref a0), (1, .int p1), (2, .int p2)] [.int r2] M1 0 0
  refine kz_if_ne (pc := 9) (tgt := 14) (by decide) dX12_isName_9 (fun hb => ?_) (fun hb => ?_)
  · replace h := h.1 hb
    refine kz_iload_n (pc := 14) 1 (i := 1) rfl rfl dX12_isName_14 ?_
    refine kz_istore_n (pc := 15) (i := 3) (ls' := [(0, .ref a0), (1, .int p1), (2, .int p2)]) rfl (by decide) rfl dX12_isName_15 ?_
    refine kz_sub [1, 2, 3, 0] rfl ?_
    exact h
  · replace h := h.2 hb
    refine kz_iconst (pc := 12) (v := 0) (by decide) dX12_isName_12 ?_
    exact kz_zret (pc := 13) (ty := .boolean) rfl (by decide) (Nat.le_refl _) (Nat.le_refl _) dX12_isName_13 h
theorem rX12_isName_16 {G : kz_G} {d : Nat} {Qr : Option Value → kz_M → Prop} {Qx : String → kz_M → Prop} {x0 : Nat} {x1 : Int32} {x2 : Int32} {x3 : Int32}  {M : kz_M} (h : (x2 ≤ x3 → (∃ fs12, (M).1 x0 = some (.inl (11, fs12))) ∧ kz_C G (d + 5) 0 0 mX12_settingAt [.ref x0, .int x1, .int x2] M (fun v M1 => ∃ r2 : Int32, v = some (.int r2) ∧ ((¬ r2 = ((-1) : Int32) → Qr (some (.int 0)) M1) ∧ (r2 = ((-1) : Int32) → (∃ fs11, (M1).1 x0 = some (.inl (11, fs11))) ∧ kz_C G (d + 5) 0 0 mX12_isWordAt [.ref x0, .retAddr 1046, .int x1, .int x2] M1 (fun v M4 => ∃ r5 : Int32, v = some (.int r5) ∧ ((¬ r5 = 0 → Qr (some (.int 0)) M4) ∧ (r5 = 0 → (∃ fs10, (M4).1 x0 = some (.inl (11, fs10))) ∧ kz_C G (d + 5) 0 0 mX12_isWordAt [.ref x0, .retAddr 1047, .int x1, .int x2] M4 (fun v M7 => ∃ r8 : Int32, v = some (.int r8) ∧ ((¬ r8 = 0 → Qr (some (.int 0)) M7) ∧ (r8 = 0 → Qr (some (.int 1)) M7))) Qx))) Qx))) Qx) ∧ (¬ x2 ≤ x3 → ∃ fs13 v14, (M).1 x0 = some (.inl (11, fs13)) ∧ fs13[18]? = some (.ref v14) ∧ (∃ n15 f16, (M).1 v14 = some (.inr (.int, n15, .inl f16)) ∧ vp_in x3 n15 ∧ (kz_C G (d + 5) 0 0 mX12_isLetter [.int (f16 x3.toNatClampNeg)] M (fun v M17 => ∃ r18 : Int32, v = some (.int r18) ∧ ((¬ r18 = 0 → zX12_isName_16 G d Qr Qx x0 x1 x2 (x3 + 1) M17) ∧ (r18 = 0 → Qr (some (.int 0)) M17))) Qx)))) : zX12_isName_16 G d Qr Qx x0 x1 x2 x3  M := by
  show kz_Z G (d + 6) 0 0 mX12_isName Qr Qx 16 [(0, .ref x0), (1, .int x1), (2, .int x2), (3, .int x3)] [] M 0 0
  refine kz_iload_n (pc := 16) 3 (i := 3) rfl rfl dX12_isName_16 ?_
  refine kz_iload_n (pc := 17) 2 (i := 2) rfl rfl dX12_isName_17 ?_
  refine kz_icmp_ge (pc := 18) (tgt := 41) (by decide) dX12_isName_18 (fun hb => ?_) (fun hb => ?_)
  · replace h := h.1 hb
    refine kz_aload_n (pc := 41) 0 (v := .ref x0) (i := 0) rfl rfl rfl dX12_isName_41 ?_
    refine kz_iload_n (pc := 42) 1 (i := 1) rfl rfl dX12_isName_42 ?_
    refine kz_iload_n (pc := 43) 2 (i := 2) rfl rfl dX12_isName_43 ?_
    obtain ⟨⟨fs12, he⟩, h⟩ := h
    refine kz_callV (pc := 44) (μ' := mX12_settingAt) (ci := 11) (q := (RX12, TX12, 32)) (b := x0) (d' := d + 5) (mc' := 0) (ms' := 0) (As := [.int x1, .int x2]) (st := []) (c := 0) (sl := 0) kmX12_settingAt kw_1561 (by omega) rfl (Nat.le_of_ble_eq_true rfl) he rfl rfl (Nat.le_refl _) (Nat.le_refl _) dX12_isName_44 (fun E M9 hx => kz_Tout rfl (Nat.le_refl _) (Nat.le_refl _) hx) (kz_Cmono (fun v M1 h => ?_) (fun _ _ h => h) h)
    obtain ⟨r2, rfl, h⟩ := h
    show kz_Z G (d + 6) 0 0 mX12_isName Qr Qx 47 [(0, .ref x0), (1, .int x1), (2, .int x2), (3, .int x3)] [.int r2] M1 0 0
    refine kz_iconst (pc := 47) (v := (-1)) (by decide) dX12_isName_47 ?_
    refine kz_icmp_ne (pc := 48) (tgt := 79) (by decide) dX12_isName_48 (fun hb => ?_) (fun hb => ?_)
    · replace h := h.1 hb
      refine kz_iconst (pc := 79) (v := 0) (by decide) dX12_isName_79 ?_
      exact kz_zret (pc := 80) (ty := .boolean) rfl (by decide) (Nat.le_refl _) (Nat.le_refl _) dX12_isName_80 h
    · replace h := h.2 hb
      refine kz_aload_n (pc := 51) 0 (v := .ref x0) (i := 0) rfl rfl rfl dX12_isName_51 ?_
      refine kz_ldcwS (pc := 52) (j := 1046) (tx := "office") (List.mem_of_getElem? (i := 46) rfl) dX12_isName_52 ?_
      refine kz_iload_n (pc := 55) 1 (i := 1) rfl rfl dX12_isName_55 ?_
      refine kz_iload_n (pc := 56) 2 (i := 2) rfl rfl dX12_isName_56 ?_
      obtain ⟨⟨fs11, he⟩, h⟩ := h
      refine kz_callV (pc := 57) (μ' := mX12_isWordAt) (ci := 11) (q := (RX12, TX12, 32)) (b := x0) (d' := d + 5) (mc' := 0) (ms' := 0) (As := [.retAddr 1046, .int x1, .int x2]) (st := []) (c := 0) (sl := 0) kmX12_isWordAt kw_1525 (by omega) rfl (Nat.le_of_ble_eq_true rfl) he rfl rfl (Nat.le_refl _) (Nat.le_refl _) dX12_isName_57 (fun E M9 hx => kz_Tout rfl (Nat.le_refl _) (Nat.le_refl _) hx) (kz_Cmono (fun v M4 h => ?_) (fun _ _ h => h) h)
      obtain ⟨r5, rfl, h⟩ := h
      show kz_Z G (d + 6) 0 0 mX12_isName Qr Qx 60 [(0, .ref x0), (1, .int x1), (2, .int x2), (3, .int x3)] [.int r5] M4 0 0
      refine kz_if_ne (pc := 60) (tgt := 79) (by decide) dX12_isName_60 (fun hb => ?_) (fun hb => ?_)
      · replace h := h.1 hb
        refine kz_iconst (pc := 79) (v := 0) (by decide) dX12_isName_79 ?_
        exact kz_zret (pc := 80) (ty := .boolean) rfl (by decide) (Nat.le_refl _) (Nat.le_refl _) dX12_isName_80 h
      · replace h := h.2 hb
        refine kz_aload_n (pc := 63) 0 (v := .ref x0) (i := 0) rfl rfl rfl dX12_isName_63 ?_
        refine kz_ldcwS (pc := 64) (j := 1047) (tx := "writer") (List.mem_of_getElem? (i := 47) rfl) dX12_isName_64 ?_
        refine kz_iload_n (pc := 67) 1 (i := 1) rfl rfl dX12_isName_67 ?_
        refine kz_iload_n (pc := 68) 2 (i := 2) rfl rfl dX12_isName_68 ?_
        obtain ⟨⟨fs10, he⟩, h⟩ := h
        refine kz_callV (pc := 69) (μ' := mX12_isWordAt) (ci := 11) (q := (RX12, TX12, 32)) (b := x0) (d' := d + 5) (mc' := 0) (ms' := 0) (As := [.retAddr 1047, .int x1, .int x2]) (st := []) (c := 0) (sl := 0) kmX12_isWordAt kw_1525 (by omega) rfl (Nat.le_of_ble_eq_true rfl) he rfl rfl (Nat.le_refl _) (Nat.le_refl _) dX12_isName_69 (fun E M9 hx => kz_Tout rfl (Nat.le_refl _) (Nat.le_refl _) hx) (kz_Cmono (fun v M7 h => ?_) (fun _ _ h => h) h)
        obtain ⟨r8, rfl, h⟩ := h
        show kz_Z G (d + 6) 0 0 mX12_isName Qr Qx 72 [(0, .ref x0), (1, .int x1), (2, .int x2), (3, .int x3)] [.int r8] M7 0 0
        refine kz_if_ne (pc := 72) (tgt := 79) (by decide) dX12_isName_72 (fun hb => ?_) (fun hb => ?_)
        · replace h := h.1 hb
          refine kz_iconst (pc := 79) (v := 0) (by decide) dX12_isName_79 ?_
          exact kz_zret (pc := 80) (ty := .boolean) rfl (by decide) (Nat.le_refl _) (Nat.le_refl _) dX12_isName_80 h
        · replace h := h.2 hb
          refine kz_iconst (pc := 75) (v := 1) (by decide) dX12_isName_75 ?_
          refine kz_goto (pc := 76) (tgt := 80) (by decide) dX12_isName_76 ?_
          exact kz_zret (pc := 80) (ty := .boolean) rfl (by decide) (Nat.le_refl _) (Nat.le_refl _) dX12_isName_80 h
  · replace h := h.2 hb
    refine kz_aload_n (pc := 21) 0 (v := .ref x0) (i := 0) rfl rfl rfl dX12_isName_21 ?_
    obtain ⟨fs13, v14, hM, hv, h⟩ := h
    refine kz_getf (pc := 22) (k := 18) kcX12 hM hv (by decide) kw_1396 dX12_isName_22 ?_
    refine kz_iload_n (pc := 25) 3 (i := 3) rfl rfl dX12_isName_25 ?_
    obtain ⟨n15, f16, hM, hi, h⟩ := h
    refine kz_iald (pc := 26) hM hi dX12_isName_26 ?_
    refine kz_callS (pc := 27) (μ' := mX12_isLetter) (d' := d + 5) (mc' := 0) (ms' := 0) (As := [.int (f16 x3.toNatClampNeg)]) (st := []) (c := 0) (sl := 0) kmX12_isLetter kw_1509 (by omega) rfl (Nat.le_of_ble_eq_true rfl) (Nat.le_refl _) (Nat.le_refl _) dX12_isName_27 (fun E M9 hx => kz_Tout rfl (Nat.le_refl _) (Nat.le_refl _) hx) (kz_Cmono (fun v M17 h => ?_) (fun _ _ h => h) h)
    obtain ⟨r18, rfl, h⟩ := h
    show kz_Z G (d + 6) 0 0 mX12_isName Qr Qx 30 [(0, .ref x0), (1, .int x1), (2, .int x2), (3, .int x3)] [.int r18] M17 0 0
    refine kz_if_ne (pc := 30) (tgt := 35) (by decide) dX12_isName_30 (fun hb => ?_) (fun hb => ?_)
    · replace h := h.1 hb
      refine kz_iinc (pc := 35) 3 (i := 3) (v := x3 + 1) (ls' := [(0, .ref x0), (1, .int x1), (2, .int x2)]) rfl (congrArg (fun z => x3 + z) (by decide)) (by decide) rfl dX12_isName_35 ?_
      refine kz_goto (pc := 38) (tgt := 16) (by decide) dX12_isName_38 ?_
      refine kz_sub [1, 2, 3, 0] rfl ?_
      exact h
    · replace h := h.2 hb
      refine kz_iconst (pc := 33) (v := 0) (by decide) dX12_isName_33 ?_
      exact kz_zret (pc := 34) (ty := .boolean) rfl (by decide) (Nat.le_refl _) (Nat.le_refl _) dX12_isName_34 h
theorem dX12_packed_0 : decode cX12_packed 0 = .ok (.iconst 0, 1) := by decide +kernel
theorem dX12_packed_1 : decode cX12_packed 1 = .ok (.istore_n 3, 1) := by decide +kernel
theorem dX12_packed_2 : decode cX12_packed 2 = .ok (.iload_n 1, 1) := by decide +kernel
theorem dX12_packed_3 : decode cX12_packed 3 = .ok (.istore 4, 2) := by decide +kernel
theorem dX12_packed_5 : decode cX12_packed 5 = .ok (.iload 4, 2) := by decide +kernel
theorem dX12_packed_7 : decode cX12_packed 7 = .ok (.iload_n 2, 1) := by decide +kernel
theorem dX12_packed_8 : decode cX12_packed 8 = .ok (.if_icmp .ge 25, 3) := by decide +kernel
theorem dX12_packed_11 : decode cX12_packed 11 = .ok (.bipush 27, 2) := by decide +kernel
theorem dX12_packed_13 : decode cX12_packed 13 = .ok (.iload_n 3, 1) := by decide +kernel
theorem dX12_packed_14 : decode cX12_packed 14 = .ok (.imul, 1) := by decide +kernel
theorem dX12_packed_15 : decode cX12_packed 15 = .ok (.aload_n 0, 1) := by decide +kernel
theorem dX12_packed_16 : decode cX12_packed 16 = .ok (.getfield 47, 3) := by decide +kernel
theorem dX12_packed_19 : decode cX12_packed 19 = .ok (.iload 4, 2) := by decide +kernel
theorem dX12_packed_21 : decode cX12_packed 21 = .ok (.iaload, 1) := by decide +kernel
theorem dX12_packed_22 : decode cX12_packed 22 = .ok (.iadd, 1) := by decide +kernel
theorem dX12_packed_23 : decode cX12_packed 23 = .ok (.bipush 96, 2) := by decide +kernel
theorem dX12_packed_25 : decode cX12_packed 25 = .ok (.isub, 1) := by decide +kernel
theorem dX12_packed_26 : decode cX12_packed 26 = .ok (.istore_n 3, 1) := by decide +kernel
theorem dX12_packed_27 : decode cX12_packed 27 = .ok (.iinc 4 1, 3) := by decide +kernel
theorem dX12_packed_30 : decode cX12_packed 30 = .ok (.goto (-25), 3) := by decide +kernel
theorem dX12_packed_33 : decode cX12_packed 33 = .ok (.iload_n 3, 1) := by decide +kernel
theorem dX12_packed_34 : decode cX12_packed 34 = .ok (.ireturn, 1) := by decide +kernel
def zX12_packed_5 (G : kz_G) (d : Nat) (Qr : Option Value → kz_M → Prop) (Qx : String → kz_M → Prop) (x0 : Nat) (x2 : Int32) (x3 : Int32) (x4 : Int32)  (M : kz_M) : Prop := kz_Z G d 0 0 mX12_packed Qr Qx 5 [(0, .ref x0), (2, .int x2), (3, .int x3), (4, .int x4)] [] M 0 0
theorem rX12_packed_0 {G : kz_G} {d : Nat} {Qr : Option Value → kz_M → Prop} {Qx : String → kz_M → Prop} {a0 : Nat} {p1 : Int32} {p2 : Int32}  {M : kz_M} (h : zX12_packed_5 G d Qr Qx a0 p2 0 p1 M) : kz_C G d 0 0 mX12_packed [.ref a0, .int p1, .int p2] M Qr Qx := by
  refine kz_enter (n := 2) kmX12_packed.1 (Nat.le_of_ble_eq_true rfl) (ls := [(0, .ref a0), (1, .int p1), (2, .int p2)]) rfl ?_
  refine kz_iconst (pc := 0) (v := 0) (by decide) dX12_packed_0 ?_
  refine kz_istore_n (pc := 1) (i := 3) (ls' := [(0, .ref a0), (1, .int p1), (2, .int p2)]) rfl (by decide) rfl dX12_packed_1 ?_
  refine kz_iload_n (pc := 2) 2 (i := 1) rfl rfl dX12_packed_2 ?_
  refine kz_istore (pc := 3) (i := 4) (ls' := [(3, .int 0), (0, .ref a0), (1, .int p1), (2, .int p2)]) (by decide) rfl dX12_packed_3 ?_
  refine kz_sub [2, 4, 1, 0] rfl ?_
  exact h
theorem rX12_packed_5 {G : kz_G} {d : Nat} {Qr : Option Value → kz_M → Prop} {Qx : String → kz_M → Prop} {x0 : Nat} {x2 : Int32} {x3 : Int32} {x4 : Int32}  {M : kz_M} (h : (x2 ≤ x4 → Qr (some (.int x3)) M) ∧ (¬ x2 ≤ x4 → ∃ fs1 v2, (M).1 x0 = some (.inl (11, fs1)) ∧ fs1[18]? = some (.ref v2) ∧ (∃ n3 f4, (M).1 v2 = some (.inr (.int, n3, .inl f4)) ∧ vp_in x4 n3 ∧ (zX12_packed_5 G d Qr Qx x0 x2 (((27 * x3) + (f4 x4.toNatClampNeg)) - 96) (x4 + 1) M)))) : zX12_packed_5 G d Qr Qx x0 x2 x3 x4  M := by
  show kz_Z G d 0 0 mX12_packed Qr Qx 5 [(0, .ref x0), (2, .int x2), (3, .int x3), (4, .int x4)] [] M 0 0
  refine kz_iload (pc := 5) 3 (i := 4) rfl dX12_packed_5 ?_
  refine kz_iload_n (pc := 7) 1 (i := 2) rfl rfl dX12_packed_7 ?_
  refine kz_icmp_ge (pc := 8) (tgt := 33) (by decide) dX12_packed_8 (fun hb => ?_) (fun hb => ?_)
  · replace h := h.1 hb
    refine kz_iload_n (pc := 33) 2 (i := 3) rfl rfl dX12_packed_33 ?_
    exact kz_iret (pc := 34) rfl (Nat.le_refl _) (Nat.le_refl _) dX12_packed_34 h
  · replace h := h.2 hb
    refine kz_bipush (pc := 11) (v := 27) (by decide) dX12_packed_11 ?_
    refine kz_iload_n (pc := 13) 2 (i := 3) rfl rfl dX12_packed_13 ?_
    refine kz_imul (pc := 14) dX12_packed_14 ?_
    refine kz_aload_n (pc := 15) 0 (v := .ref x0) (i := 0) rfl rfl rfl dX12_packed_15 ?_
    obtain ⟨fs1, v2, hM, hv, h⟩ := h
    refine kz_getf (pc := 16) (k := 18) kcX12 hM hv (by decide) kw_1396 dX12_packed_16 ?_
    refine kz_iload (pc := 19) 3 (i := 4) rfl dX12_packed_19 ?_
    obtain ⟨n3, f4, hM, hi, h⟩ := h
    refine kz_iald (pc := 21) hM hi dX12_packed_21 ?_
    refine kz_iadd (pc := 22) dX12_packed_22 ?_
    refine kz_bipush (pc := 23) (v := 96) (by decide) dX12_packed_23 ?_
    refine kz_isub (pc := 25) dX12_packed_25 ?_
    refine kz_istore_n (pc := 26) (i := 3) (ls' := [(0, .ref x0), (2, .int x2), (4, .int x4)]) rfl (by decide) rfl dX12_packed_26 ?_
    refine kz_iinc (pc := 27) 3 (i := 4) (v := x4 + 1) (ls' := [(3, .int (((27 * x3) + (f4 x4.toNatClampNeg)) - 96)), (0, .ref x0), (2, .int x2)]) rfl (congrArg (fun z => x4 + z) (by decide)) (by decide) rfl dX12_packed_27 ?_
    refine kz_goto (pc := 30) (tgt := 5) (by decide) dX12_packed_30 ?_
    refine kz_sub [2, 3, 1, 0] rfl ?_
    exact h
theorem dX12_isTaken_0 : decode cX12_isTaken 0 = .ok (.iconst 0, 1) := by decide +kernel
theorem dX12_isTaken_1 : decode cX12_isTaken 1 = .ok (.istore_n 2, 1) := by decide +kernel
theorem dX12_isTaken_2 : decode cX12_isTaken 2 = .ok (.iload_n 2, 1) := by decide +kernel
theorem dX12_isTaken_3 : decode cX12_isTaken 3 = .ok (.aload_n 0, 1) := by decide +kernel
theorem dX12_isTaken_4 : decode cX12_isTaken 4 = .ok (.getfield 7, 3) := by decide +kernel
theorem dX12_isTaken_7 : decode cX12_isTaken 7 = .ok (.iconst 0, 1) := by decide +kernel
theorem dX12_isTaken_8 : decode cX12_isTaken 8 = .ok (.iaload, 1) := by decide +kernel
theorem dX12_isTaken_9 : decode cX12_isTaken 9 = .ok (.if_icmp .ge 24, 3) := by decide +kernel
theorem dX12_isTaken_12 : decode cX12_isTaken 12 = .ok (.aload_n 0, 1) := by decide +kernel
theorem dX12_isTaken_13 : decode cX12_isTaken 13 = .ok (.getfield 7, 3) := by decide +kernel
theorem dX12_isTaken_16 : decode cX12_isTaken 16 = .ok (.bipush 15, 2) := by decide +kernel
theorem dX12_isTaken_18 : decode cX12_isTaken 18 = .ok (.iload_n 2, 1) := by decide +kernel
theorem dX12_isTaken_19 : decode cX12_isTaken 19 = .ok (.iadd, 1) := by decide +kernel
theorem dX12_isTaken_20 : decode cX12_isTaken 20 = .ok (.iaload, 1) := by decide +kernel
theorem dX12_isTaken_21 : decode cX12_isTaken 21 = .ok (.iload_n 1, 1) := by decide +kernel
theorem dX12_isTaken_22 : decode cX12_isTaken 22 = .ok (.if_icmp .ne 5, 3) := by decide +kernel
theorem dX12_isTaken_25 : decode cX12_isTaken 25 = .ok (.iconst 1, 1) := by decide +kernel
theorem dX12_isTaken_26 : decode cX12_isTaken 26 = .ok (.ireturn, 1) := by decide +kernel
theorem dX12_isTaken_27 : decode cX12_isTaken 27 = .ok (.iinc 2 1, 3) := by decide +kernel
theorem dX12_isTaken_30 : decode cX12_isTaken 30 = .ok (.goto (-28), 3) := by decide +kernel
theorem dX12_isTaken_33 : decode cX12_isTaken 33 = .ok (.iconst 0, 1) := by decide +kernel
theorem dX12_isTaken_34 : decode cX12_isTaken 34 = .ok (.ireturn, 1) := by decide +kernel
def zX12_isTaken_2 (G : kz_G) (d : Nat) (Qr : Option Value → kz_M → Prop) (Qx : String → kz_M → Prop) (x0 : Nat) (x1 : Int32) (x2 : Int32)  (M : kz_M) : Prop := kz_Z G d 0 0 mX12_isTaken Qr Qx 2 [(0, .ref x0), (1, .int x1), (2, .int x2)] [] M 0 0
theorem rX12_isTaken_0 {G : kz_G} {d : Nat} {Qr : Option Value → kz_M → Prop} {Qx : String → kz_M → Prop} {a0 : Nat} {p1 : Int32}  {M : kz_M} (h : zX12_isTaken_2 G d Qr Qx a0 p1 0 M) : kz_C G d 0 0 mX12_isTaken [.ref a0, .int p1] M Qr Qx := by
  refine kz_enter (n := 1) kmX12_isTaken.1 (Nat.le_of_ble_eq_true rfl) (ls := [(0, .ref a0), (1, .int p1)]) rfl ?_
  refine kz_iconst (pc := 0) (v := 0) (by decide) dX12_isTaken_0 ?_
  refine kz_istore_n (pc := 1) (i := 2) (ls' := [(0, .ref a0), (1, .int p1)]) rfl (by decide) rfl dX12_isTaken_1 ?_
  refine kz_sub [1, 2, 0] rfl ?_
  exact h
theorem rX12_isTaken_2 {G : kz_G} {d : Nat} {Qr : Option Value → kz_M → Prop} {Qx : String → kz_M → Prop} {x0 : Nat} {x1 : Int32} {x2 : Int32}  {M : kz_M} (h : ∃ fs1 v2, (M).1 x0 = some (.inl (11, fs1)) ∧ fs1[0]? = some (.ref v2) ∧ (∃ n3 f4, (M).1 v2 = some (.inr (.int, n3, .inl f4)) ∧ vp_in (0 : Int32) n3 ∧ (((f4 (0 : Int32).toNatClampNeg) ≤ x2 → Qr (some (.int 0)) M) ∧ (¬ (f4 (0 : Int32).toNatClampNeg) ≤ x2 → ∃ fs5 v6, (M).1 x0 = some (.inl (11, fs5)) ∧ fs5[0]? = some (.ref v6) ∧ (∃ n7 f8, (M).1 v6 = some (.inr (.int, n7, .inl f8)) ∧ vp_in (15 + x2) n7 ∧ ((¬ (f8 (15 + x2).toNatClampNeg) = x1 → zX12_isTaken_2 G d Qr Qx x0 x1 (x2 + 1) M) ∧ ((f8 (15 + x2).toNatClampNeg) = x1 → Qr (some (.int 1)) M))))))) : zX12_isTaken_2 G d Qr Qx x0 x1 x2  M := by
  show kz_Z G d 0 0 mX12_isTaken Qr Qx 2 [(0, .ref x0), (1, .int x1), (2, .int x2)] [] M 0 0
  refine kz_iload_n (pc := 2) 2 (i := 2) rfl rfl dX12_isTaken_2 ?_
  refine kz_aload_n (pc := 3) 0 (v := .ref x0) (i := 0) rfl rfl rfl dX12_isTaken_3 ?_
  obtain ⟨fs1, v2, hM, hv, h⟩ := h
  refine kz_getf (pc := 4) (k := 0) kcX12 hM hv (by decide) kw_1378 dX12_isTaken_4 ?_
  refine kz_iconst (pc := 7) (v := 0) (by decide) dX12_isTaken_7 ?_
  obtain ⟨n3, f4, hM, hi, h⟩ := h
  refine kz_iald (pc := 8) hM hi dX12_isTaken_8 ?_
  refine kz_icmp_ge (pc := 9) (tgt := 33) (by decide) dX12_isTaken_9 (fun hb => ?_) (fun hb => ?_)
  · replace h := h.1 hb
    refine kz_iconst (pc := 33) (v := 0) (by decide) dX12_isTaken_33 ?_
    exact kz_zret (pc := 34) (ty := .boolean) rfl (by decide) (Nat.le_refl _) (Nat.le_refl _) dX12_isTaken_34 h
  · replace h := h.2 hb
    refine kz_aload_n (pc := 12) 0 (v := .ref x0) (i := 0) rfl rfl rfl dX12_isTaken_12 ?_
    obtain ⟨fs5, v6, hM, hv, h⟩ := h
    refine kz_getf (pc := 13) (k := 0) kcX12 hM hv (by decide) kw_1378 dX12_isTaken_13 ?_
    refine kz_bipush (pc := 16) (v := 15) (by decide) dX12_isTaken_16 ?_
    refine kz_iload_n (pc := 18) 2 (i := 2) rfl rfl dX12_isTaken_18 ?_
    refine kz_iadd (pc := 19) dX12_isTaken_19 ?_
    obtain ⟨n7, f8, hM, hi, h⟩ := h
    refine kz_iald (pc := 20) hM hi dX12_isTaken_20 ?_
    refine kz_iload_n (pc := 21) 1 (i := 1) rfl rfl dX12_isTaken_21 ?_
    refine kz_icmp_ne (pc := 22) (tgt := 27) (by decide) dX12_isTaken_22 (fun hb => ?_) (fun hb => ?_)
    · replace h := h.1 hb
      refine kz_iinc (pc := 27) 2 (i := 2) (v := x2 + 1) (ls' := [(0, .ref x0), (1, .int x1)]) rfl (congrArg (fun z => x2 + z) (by decide)) (by decide) rfl dX12_isTaken_27 ?_
      refine kz_goto (pc := 30) (tgt := 2) (by decide) dX12_isTaken_30 ?_
      refine kz_sub [1, 2, 0] rfl ?_
      exact h
    · replace h := h.2 hb
      refine kz_iconst (pc := 25) (v := 1) (by decide) dX12_isTaken_25 ?_
      exact kz_zret (pc := 26) (ty := .boolean) rfl (by decide) (Nat.le_refl _) (Nat.le_refl _) dX12_isTaken_26 h
theorem dX12_joins_0 : decode cX12_joins 0 = .ok (.aload_n 0, 1) := by decide +kernel
theorem dX12_joins_1 : decode cX12_joins 1 = .ok (.getfield 7, 3) := by decide +kernel
theorem dX12_joins_4 : decode cX12_joins 4 = .ok (.bipush 15, 2) := by decide +kernel
theorem dX12_joins_6 : decode cX12_joins 6 = .ok (.aload_n 0, 1) := by decide +kernel
theorem dX12_joins_7 : decode cX12_joins 7 = .ok (.getfield 7, 3) := by decide +kernel
theorem dX12_joins_10 : decode cX12_joins 10 = .ok (.iconst 0, 1) := by decide +kernel
theorem dX12_joins_11 : decode cX12_joins 11 = .ok (.iaload, 1) := by decide +kernel
theorem dX12_joins_12 : decode cX12_joins 12 = .ok (.iadd, 1) := by decide +kernel
theorem dX12_joins_13 : decode cX12_joins 13 = .ok (.iload_n 1, 1) := by decide +kernel
theorem dX12_joins_14 : decode cX12_joins 14 = .ok (.iastore, 1) := by decide +kernel
theorem dX12_joins_15 : decode cX12_joins 15 = .ok (.aload_n 0, 1) := by decide +kernel
theorem dX12_joins_16 : decode cX12_joins 16 = .ok (.getfield 7, 3) := by decide +kernel
theorem dX12_joins_19 : decode cX12_joins 19 = .ok (.bipush 21, 2) := by decide +kernel
theorem dX12_joins_21 : decode cX12_joins 21 = .ok (.aload_n 0, 1) := by decide +kernel
theorem dX12_joins_22 : decode cX12_joins 22 = .ok (.getfield 7, 3) := by decide +kernel
theorem dX12_joins_25 : decode cX12_joins 25 = .ok (.iconst 0, 1) := by decide +kernel
theorem dX12_joins_26 : decode cX12_joins 26 = .ok (.iaload, 1) := by decide +kernel
theorem dX12_joins_27 : decode cX12_joins 27 = .ok (.iadd, 1) := by decide +kernel
theorem dX12_joins_28 : decode cX12_joins 28 = .ok (.iconst 0, 1) := by decide +kernel
theorem dX12_joins_29 : decode cX12_joins 29 = .ok (.iastore, 1) := by decide +kernel
theorem dX12_joins_30 : decode cX12_joins 30 = .ok (.aload_n 0, 1) := by decide +kernel
theorem dX12_joins_31 : decode cX12_joins 31 = .ok (.getfield 7, 3) := by decide +kernel
theorem dX12_joins_34 : decode cX12_joins 34 = .ok (.bipush 27, 2) := by decide +kernel
theorem dX12_joins_36 : decode cX12_joins 36 = .ok (.aload_n 0, 1) := by decide +kernel
theorem dX12_joins_37 : decode cX12_joins 37 = .ok (.getfield 7, 3) := by decide +kernel
theorem dX12_joins_40 : decode cX12_joins 40 = .ok (.iconst 0, 1) := by decide +kernel
theorem dX12_joins_41 : decode cX12_joins 41 = .ok (.iaload, 1) := by decide +kernel
theorem dX12_joins_42 : decode cX12_joins 42 = .ok (.iadd, 1) := by decide +kernel
theorem dX12_joins_43 : decode cX12_joins 43 = .ok (.iconst 0, 1) := by decide +kernel
theorem dX12_joins_44 : decode cX12_joins 44 = .ok (.iastore, 1) := by decide +kernel
theorem dX12_joins_45 : decode cX12_joins 45 = .ok (.aload_n 0, 1) := by decide +kernel
theorem dX12_joins_46 : decode cX12_joins 46 = .ok (.getfield 7, 3) := by decide +kernel
theorem dX12_joins_49 : decode cX12_joins 49 = .ok (.iconst 0, 1) := by decide +kernel
theorem dX12_joins_50 : decode cX12_joins 50 = .ok (.dup2, 1) := by decide +kernel
theorem dX12_joins_51 : decode cX12_joins 51 = .ok (.iaload, 1) := by decide +kernel
theorem dX12_joins_52 : decode cX12_joins 52 = .ok (.iconst 1, 1) := by decide +kernel
theorem dX12_joins_53 : decode cX12_joins 53 = .ok (.iadd, 1) := by decide +kernel
theorem dX12_joins_54 : decode cX12_joins 54 = .ok (.iastore, 1) := by decide +kernel
theorem dX12_joins_55 : decode cX12_joins 55 = .ok (.aload_n 0, 1) := by decide +kernel
theorem dX12_joins_56 : decode cX12_joins 56 = .ok (.getfield 7, 3) := by decide +kernel
theorem dX12_joins_59 : decode cX12_joins 59 = .ok (.iconst 0, 1) := by decide +kernel
theorem dX12_joins_60 : decode cX12_joins 60 = .ok (.iaload, 1) := by decide +kernel
theorem dX12_joins_61 : decode cX12_joins 61 = .ok (.iconst 1, 1) := by decide +kernel
theorem dX12_joins_62 : decode cX12_joins 62 = .ok (.isub, 1) := by decide +kernel
theorem dX12_joins_63 : decode cX12_joins 63 = .ok (.ireturn, 1) := by decide +kernel
theorem rX12_joins_0 {G : kz_G} {d : Nat} {Qr : Option Value → kz_M → Prop} {Qx : String → kz_M → Prop} {a0 : Nat} {p1 : Int32}  {M : kz_M} (h : ∃ fs1 v2, (M).1 a0 = some (.inl (11, fs1)) ∧ fs1[0]? = some (.ref v2) ∧ (∃ fs3 v4, (M).1 a0 = some (.inl (11, fs3)) ∧ fs3[0]? = some (.ref v4) ∧ (∃ n5 f6, (M).1 v4 = some (.inr (.int, n5, .inl f6)) ∧ vp_in (0 : Int32) n5 ∧ (∃ n7 f8, (M).1 v2 = some (.inr (.int, n7, .inl f8)) ∧ vp_in (15 + (f6 (0 : Int32).toNatClampNeg)) n7 ∧ (∃ fs9 v10, ((kz_up M v2 (.inr (.int, n7, .inl (upd f8 (15 + (f6 (0 : Int32).toNatClampNeg) : Int32).toNatClampNeg p1))))).1 a0 = some (.inl (11, fs9)) ∧ fs9[0]? = some (.ref v10) ∧ (∃ fs11 v12, ((kz_up M v2 (.inr (.int, n7, .inl (upd f8 (15 + (f6 (0 : Int32).toNatClampNeg) : Int32).toNatClampNeg p1))))).1 a0 = some (.inl (11, fs11)) ∧ fs11[0]? = some (.ref v12) ∧ (∃ n13 f14, ((kz_up M v2 (.inr (.int, n7, .inl (upd f8 (15 + (f6 (0 : Int32).toNatClampNeg) : Int32).toNatClampNeg p1))))).1 v12 = some (.inr (.int, n13, .inl f14)) ∧ vp_in (0 : Int32) n13 ∧ (∃ n15 f16, ((kz_up M v2 (.inr (.int, n7, .inl (upd f8 (15 + (f6 (0 : Int32).toNatClampNeg) : Int32).toNatClampNeg p1))))).1 v10 = some (.inr (.int, n15, .inl f16)) ∧ vp_in (21 + (f14 (0 : Int32).toNatClampNeg)) n15 ∧ (∀ M17, M17 = kz_up (kz_up M v2 (.inr (.int, n7, .inl (upd f8 (15 + (f6 (0 : Int32).toNatClampNeg) : Int32).toNatClampNeg p1)))) v10 (.inr (.int, n15, .inl (upd f16 (21 + (f14 (0 : Int32).toNatClampNeg) : Int32).toNatClampNeg 0))) → ∃ fs18 v19, (M17).1 a0 = some (.inl (11, fs18)) ∧ fs18[0]? = some (.ref v19) ∧ (∃ fs20 v21, (M17).1 a0 = some (.inl (11, fs20)) ∧ fs20[0]? = some (.ref v21) ∧ (∃ n22 f23, (M17).1 v21 = some (.inr (.int, n22, .inl f23)) ∧ vp_in (0 : Int32) n22 ∧ (∃ n24 f25, (M17).1 v19 = some (.inr (.int, n24, .inl f25)) ∧ vp_in (27 + (f23 (0 : Int32).toNatClampNeg)) n24 ∧ (∃ fs26 v27, ((kz_up M17 v19 (.inr (.int, n24, .inl (upd f25 (27 + (f23 (0 : Int32).toNatClampNeg) : Int32).toNatClampNeg 0))))).1 a0 = some (.inl (11, fs26)) ∧ fs26[0]? = some (.ref v27) ∧ (∃ n28 f29, ((kz_up M17 v19 (.inr (.int, n24, .inl (upd f25 (27 + (f23 (0 : Int32).toNatClampNeg) : Int32).toNatClampNeg 0))))).1 v27 = some (.inr (.int, n28, .inl f29)) ∧ vp_in (0 : Int32) n28 ∧ (∃ n30 f31, ((kz_up M17 v19 (.inr (.int, n24, .inl (upd f25 (27 + (f23 (0 : Int32).toNatClampNeg) : Int32).toNatClampNeg 0))))).1 v27 = some (.inr (.int, n30, .inl f31)) ∧ vp_in (0 : Int32) n30 ∧ (∀ M32, M32 = kz_up (kz_up M17 v19 (.inr (.int, n24, .inl (upd f25 (27 + (f23 (0 : Int32).toNatClampNeg) : Int32).toNatClampNeg 0)))) v27 (.inr (.int, n30, .inl (upd f31 (0 : Int32).toNatClampNeg ((f29 (0 : Int32).toNatClampNeg) + 1)))) → ∃ fs33 v34, (M32).1 a0 = some (.inl (11, fs33)) ∧ fs33[0]? = some (.ref v34) ∧ (∃ n35 f36, (M32).1 v34 = some (.inr (.int, n35, .inl f36)) ∧ vp_in (0 : Int32) n35 ∧ (Qr (some (.int ((f36 (0 : Int32).toNatClampNeg) - 1))) M32)))))))))))))))))) : kz_C G d 0 0 mX12_joins [.ref a0, .int p1] M Qr Qx := by
  refine kz_enter (n := 1) kmX12_joins.1 (Nat.le_of_ble_eq_true rfl) (ls := [(0, .ref a0), (1, .int p1)]) rfl ?_
  refine kz_aload_n (pc := 0) 0 (v := .ref a0) (i := 0) rfl rfl rfl dX12_joins_0 ?_
  obtain ⟨fs1, v2, hM, hv, h⟩ := h
  refine kz_getf (pc := 1) (k := 0) kcX12 hM hv (by decide) kw_1378 dX12_joins_1 ?_
  refine kz_bipush (pc := 4) (v := 15) (by decide) dX12_joins_4 ?_
  refine kz_aload_n (pc := 6) 0 (v := .ref a0) (i := 0) rfl rfl rfl dX12_joins_6 ?_
  obtain ⟨fs3, v4, hM, hv, h⟩ := h
  refine kz_getf (pc := 7) (k := 0) kcX12 hM hv (by decide) kw_1378 dX12_joins_7 ?_
  refine kz_iconst (pc := 10) (v := 0) (by decide) dX12_joins_10 ?_
  obtain ⟨n5, f6, hM, hi, h⟩ := h
  refine kz_iald (pc := 11) hM hi dX12_joins_11 ?_
  refine kz_iadd (pc := 12) dX12_joins_12 ?_
  refine kz_iload_n (pc := 13) 1 (i := 1) rfl rfl dX12_joins_13 ?_
  obtain ⟨n7, f8, hM, hi, h⟩ := h
  refine kz_iast (pc := 14) hM hi dX12_joins_14 ?_
  refine kz_aload_n (pc := 15) 0 (v := .ref a0) (i := 0) rfl rfl rfl dX12_joins_15 ?_
  obtain ⟨fs9, v10, hM, hv, h⟩ := h
  refine kz_getf (pc := 16) (k := 0) kcX12 hM hv (by decide) kw_1378 dX12_joins_16 ?_
  refine kz_bipush (pc := 19) (v := 21) (by decide) dX12_joins_19 ?_
  refine kz_aload_n (pc := 21) 0 (v := .ref a0) (i := 0) rfl rfl rfl dX12_joins_21 ?_
  obtain ⟨fs11, v12, hM, hv, h⟩ := h
  refine kz_getf (pc := 22) (k := 0) kcX12 hM hv (by decide) kw_1378 dX12_joins_22 ?_
  refine kz_iconst (pc := 25) (v := 0) (by decide) dX12_joins_25 ?_
  obtain ⟨n13, f14, hM, hi, h⟩ := h
  refine kz_iald (pc := 26) hM hi dX12_joins_26 ?_
  refine kz_iadd (pc := 27) dX12_joins_27 ?_
  refine kz_iconst (pc := 28) (v := 0) (by decide) dX12_joins_28 ?_
  obtain ⟨n15, f16, hM, hi, h⟩ := h
  refine kz_iast (pc := 29) hM hi dX12_joins_29 ?_
  refine kz_nameM (fun M17 e9 => ?_)
  replace h := h M17 e9
  refine kz_aload_n (pc := 30) 0 (v := .ref a0) (i := 0) rfl rfl rfl dX12_joins_30 ?_
  obtain ⟨fs18, v19, hM, hv, h⟩ := h
  refine kz_getf (pc := 31) (k := 0) kcX12 hM hv (by decide) kw_1378 dX12_joins_31 ?_
  refine kz_bipush (pc := 34) (v := 27) (by decide) dX12_joins_34 ?_
  refine kz_aload_n (pc := 36) 0 (v := .ref a0) (i := 0) rfl rfl rfl dX12_joins_36 ?_
  obtain ⟨fs20, v21, hM, hv, h⟩ := h
  refine kz_getf (pc := 37) (k := 0) kcX12 hM hv (by decide) kw_1378 dX12_joins_37 ?_
  refine kz_iconst (pc := 40) (v := 0) (by decide) dX12_joins_40 ?_
  obtain ⟨n22, f23, hM, hi, h⟩ := h
  refine kz_iald (pc := 41) hM hi dX12_joins_41 ?_
  refine kz_iadd (pc := 42) dX12_joins_42 ?_
  refine kz_iconst (pc := 43) (v := 0) (by decide) dX12_joins_43 ?_
  obtain ⟨n24, f25, hM, hi, h⟩ := h
  refine kz_iast (pc := 44) hM hi dX12_joins_44 ?_
  refine kz_aload_n (pc := 45) 0 (v := .ref a0) (i := 0) rfl rfl rfl dX12_joins_45 ?_
  obtain ⟨fs26, v27, hM, hv, h⟩ := h
  refine kz_getf (pc := 46) (k := 0) kcX12 hM hv (by decide) kw_1378 dX12_joins_46 ?_
  refine kz_iconst (pc := 49) (v := 0) (by decide) dX12_joins_49 ?_
  refine kz_dup2_11 (pc := 50) rfl rfl dX12_joins_50 ?_
  obtain ⟨n28, f29, hM, hi, h⟩ := h
  refine kz_iald (pc := 51) hM hi dX12_joins_51 ?_
  refine kz_iconst (pc := 52) (v := 1) (by decide) dX12_joins_52 ?_
  refine kz_iadd (pc := 53) dX12_joins_53 ?_
  obtain ⟨n30, f31, hM, hi, h⟩ := h
  refine kz_iast (pc := 54) hM hi dX12_joins_54 ?_
  refine kz_nameM (fun M32 e9 => ?_)
  replace h := h M32 e9
  refine kz_aload_n (pc := 55) 0 (v := .ref a0) (i := 0) rfl rfl rfl dX12_joins_55 ?_
  obtain ⟨fs33, v34, hM, hv, h⟩ := h
  refine kz_getf (pc := 56) (k := 0) kcX12 hM hv (by decide) kw_1378 dX12_joins_56 ?_
  refine kz_iconst (pc := 59) (v := 0) (by decide) dX12_joins_59 ?_
  obtain ⟨n35, f36, hM, hi, h⟩ := h
  refine kz_iald (pc := 60) hM hi dX12_joins_60 ?_
  refine kz_iconst (pc := 61) (v := 1) (by decide) dX12_joins_61 ?_
  refine kz_isub (pc := 62) dX12_joins_62 ?_
  exact kz_iret (pc := 63) rfl (Nat.le_refl _) (Nat.le_refl _) dX12_joins_63 h
theorem dX12_readWriter_0 : decode cX12_readWriter 0 = .ok (.aload_n 0, 1) := by decide +kernel
theorem dX12_readWriter_1 : decode cX12_readWriter 1 = .ok (.getfield 7, 3) := by decide +kernel
theorem dX12_readWriter_4 : decode cX12_readWriter 4 = .ok (.iconst 0, 1) := by decide +kernel
theorem dX12_readWriter_5 : decode cX12_readWriter 5 = .ok (.iaload, 1) := by decide +kernel
theorem dX12_readWriter_6 : decode cX12_readWriter 6 = .ok (.bipush 6, 2) := by decide +kernel
theorem dX12_readWriter_8 : decode cX12_readWriter 8 = .ok (.if_icmp .ne 9, 3) := by decide +kernel
theorem dX12_readWriter_11 : decode cX12_readWriter 11 = .ok (.aload_n 0, 1) := by decide +kernel
theorem dX12_readWriter_12 : decode cX12_readWriter 12 = .ok (.iconst 4, 1) := by decide +kernel
theorem dX12_readWriter_13 : decode cX12_readWriter 13 = .ok (.invokevirtual 221, 3) := by decide +kernel
theorem dX12_readWriter_16 : decode cX12_readWriter 16 = .ok (.ireturn, 1) := by decide +kernel
theorem dX12_readWriter_17 : decode cX12_readWriter 17 = .ok (.aload_n 0, 1) := by decide +kernel
theorem dX12_readWriter_18 : decode cX12_readWriter 18 = .ok (.invokevirtual 227, 3) := by decide +kernel
theorem dX12_readWriter_21 : decode cX12_readWriter 21 = .ok (.aload_n 0, 1) := by decide +kernel
theorem dX12_readWriter_22 : decode cX12_readWriter 22 = .ok (.getfield 196, 3) := by decide +kernel
theorem dX12_readWriter_25 : decode cX12_readWriter 25 = .ok (.iconst 1, 1) := by decide +kernel
theorem dX12_readWriter_26 : decode cX12_readWriter 26 = .ok (.if_icmp .ne 18, 3) := by decide +kernel
theorem dX12_readWriter_29 : decode cX12_readWriter 29 = .ok (.aload_n 0, 1) := by decide +kernel
theorem dX12_readWriter_30 : decode cX12_readWriter 30 = .ok (.aload_n 0, 1) := by decide +kernel
theorem dX12_readWriter_31 : decode cX12_readWriter 31 = .ok (.getfield 190, 3) := by decide +kernel
theorem dX12_readWriter_34 : decode cX12_readWriter 34 = .ok (.aload_n 0, 1) := by decide +kernel
theorem dX12_readWriter_35 : decode cX12_readWriter 35 = .ok (.getfield 184, 3) := by decide +kernel
theorem dX12_readWriter_38 : decode cX12_readWriter 38 = .ok (.invokevirtual 261, 3) := by decide +kernel
theorem dX12_readWriter_41 : decode cX12_readWriter 41 = .ok (.ifCond .ne 9, 3) := by decide +kernel
theorem dX12_readWriter_44 : decode cX12_readWriter 44 = .ok (.aload_n 0, 1) := by decide +kernel
theorem dX12_readWriter_45 : decode cX12_readWriter 45 = .ok (.iconst 1, 1) := by decide +kernel
theorem dX12_readWriter_46 : decode cX12_readWriter 46 = .ok (.invokevirtual 221, 3) := by decide +kernel
theorem dX12_readWriter_49 : decode cX12_readWriter 49 = .ok (.ireturn, 1) := by decide +kernel
theorem dX12_readWriter_50 : decode cX12_readWriter 50 = .ok (.aload_n 0, 1) := by decide +kernel
theorem dX12_readWriter_51 : decode cX12_readWriter 51 = .ok (.aload_n 0, 1) := by decide +kernel
theorem dX12_readWriter_52 : decode cX12_readWriter 52 = .ok (.getfield 190, 3) := by decide +kernel
theorem dX12_readWriter_55 : decode cX12_readWriter 55 = .ok (.aload_n 0, 1) := by decide +kernel
theorem dX12_readWriter_56 : decode cX12_readWriter 56 = .ok (.getfield 184, 3) := by decide +kernel
theorem dX12_readWriter_59 : decode cX12_readWriter 59 = .ok (.invokevirtual 264, 3) := by decide +kernel
theorem dX12_readWriter_62 : decode cX12_readWriter 62 = .ok (.istore_n 1, 1) := by decide +kernel
theorem dX12_readWriter_63 : decode cX12_readWriter 63 = .ok (.aload_n 0, 1) := by decide +kernel
theorem dX12_readWriter_64 : decode cX12_readWriter 64 = .ok (.iload_n 1, 1) := by decide +kernel
theorem dX12_readWriter_65 : decode cX12_readWriter 65 = .ok (.invokevirtual 267, 3) := by decide +kernel
theorem dX12_readWriter_68 : decode cX12_readWriter 68 = .ok (.ifCond .eq 9, 3) := by decide +kernel
theorem dX12_readWriter_71 : decode cX12_readWriter 71 = .ok (.aload_n 0, 1) := by decide +kernel
theorem dX12_readWriter_72 : decode cX12_readWriter 72 = .ok (.iconst 3, 1) := by decide +kernel
theorem dX12_readWriter_73 : decode cX12_readWriter 73 = .ok (.invokevirtual 221, 3) := by decide +kernel
theorem dX12_readWriter_76 : decode cX12_readWriter 76 = .ok (.ireturn, 1) := by decide +kernel
theorem dX12_readWriter_77 : decode cX12_readWriter 77 = .ok (.aload_n 0, 1) := by decide +kernel
theorem dX12_readWriter_78 : decode cX12_readWriter 78 = .ok (.invokevirtual 227, 3) := by decide +kernel
theorem dX12_readWriter_81 : decode cX12_readWriter 81 = .ok (.aload_n 0, 1) := by decide +kernel
theorem dX12_readWriter_82 : decode cX12_readWriter 82 = .ok (.iload_n 1, 1) := by decide +kernel
theorem dX12_readWriter_83 : decode cX12_readWriter 83 = .ok (.invokevirtual 270, 3) := by decide +kernel
theorem dX12_readWriter_86 : decode cX12_readWriter 86 = .ok (.ifCond .lt 7, 3) := by decide +kernel
theorem dX12_readWriter_89 : decode cX12_readWriter 89 = .ok (.iconst 1, 1) := by decide +kernel
theorem dX12_readWriter_90 : decode cX12_readWriter 90 = .ok (.goto 4, 3) := by decide +kernel
theorem dX12_readWriter_93 : decode cX12_readWriter 93 = .ok (.iconst 0, 1) := by decide +kernel
theorem dX12_readWriter_94 : decode cX12_readWriter 94 = .ok (.ireturn, 1) := by decide +kernel
theorem rX12_readWriter_0 {G : kz_G} {d : Nat} {Qr : Option Value → kz_M → Prop} {Qx : String → kz_M → Prop} {a0 : Nat}  {M : kz_M} (h : ∃ fs1 v2, (M).1 a0 = some (.inl (11, fs1)) ∧ fs1[0]? = some (.ref v2) ∧ (∃ n3 f4, (M).1 v2 = some (.inr (.int, n3, .inl f4)) ∧ vp_in (0 : Int32) n3 ∧ ((¬ (f4 (0 : Int32).toNatClampNeg) = (6 : Int32) → (∃ fs50, (M).1 a0 = some (.inl (11, fs50))) ∧ kz_C G (d + 6) 0 0 mX12_advanceToken [.ref a0] M (fun v M5 => v = none ∧ (∃ fs8 v9, (M5).1 a0 = some (.inl (11, fs8)) ∧ fs8[27]? = some (.int v9) ∧ ((¬ v9 = (1 : Int32) → (∃ fs13, (M5).1 a0 = some (.inl (11, fs13))) ∧ kz_C G (d + 6) 0 0 mX12_failsAt [.ref a0, .int 1] M5 (fun v M10 => ∃ r11 : Int32, v = some (.int r11) ∧ (narrow .boolean (.int r11) = .int r11 ∧ Qr (some (.int r11)) M10)) Qx) ∧ (v9 = (1 : Int32) → ∃ fs14 v15, (M5).1 a0 = some (.inl (11, fs14)) ∧ fs14[25]? = some (.int v15) ∧ (∃ fs16 v17, (M5).1 a0 = some (.inl (11, fs16)) ∧ fs16[24]? = some (.int v17) ∧ ((∃ fs49, (M5).1 a0 = some (.inl (11, fs49))) ∧ kz_C G (d + 6) 0 0 mX12_isName [.ref a0, .int v15, .int v17] M5 (fun v M18 => ∃ r19 : Int32, v = some (.int r19) ∧ ((¬ r19 = 0 → ∃ fs21 v22, (M18).1 a0 = some (.inl (11, fs21)) ∧ fs21[25]? = some (.int v22) ∧ (∃ fs23 v24, (M18).1 a0 = some (.inl (11, fs23)) ∧ fs23[24]? = some (.int v24) ∧ ((∃ fs44, (M18).1 a0 = some (.inl (11, fs44))) ∧ kz_C G (d + 6) 0 0 mX12_packed [.ref a0, .int v22, .int v24] M18 (fun v M25 => ∃ r26 : Int32, v = some (.int r26) ∧ ((∃ fs43, (M25).1 a0 = some (.inl (11, fs43))) ∧ kz_C G (d + 6) 0 0 mX12_isTaken [.ref a0, .int r26] M25 (fun v M28 => ∃ r29 : Int32, v = some (.int r29) ∧ ((r29 = 0 → (∃ fs38, (M28).1 a0 = some (.inl (11, fs38))) ∧ kz_C G (d + 6) 0 0 mX12_advanceToken [.ref a0] M28 (fun v M31 => v = none ∧ ((∃ fs37, (M31).1 a0 = some (.inl (11, fs37))) ∧ kz_C G (d + 6) 0 0 mX12_joins [.ref a0, .int r26] M31 (fun v M34 => ∃ r35 : Int32, v = some (.int r35) ∧ ((r35 < 0 → Qr (some (.int 0)) M34) ∧ (¬ r35 < 0 → Qr (some (.int 1)) M34))) Qx)) Qx) ∧ (¬ r29 = 0 → (∃ fs42, (M28).1 a0 = some (.inl (11, fs42))) ∧ kz_C G (d + 6) 0 0 mX12_failsAt [.ref a0, .int 3] M28 (fun v M39 => ∃ r40 : Int32, v = some (.int r40) ∧ (narrow .boolean (.int r40) = .int r40 ∧ Qr (some (.int r40)) M39)) Qx))) Qx)) Qx))) ∧ (r19 = 0 → (∃ fs48, (M18).1 a0 = some (.inl (11, fs48))) ∧ kz_C G (d + 6) 0 0 mX12_failsAt [.ref a0, .int 1] M18 (fun v M45 => ∃ r46 : Int32, v = some (.int r46) ∧ (narrow .boolean (.int r46) = .int r46 ∧ Qr (some (.int r46)) M45)) Qx))) Qx)))))) Qx) ∧ ((f4 (0 : Int32).toNatClampNeg) = (6 : Int32) → (∃ fs54, (M).1 a0 = some (.inl (11, fs54))) ∧ kz_C G (d + 6) 0 0 mX12_failsAt [.ref a0, .int 4] M (fun v M51 => ∃ r52 : Int32, v = some (.int r52) ∧ (narrow .boolean (.int r52) = .int r52 ∧ Qr (some (.int r52)) M51)) Qx)))) : kz_C G (d + 7) 0 0 mX12_readWriter [.ref a0] M Qr Qx := by
  refine kz_enter (n := 0) kmX12_readWriter.1 (Nat.le_of_ble_eq_true rfl) (ls := [(0, .ref a0)]) rfl ?_
  refine kz_aload_n (pc := 0) 0 (v := .ref a0) (i := 0) rfl rfl rfl dX12_readWriter_0 ?_
  obtain ⟨fs1, v2, hM, hv, h⟩ := h
  refine kz_getf (pc := 1) (k := 0) kcX12 hM hv (by decide) kw_1378 dX12_readWriter_1 ?_
  refine kz_iconst (pc := 4) (v := 0) (by decide) dX12_readWriter_4 ?_
  obtain ⟨n3, f4, hM, hi, h⟩ := h
  refine kz_iald (pc := 5) hM hi dX12_readWriter_5 ?_
  refine kz_bipush (pc := 6) (v := 6) (by decide) dX12_readWriter_6 ?_
  refine kz_icmp_ne (pc := 8) (tgt := 17) (by decide) dX12_readWriter_8 (fun hb => ?_) (fun hb => ?_)
  · replace h := h.1 hb
    refine kz_aload_n (pc := 17) 0 (v := .ref a0) (i := 0) rfl rfl rfl dX12_readWriter_17 ?_
    obtain ⟨⟨fs50, he⟩, h⟩ := h
    refine kz_callV (pc := 18) (μ' := mX12_advanceToken) (ci := 11) (q := (RX12, TX12, 32)) (b := a0) (d' := d + 6) (mc' := 0) (ms' := 0) (As := []) (st := []) (c := 0) (sl := 0) kmX12_advanceToken kw_1501 (by omega) rfl (Nat.le_of_ble_eq_true rfl) he rfl rfl (Nat.le_refl _) (Nat.le_refl _) dX12_readWriter_18 (fun E M9 hx => kz_Tout rfl (Nat.le_refl _) (Nat.le_refl _) hx) (kz_Cmono (fun v M5 h => ?_) (fun _ _ h => h) h)
    obtain ⟨rfl, h⟩ := h
    show kz_Z G (d + 7) 0 0 mX12_readWriter Qr Qx 21 [(0, .ref a0)] [] M5 0 0
    refine kz_aload_n (pc := 21) 0 (v := .ref a0) (i := 0) rfl rfl rfl dX12_readWriter_21 ?_
    obtain ⟨fs8, v9, hM, hv, h⟩ := h
    refine kz_getf (pc := 22) (k := 27) kcX12 hM hv (by decide) kw_1405 dX12_readWriter_22 ?_
    refine kz_iconst (pc := 25) (v := 1) (by decide) dX12_readWriter_25 ?_
    refine kz_icmp_ne (pc := 26) (tgt := 44) (by decide) dX12_readWriter_26 (fun hb => ?_) (fun hb => ?_)
    · replace h := h.1 hb
      refine kz_aload_n (pc := 44) 0 (v := .ref a0) (i := 0) rfl rfl rfl dX12_readWriter_44 ?_
      refine kz_iconst (pc := 45) (v := 1) (by decide) dX12_readWriter_45 ?_
      obtain ⟨⟨fs13, he⟩, h⟩ := h
      refine kz_callV (pc := 46) (μ' := mX12_failsAt) (ci := 11) (q := (RX12, TX12, 32)) (b := a0) (d' := d + 6) (mc' := 0) (ms' := 0) (As := [.int 1]) (st := []) (c := 0) (sl := 0) kmX12_failsAt kw_1531 (by omega) rfl (Nat.le_of_ble_eq_true rfl) he rfl rfl (Nat.le_refl _) (Nat.le_refl _) dX12_readWriter_46 (fun E M9 hx => kz_Tout rfl (Nat.le_refl _) (Nat.le_refl _) hx) (kz_Cmono (fun v M10 h => ?_) (fun _ _ h => h) h)
      obtain ⟨r11, rfl, h⟩ := h
      show kz_Z G (d + 7) 0 0 mX12_readWriter Qr Qx 49 [(0, .ref a0)] [.int r11] M10 0 0
      exact kz_zret (pc := 49) (ty := .boolean) rfl h.1 (Nat.le_refl _) (Nat.le_refl _) dX12_readWriter_49 h.2
    · replace h := h.2 hb
      refine kz_aload_n (pc := 29) 0 (v := .ref a0) (i := 0) rfl rfl rfl dX12_readWriter_29 ?_
      refine kz_aload_n (pc := 30) 0 (v := .ref a0) (i := 0) rfl rfl rfl dX12_readWriter_30 ?_
      obtain ⟨fs14, v15, hM, hv, h⟩ := h
      refine kz_getf (pc := 31) (k := 25) kcX12 hM hv (by decide) kw_1403 dX12_readWriter_31 ?_
      refine kz_aload_n (pc := 34) 0 (v := .ref a0) (i := 0) rfl rfl rfl dX12_readWriter_34 ?_
      obtain ⟨fs16, v17, hM, hv, h⟩ := h
      refine kz_getf (pc := 35) (k := 24) kcX12 hM hv (by decide) kw_1402 dX12_readWriter_35 ?_
      obtain ⟨⟨fs49, he⟩, h⟩ := h
      refine kz_callV (pc := 38) (μ' := mX12_isName) (ci := 11) (q := (RX12, TX12, 32)) (b := a0) (d' := d + 6) (mc' := 0) (ms' := 0) (As := [.int v15, .int v17]) (st := []) (c := 0) (sl := 0) kmX12_isName kw_1557 (by omega) rfl (Nat.le_of_ble_eq_true rfl) he rfl rfl (Nat.le_refl _) (Nat.le_refl _) dX12_readWriter_38 (fun E M9 hx => kz_Tout rfl (Nat.le_refl _) (Nat.le_refl _) hx) (kz_Cmono (fun v M18 h => ?_) (fun _ _ h => h) h)
      obtain ⟨r19, rfl, h⟩ := h
      show kz_Z G (d + 7) 0 0 mX12_readWriter Qr Qx 41 [(0, .ref a0)] [.int r19] M18 0 0
      refine kz_if_ne (pc := 41) (tgt := 50) (by decide) dX12_readWriter_41 (fun hb => ?_) (fun hb => ?_)
      · replace h := h.1 hb
        refine kz_aload_n (pc := 50) 0 (v := .ref a0) (i := 0) rfl rfl rfl dX12_readWriter_50 ?_
        refine kz_aload_n (pc := 51) 0 (v := .ref a0) (i := 0) rfl rfl rfl dX12_readWriter_51 ?_
        obtain ⟨fs21, v22, hM, hv, h⟩ := h
        refine kz_getf (pc := 52) (k := 25) kcX12 hM hv (by decide) kw_1403 dX12_readWriter_52 ?_
        refine kz_aload_n (pc := 55) 0 (v := .ref a0) (i := 0) rfl rfl rfl dX12_readWriter_55 ?_
        obtain ⟨fs23, v24, hM, hv, h⟩ := h
        refine kz_getf (pc := 56) (k := 24) kcX12 hM hv (by decide) kw_1402 dX12_readWriter_56 ?_
        obtain ⟨⟨fs44, he⟩, h⟩ := h
        refine kz_callV (pc := 59) (μ' := mX12_packed) (ci := 11) (q := (RX12, TX12, 32)) (b := a0) (d' := d + 6) (mc' := 0) (ms' := 0) (As := [.int v22, .int v24]) (st := []) (c := 0) (sl := 0) kmX12_packed kw_1578 (by omega) rfl (Nat.le_of_ble_eq_true rfl) he rfl rfl (Nat.le_refl _) (Nat.le_refl _) dX12_readWriter_59 (fun E M9 hx => kz_Tout rfl (Nat.le_refl _) (Nat.le_refl _) hx) (kz_Cmono (fun v M25 h => ?_) (fun _ _ h => h) h)
        obtain ⟨r26, rfl, h⟩ := h
        show kz_Z G (d + 7) 0 0 mX12_readWriter Qr Qx 62 [(0, .ref a0)] [.int r26] M25 0 0
        refine kz_istore_n (pc := 62) (i := 1) (ls' := [(0, .ref a0)]) rfl (by decide) rfl dX12_readWriter_62 ?_
        refine kz_aload_n (pc := 63) 1 (v := .ref a0) (i := 0) rfl rfl rfl dX12_readWriter_63 ?_
        refine kz_iload_n (pc := 64) 0 (i := 1) rfl rfl dX12_readWriter_64 ?_
        obtain ⟨⟨fs43, he⟩, h⟩ := h
        refine kz_callV (pc := 65) (μ' := mX12_isTaken) (ci := 11) (q := (RX12, TX12, 32)) (b := a0) (d' := d + 6) (mc' := 0) (ms' := 0) (As := [.int r26]) (st := []) (c := 0) (sl := 0) kmX12_isTaken kw_1582 (by omega) rfl (Nat.le_of_ble_eq_true rfl) he rfl rfl (Nat.le_refl _) (Nat.le_refl _) dX12_readWriter_65 (fun E M9 hx => kz_Tout rfl (Nat.le_refl _) (Nat.le_refl _) hx) (kz_Cmono (fun v M28 h => ?_) (fun _ _ h => h) h)
        obtain ⟨r29, rfl, h⟩ := h
        show kz_Z G (d + 7) 0 0 mX12_readWriter Qr Qx 68 [(1, .int r26), (0, .ref a0)] [.int r29] M28 0 0
        refine kz_if_eq (pc := 68) (tgt := 77) (by decide) dX12_readWriter_68 (fun hb => ?_) (fun hb => ?_)
        · replace h := h.1 hb
          refine kz_aload_n (pc := 77) 1 (v := .ref a0) (i := 0) rfl rfl rfl dX12_readWriter_77 ?_
          obtain ⟨⟨fs38, he⟩, h⟩ := h
          refine kz_callV (pc := 78) (μ' := mX12_advanceToken) (ci := 11) (q := (RX12, TX12, 32)) (b := a0) (d' := d + 6) (mc' := 0) (ms' := 0) (As := []) (st := []) (c := 0) (sl := 0) kmX12_advanceToken kw_1501 (by omega) rfl (Nat.le_of_ble_eq_true rfl) he rfl rfl (Nat.le_refl _) (Nat.le_refl _) dX12_readWriter_78 (fun E M9 hx => kz_Tout rfl (Nat.le_refl _) (Nat.le_refl _) hx) (kz_Cmono (fun v M31 h => ?_) (fun _ _ h => h) h)
          obtain ⟨rfl, h⟩ := h
          show kz_Z G (d + 7) 0 0 mX12_readWriter Qr Qx 81 [(1, .int r26), (0, .ref a0)] [] M31 0 0
          refine kz_aload_n (pc := 81) 1 (v := .ref a0) (i := 0) rfl rfl rfl dX12_readWriter_81 ?_
          refine kz_iload_n (pc := 82) 0 (i := 1) rfl rfl dX12_readWriter_82 ?_
          obtain ⟨⟨fs37, he⟩, h⟩ := h
          refine kz_callV (pc := 83) (μ' := mX12_joins) (ci := 11) (q := (RX12, TX12, 32)) (b := a0) (d' := d + 6) (mc' := 0) (ms' := 0) (As := [.int r26]) (st := []) (c := 0) (sl := 0) kmX12_joins kw_1586 (by omega) rfl (Nat.le_of_ble_eq_true rfl) he rfl rfl (Nat.le_refl _) (Nat.le_refl _) dX12_readWriter_83 (fun E M9 hx => kz_Tout rfl (Nat.le_refl _) (Nat.le_refl _) hx) (kz_Cmono (fun v M34 h => ?_) (fun _ _ h => h) h)
          obtain ⟨r35, rfl, h⟩ := h
          show kz_Z G (d + 7) 0 0 mX12_readWriter Qr Qx 86 [(1, .int r26), (0, .ref a0)] [.int r35] M34 0 0
          refine kz_if_lt (pc := 86) (tgt := 93) (by decide) dX12_readWriter_86 (fun hb => ?_) (fun hb => ?_)
          · replace h := h.1 hb
            refine kz_iconst (pc := 93) (v := 0) (by decide) dX12_readWriter_93 ?_
            exact kz_zret (pc := 94) (ty := .boolean) rfl (by decide) (Nat.le_refl _) (Nat.le_refl _) dX12_readWriter_94 h
          · replace h := h.2 hb
            refine kz_iconst (pc := 89) (v := 1) (by decide) dX12_readWriter_89 ?_
            refine kz_goto (pc := 90) (tgt := 94) (by decide) dX12_readWriter_90 ?_
            exact kz_zret (pc := 94) (ty := .boolean) rfl (by decide) (Nat.le_refl _) (Nat.le_refl _) dX12_readWriter_94 h
        · replace h := h.2 hb
          refine kz_aload_n (pc := 71) 1 (v := .ref a0) (i := 0) rfl rfl rfl dX12_readWriter_71 ?_
          refine kz_iconst (pc := 72) (v := 3) (by decide) dX12_readWriter_72 ?_
          obtain ⟨⟨fs42, he⟩, h⟩ := h
          refine kz_callV (pc := 73) (μ' := mX12_failsAt) (ci := 11) (q := (RX12, TX12, 32)) (b := a0) (d' := d + 6) (mc' := 0) (ms' := 0) (As := [.int 3]) (st := []) (c := 0) (sl := 0) kmX12_failsAt kw_1531 (by omega) rfl (Nat.le_of_ble_eq_true rfl) he rfl rfl (Nat.le_refl _) (Nat.le_refl _) dX12_readWriter_73 (fun E M9 hx => kz_Tout rfl (Nat.le_refl _) (Nat.le_refl _) hx) (kz_Cmono (fun v M39 h => ?_) (fun _ _ h => h) h)
          obtain ⟨r40, rfl, h⟩ := h
          show kz_Z G (d + 7) 0 0 mX12_readWriter Qr Qx 76 [(1, .int r26), (0, .ref a0)] [.int r40] M39 0 0
          exact kz_zret (pc := 76) (ty := .boolean) rfl h.1 (Nat.le_refl _) (Nat.le_refl _) dX12_readWriter_76 h.2
      · replace h := h.2 hb
        refine kz_aload_n (pc := 44) 0 (v := .ref a0) (i := 0) rfl rfl rfl dX12_readWriter_44 ?_
        refine kz_iconst (pc := 45) (v := 1) (by decide) dX12_readWriter_45 ?_
        obtain ⟨⟨fs48, he⟩, h⟩ := h
        refine kz_callV (pc := 46) (μ' := mX12_failsAt) (ci := 11) (q := (RX12, TX12, 32)) (b := a0) (d' := d + 6) (mc' := 0) (ms' := 0) (As := [.int 1]) (st := []) (c := 0) (sl := 0) kmX12_failsAt kw_1531 (by omega) rfl (Nat.le_of_ble_eq_true rfl) he rfl rfl (Nat.le_refl _) (Nat.le_refl _) dX12_readWriter_46 (fun E M9 hx => kz_Tout rfl (Nat.le_refl _) (Nat.le_refl _) hx) (kz_Cmono (fun v M45 h => ?_) (fun _ _ h => h) h)
        obtain ⟨r46, rfl, h⟩ := h
        show kz_Z G (d + 7) 0 0 mX12_readWriter Qr Qx 49 [(0, .ref a0)] [.int r46] M45 0 0
        exact kz_zret (pc := 49) (ty := .boolean) rfl h.1 (Nat.le_refl _) (Nat.le_refl _) dX12_readWriter_49 h.2
  · replace h := h.2 hb
    refine kz_aload_n (pc := 11) 0 (v := .ref a0) (i := 0) rfl rfl rfl dX12_readWriter_11 ?_
    refine kz_iconst (pc := 12) (v := 4) (by decide) dX12_readWriter_12 ?_
    obtain ⟨⟨fs54, he⟩, h⟩ := h
    refine kz_callV (pc := 13) (μ' := mX12_failsAt) (ci := 11) (q := (RX12, TX12, 32)) (b := a0) (d' := d + 6) (mc' := 0) (ms' := 0) (As := [.int 4]) (st := []) (c := 0) (sl := 0) kmX12_failsAt kw_1531 (by omega) rfl (Nat.le_of_ble_eq_true rfl) he rfl rfl (Nat.le_refl _) (Nat.le_refl _) dX12_readWriter_13 (fun E M9 hx => kz_Tout rfl (Nat.le_refl _) (Nat.le_refl _) hx) (kz_Cmono (fun v M51 h => ?_) (fun _ _ h => h) h)
    obtain ⟨r52, rfl, h⟩ := h
    show kz_Z G (d + 7) 0 0 mX12_readWriter Qr Qx 16 [(0, .ref a0)] [.int r52] M51 0 0
    exact kz_zret (pc := 16) (ty := .boolean) rfl h.1 (Nat.le_refl _) (Nat.le_refl _) dX12_readWriter_16 h.2
theorem dX12_readSetting_0 : decode cX12_readSetting 0 = .ok (.aload_n 0, 1) := by decide +kernel
theorem dX12_readSetting_1 : decode cX12_readSetting 1 = .ok (.getfield 273, 3) := by decide +kernel
theorem dX12_readSetting_4 : decode cX12_readSetting 4 = .ok (.iload_n 1, 1) := by decide +kernel
theorem dX12_readSetting_5 : decode cX12_readSetting 5 = .ok (.ishr, 1) := by decide +kernel
theorem dX12_readSetting_6 : decode cX12_readSetting 6 = .ok (.iconst 1, 1) := by decide +kernel
theorem dX12_readSetting_7 : decode cX12_readSetting 7 = .ok (.iand, 1) := by decide +kernel
theorem dX12_readSetting_8 : decode cX12_readSetting 8 = .ok (.iconst 1, 1) := by decide +kernel
theorem dX12_readSetting_9 : decode cX12_readSetting 9 = .ok (.if_icmp .ne 9, 3) := by decide +kernel
theorem dX12_readSetting_12 : decode cX12_readSetting 12 = .ok (.aload_n 0, 1) := by decide +kernel
theorem dX12_readSetting_13 : decode cX12_readSetting 13 = .ok (.iconst 3, 1) := by decide +kernel
theorem dX12_readSetting_14 : decode cX12_readSetting 14 = .ok (.invokevirtual 221, 3) := by decide +kernel
theorem dX12_readSetting_17 : decode cX12_readSetting 17 = .ok (.ireturn, 1) := by decide +kernel
theorem dX12_readSetting_18 : decode cX12_readSetting 18 = .ok (.aload_n 0, 1) := by decide +kernel
theorem dX12_readSetting_19 : decode cX12_readSetting 19 = .ok (.dup, 1) := by decide +kernel
theorem dX12_readSetting_20 : decode cX12_readSetting 20 = .ok (.getfield 273, 3) := by decide +kernel
theorem dX12_readSetting_23 : decode cX12_readSetting 23 = .ok (.iconst 1, 1) := by decide +kernel
theorem dX12_readSetting_24 : decode cX12_readSetting 24 = .ok (.iload_n 1, 1) := by decide +kernel
theorem dX12_readSetting_25 : decode cX12_readSetting 25 = .ok (.ishl, 1) := by decide +kernel
theorem dX12_readSetting_26 : decode cX12_readSetting 26 = .ok (.ior, 1) := by decide +kernel
theorem dX12_readSetting_27 : decode cX12_readSetting 27 = .ok (.putfield 273, 3) := by decide +kernel
theorem dX12_readSetting_30 : decode cX12_readSetting 30 = .ok (.aload_n 0, 1) := by decide +kernel
theorem dX12_readSetting_31 : decode cX12_readSetting 31 = .ok (.invokevirtual 227, 3) := by decide +kernel
theorem dX12_readSetting_34 : decode cX12_readSetting 34 = .ok (.aload_n 0, 1) := by decide +kernel
theorem dX12_readSetting_35 : decode cX12_readSetting 35 = .ok (.iload_n 1, 1) := by decide +kernel
theorem dX12_readSetting_36 : decode cX12_readSetting 36 = .ok (.invokestatic 71, 3) := by decide +kernel
theorem dX12_readSetting_39 : decode cX12_readSetting 39 = .ok (.iload_n 1, 1) := by decide +kernel
theorem dX12_readSetting_40 : decode cX12_readSetting 40 = .ok (.invokestatic 75, 3) := by decide +kernel
theorem dX12_readSetting_43 : decode cX12_readSetting 43 = .ok (.invokevirtual 276, 3) := by decide +kernel
theorem dX12_readSetting_46 : decode cX12_readSetting 46 = .ok (.ifCond .ne 5, 3) := by decide +kernel
theorem dX12_readSetting_49 : decode cX12_readSetting 49 = .ok (.iconst 0, 1) := by decide +kernel
theorem dX12_readSetting_50 : decode cX12_readSetting 50 = .ok (.ireturn, 1) := by decide +kernel
theorem dX12_readSetting_51 : decode cX12_readSetting 51 = .ok (.aload_n 0, 1) := by decide +kernel
theorem dX12_readSetting_52 : decode cX12_readSetting 52 = .ok (.iload_n 1, 1) := by decide +kernel
theorem dX12_readSetting_53 : decode cX12_readSetting 53 = .ok (.aload_n 0, 1) := by decide +kernel
theorem dX12_readSetting_54 : decode cX12_readSetting 54 = .ok (.getfield 224, 3) := by decide +kernel
theorem dX12_readSetting_57 : decode cX12_readSetting 57 = .ok (.invokevirtual 63, 3) := by decide +kernel
theorem dX12_readSetting_60 : decode cX12_readSetting 60 = .ok (.iconst 1, 1) := by decide +kernel
theorem dX12_readSetting_61 : decode cX12_readSetting 61 = .ok (.ireturn, 1) := by decide +kernel
theorem rX12_readSetting_0 {G : kz_G} {d : Nat} {Qr : Option Value → kz_M → Prop} {Qx : String → kz_M → Prop} {a0 : Nat} {p1 : Int32}  {M : kz_M} (h : ∃ fs1 v2, (M).1 a0 = some (.inl (11, fs1)) ∧ fs1[29]? = some (.int v2) ∧ ((¬ ((v2 >>> (p1 &&& 31)) &&& 1) = (1 : Int32) → ∃ fs3 v4, (M).1 a0 = some (.inl (11, fs3)) ∧ fs3[29]? = some (.int v4) ∧ (∃ fs5, (M).1 a0 = some (.inl (11, fs5)) ∧ 29 < fs5.length ∧ ((∃ fs27, ((kz_up M a0 (.inl (11, fs5.set 29 (.int (v4 ||| ((1 : Int32) <<< (p1 &&& 31)))))))).1 a0 = some (.inl (11, fs27))) ∧ kz_C G (d + 3) 0 0 mX12_advanceToken [.ref a0] (kz_up M a0 (.inl (11, fs5.set 29 (.int (v4 ||| ((1 : Int32) <<< (p1 &&& 31))))))) (fun v M6 => v = none ∧ (kz_C G (d + 3) 0 0 mX12_leastOf [.int p1] M6 (fun v M9 => ∃ r10 : Int32, v = some (.int r10) ∧ (kz_C G (d + 3) 0 0 mX12_mostOf [.int p1] M9 (fun v M12 => ∃ r13 : Int32, v = some (.int r13) ∧ ((∃ fs24, (M12).1 a0 = some (.inl (11, fs24))) ∧ kz_C G (d + 3) 0 0 mX12_reads [.ref a0, .int r10, .int r13] M12 (fun v M15 => ∃ r16 : Int32, v = some (.int r16) ∧ ((¬ r16 = 0 → ∃ fs18 v19, (M15).1 a0 = some (.inl (11, fs18)) ∧ fs18[28]? = some (.int v19) ∧ ((∃ fs23, (M15).1 a0 = some (.inl (11, fs23))) ∧ kz_C G (d + 3) 0 0 mX12_sets [.ref a0, .int p1, .int v19] M15 (fun v M20 => v = none ∧ (Qr (some (.int 1)) M20)) Qx)) ∧ (r16 = 0 → Qr (some (.int 0)) M15))) Qx)) Qx)) Qx)) Qx))) ∧ (((v2 >>> (p1 &&& 31)) &&& 1) = (1 : Int32) → (∃ fs31, (M).1 a0 = some (.inl (11, fs31))) ∧ kz_C G (d + 3) 0 0 mX12_failsAt [.ref a0, .int 3] M (fun v M28 => ∃ r29 : Int32, v = some (.int r29) ∧ (narrow .boolean (.int r29) = .int r29 ∧ Qr (some (.int r29)) M28)) Qx))) : kz_C G (d + 4) 0 0 mX12_readSetting [.ref a0, .int p1] M Qr Qx := by
  refine kz_enter (n := 1) kmX12_readSetting.1 (Nat.le_of_ble_eq_true rfl) (ls := [(0, .ref a0), (1, .int p1)]) rfl ?_
  refine kz_aload_n (pc := 0) 0 (v := .ref a0) (i := 0) rfl rfl rfl dX12_readSetting_0 ?_
  obtain ⟨fs1, v2, hM, hv, h⟩ := h
  refine kz_getf (pc := 1) (k := 29) kcX12 hM hv (by decide) kw_1407 dX12_readSetting_1 ?_
  refine kz_iload_n (pc := 4) 1 (i := 1) rfl rfl dX12_readSetting_4 ?_
  refine kz_ishr (pc := 5) dX12_readSetting_5 ?_
  refine kz_iconst (pc := 6) (v := 1) (by decide) dX12_readSetting_6 ?_
  refine kz_iand (pc := 7) dX12_readSetting_7 ?_
  refine kz_iconst (pc := 8) (v := 1) (by decide) dX12_readSetting_8 ?_
  refine kz_icmp_ne (pc := 9) (tgt := 18) (by decide) dX12_readSetting_9 (fun hb => ?_) (fun hb => ?_)
  · replace h := h.1 hb
    refine kz_aload_n (pc := 18) 0 (v := .ref a0) (i := 0) rfl rfl rfl dX12_readSetting_18 ?_
    refine kz_dup (pc := 19) rfl dX12_readSetting_19 ?_
    obtain ⟨fs3, v4, hM, hv, h⟩ := h
    refine kz_getf (pc := 20) (k := 29) kcX12 hM hv (by decide) kw_1407 dX12_readSetting_20 ?_
    refine kz_iconst (pc := 23) (v := 1) (by decide) dX12_readSetting_23 ?_
    refine kz_iload_n (pc := 24) 1 (i := 1) rfl rfl dX12_readSetting_24 ?_
    refine kz_ishl (pc := 25) dX12_readSetting_25 ?_
    refine kz_ior (pc := 26) dX12_readSetting_26 ?_
    obtain ⟨fs5, hM, hlen, h⟩ := h
    refine kz_putf (pc := 27) (k := 29) kcX12 hM (by decide) hlen kw_1407 rfl rfl rfl dX12_readSetting_27 ?_
    refine kz_aload_n (pc := 30) 0 (v := .ref a0) (i := 0) rfl rfl rfl dX12_readSetting_30 ?_
    obtain ⟨⟨fs27, he⟩, h⟩ := h
    refine kz_callV (pc := 31) (μ' := mX12_advanceToken) (ci := 11) (q := (RX12, TX12, 32)) (b := a0) (d' := d + 3) (mc' := 0) (ms' := 0) (As := []) (st := []) (c := 0) (sl := 0) kmX12_advanceToken kw_1501 (by omega) rfl (Nat.le_of_ble_eq_true rfl) he rfl rfl (Nat.le_refl _) (Nat.le_refl _) dX12_readSetting_31 (fun E M9 hx => kz_Tout rfl (Nat.le_refl _) (Nat.le_refl _) hx) (kz_Cmono (fun v M6 h => ?_) (fun _ _ h => h) h)
    obtain ⟨rfl, h⟩ := h
    show kz_Z G (d + 4) 0 0 mX12_readSetting Qr Qx 34 [(0, .ref a0), (1, .int p1)] [] M6 0 0
    refine kz_aload_n (pc := 34) 0 (v := .ref a0) (i := 0) rfl rfl rfl dX12_readSetting_34 ?_
    refine kz_iload_n (pc := 35) 1 (i := 1) rfl rfl dX12_readSetting_35 ?_
    refine kz_callS (pc := 36) (μ' := mX12_leastOf) (d' := d + 3) (mc' := 0) (ms' := 0) (As := [.int p1]) (st := [.ref a0]) (c := 0) (sl := 0) kmX12_leastOf kw_1594 (by omega) rfl (Nat.le_of_ble_eq_true rfl) (Nat.le_refl _) (Nat.le_refl _) dX12_readSetting_36 (fun E M9 hx => kz_Tout rfl (Nat.le_refl _) (Nat.le_refl _) hx) (kz_Cmono (fun v M9 h => ?_) (fun _ _ h => h) h)
    obtain ⟨r10, rfl, h⟩ := h
    show kz_Z G (d + 4) 0 0 mX12_readSetting Qr Qx 39 [(0, .ref a0), (1, .int p1)] [.int r10, .ref a0] M9 0 0
    refine kz_iload_n (pc := 39) 1 (i := 1) rfl rfl dX12_readSetting_39 ?_
    refine kz_callS (pc := 40) (μ' := mX12_mostOf) (d' := d + 3) (mc' := 0) (ms' := 0) (As := [.int p1]) (st := [.int r10, .ref a0]) (c := 0) (sl := 0) kmX12_mostOf kw_1597 (by omega) rfl (Nat.le_of_ble_eq_true rfl) (Nat.le_refl _) (Nat.le_refl _) dX12_readSetting_40 (fun E M9 hx => kz_Tout rfl (Nat.le_refl _) (Nat.le_refl _) hx) (kz_Cmono (fun v M12 h => ?_) (fun _ _ h => h) h)
    obtain ⟨r13, rfl, h⟩ := h
    show kz_Z G (d + 4) 0 0 mX12_readSetting Qr Qx 43 [(0, .ref a0), (1, .int p1)] [.int r13, .int r10, .ref a0] M12 0 0
    obtain ⟨⟨fs24, he⟩, h⟩ := h
    refine kz_callV (pc := 43) (μ' := mX12_reads) (ci := 11) (q := (RX12, TX12, 32)) (b := a0) (d' := d + 3) (mc' := 0) (ms' := 0) (As := [.int r10, .int r13]) (st := []) (c := 0) (sl := 0) kmX12_reads kw_1536 (by omega) rfl (Nat.le_of_ble_eq_true rfl) he rfl rfl (Nat.le_refl _) (Nat.le_refl _) dX12_readSetting_43 (fun E M9 hx => kz_Tout rfl (Nat.le_refl _) (Nat.le_refl _) hx) (kz_Cmono (fun v M15 h => ?_) (fun _ _ h => h) h)
    obtain ⟨r16, rfl, h⟩ := h
    show kz_Z G (d + 4) 0 0 mX12_readSetting Qr Qx 46 [(0, .ref a0), (1, .int p1)] [.int r16] M15 0 0
    refine kz_if_ne (pc := 46) (tgt := 51) (by decide) dX12_readSetting_46 (fun hb => ?_) (fun hb => ?_)
    · replace h := h.1 hb
      refine kz_aload_n (pc := 51) 0 (v := .ref a0) (i := 0) rfl rfl rfl dX12_readSetting_51 ?_
      refine kz_iload_n (pc := 52) 1 (i := 1) rfl rfl dX12_readSetting_52 ?_
      refine kz_aload_n (pc := 53) 0 (v := .ref a0) (i := 0) rfl rfl rfl dX12_readSetting_53 ?_
      obtain ⟨fs18, v19, hM, hv, h⟩ := h
      refine kz_getf (pc := 54) (k := 28) kcX12 hM hv (by decide) kw_1406 dX12_readSetting_54 ?_
      obtain ⟨⟨fs23, he⟩, h⟩ := h
      refine kz_callV (pc := 57) (μ' := mX12_sets) (ci := 11) (q := (RX12, TX12, 32)) (b := a0) (d' := d + 3) (mc' := 0) (ms' := 0) (As := [.int p1, .int v19]) (st := []) (c := 0) (sl := 0) kmX12_sets kw_1374 (by omega) rfl (Nat.le_of_ble_eq_true rfl) he rfl rfl (Nat.le_refl _) (Nat.le_refl _) dX12_readSetting_57 (fun E M9 hx => kz_Tout rfl (Nat.le_refl _) (Nat.le_refl _) hx) (kz_Cmono (fun v M20 h => ?_) (fun _ _ h => h) h)
      obtain ⟨rfl, h⟩ := h
      show kz_Z G (d + 4) 0 0 mX12_readSetting Qr Qx 60 [(0, .ref a0), (1, .int p1)] [] M20 0 0
      refine kz_iconst (pc := 60) (v := 1) (by decide) dX12_readSetting_60 ?_
      exact kz_zret (pc := 61) (ty := .boolean) rfl (by decide) (Nat.le_refl _) (Nat.le_refl _) dX12_readSetting_61 h
    · replace h := h.2 hb
      refine kz_iconst (pc := 49) (v := 0) (by decide) dX12_readSetting_49 ?_
      exact kz_zret (pc := 50) (ty := .boolean) rfl (by decide) (Nat.le_refl _) (Nat.le_refl _) dX12_readSetting_50 h
  · replace h := h.2 hb
    refine kz_aload_n (pc := 12) 0 (v := .ref a0) (i := 0) rfl rfl rfl dX12_readSetting_12 ?_
    refine kz_iconst (pc := 13) (v := 3) (by decide) dX12_readSetting_13 ?_
    obtain ⟨⟨fs31, he⟩, h⟩ := h
    refine kz_callV (pc := 14) (μ' := mX12_failsAt) (ci := 11) (q := (RX12, TX12, 32)) (b := a0) (d' := d + 3) (mc' := 0) (ms' := 0) (As := [.int 3]) (st := []) (c := 0) (sl := 0) kmX12_failsAt kw_1531 (by omega) rfl (Nat.le_of_ble_eq_true rfl) he rfl rfl (Nat.le_refl _) (Nat.le_refl _) dX12_readSetting_14 (fun E M9 hx => kz_Tout rfl (Nat.le_refl _) (Nat.le_refl _) hx) (kz_Cmono (fun v M28 h => ?_) (fun _ _ h => h) h)
    obtain ⟨r29, rfl, h⟩ := h
    show kz_Z G (d + 4) 0 0 mX12_readSetting Qr Qx 17 [(0, .ref a0), (1, .int p1)] [.int r29] M28 0 0
    exact kz_zret (pc := 17) (ty := .boolean) rfl h.1 (Nat.le_refl _) (Nat.le_refl _) dX12_readSetting_17 h.2
theorem dX12_readStatement_0 : decode cX12_readStatement 0 = .ok (.aload_n 0, 1) := by decide +kernel
theorem dX12_readStatement_1 : decode cX12_readStatement 1 = .ok (.ldc_w 259, 3) := by decide +kernel
theorem dX12_readStatement_4 : decode cX12_readStatement 4 = .ok (.invokevirtual 279, 3) := by decide +kernel
theorem dX12_readStatement_7 : decode cX12_readStatement 7 = .ok (.ifCond .eq 8, 3) := by decide +kernel
theorem dX12_readStatement_10 : decode cX12_readStatement 10 = .ok (.aload_n 0, 1) := by decide +kernel
theorem dX12_readStatement_11 : decode cX12_readStatement 11 = .ok (.invokevirtual 283, 3) := by decide +kernel
theorem dX12_readStatement_14 : decode cX12_readStatement 14 = .ok (.ireturn, 1) := by decide +kernel
theorem dX12_readStatement_15 : decode cX12_readStatement 15 = .ok (.aload_n 0, 1) := by decide +kernel
theorem dX12_readStatement_16 : decode cX12_readStatement 16 = .ok (.getfield 196, 3) := by decide +kernel
theorem dX12_readStatement_19 : decode cX12_readStatement 19 = .ok (.iconst 1, 1) := by decide +kernel
theorem dX12_readStatement_20 : decode cX12_readStatement 20 = .ok (.if_icmp .ne 18, 3) := by decide +kernel
theorem dX12_readStatement_23 : decode cX12_readStatement 23 = .ok (.aload_n 0, 1) := by decide +kernel
theorem dX12_readStatement_24 : decode cX12_readStatement 24 = .ok (.aload_n 0, 1) := by decide +kernel
theorem dX12_readStatement_25 : decode cX12_readStatement 25 = .ok (.getfield 190, 3) := by decide +kernel
theorem dX12_readStatement_28 : decode cX12_readStatement 28 = .ok (.aload_n 0, 1) := by decide +kernel
theorem dX12_readStatement_29 : decode cX12_readStatement 29 = .ok (.getfield 184, 3) := by decide +kernel
theorem dX12_readStatement_32 : decode cX12_readStatement 32 = .ok (.invokevirtual 254, 3) := by decide +kernel
theorem dX12_readStatement_35 : decode cX12_readStatement 35 = .ok (.goto 4, 3) := by decide +kernel
theorem dX12_readStatement_38 : decode cX12_readStatement 38 = .ok (.iconst (-1), 1) := by decide +kernel
theorem dX12_readStatement_39 : decode cX12_readStatement 39 = .ok (.istore_n 1, 1) := by decide +kernel
theorem dX12_readStatement_40 : decode cX12_readStatement 40 = .ok (.iload_n 1, 1) := by decide +kernel
theorem dX12_readStatement_41 : decode cX12_readStatement 41 = .ok (.iconst (-1), 1) := by decide +kernel
theorem dX12_readStatement_42 : decode cX12_readStatement 42 = .ok (.if_icmp .ne 11, 3) := by decide +kernel
theorem dX12_readStatement_45 : decode cX12_readStatement 45 = .ok (.aload_n 0, 1) := by decide +kernel
theorem dX12_readStatement_46 : decode cX12_readStatement 46 = .ok (.iconst 1, 1) := by decide +kernel
theorem dX12_readStatement_47 : decode cX12_readStatement 47 = .ok (.invokevirtual 221, 3) := by decide +kernel
theorem dX12_readStatement_50 : decode cX12_readStatement 50 = .ok (.goto 8, 3) := by decide +kernel
theorem dX12_readStatement_53 : decode cX12_readStatement 53 = .ok (.aload_n 0, 1) := by decide +kernel
theorem dX12_readStatement_54 : decode cX12_readStatement 54 = .ok (.iload_n 1, 1) := by decide +kernel
theorem dX12_readStatement_55 : decode cX12_readStatement 55 = .ok (.invokevirtual 287, 3) := by decide +kernel
theorem dX12_readStatement_58 : decode cX12_readStatement 58 = .ok (.ireturn, 1) := by decide +kernel
theorem rX12_readStatement_0 {G : kz_G} {d : Nat} {Qr : Option Value → kz_M → Prop} {Qx : String → kz_M → Prop} {a0 : Nat}  {M : kz_M} (h : (∃ fs34, (M).1 a0 = some (.inl (11, fs34))) ∧ kz_C G (d + 7) 0 0 mX12_isWord [.ref a0, .retAddr 1047] M (fun v M1 => ∃ r2 : Int32, v = some (.int r2) ∧ ((r2 = 0 → ∃ fs4 v5, (M1).1 a0 = some (.inl (11, fs4)) ∧ fs4[27]? = some (.int v5) ∧ ((¬ v5 = (1 : Int32) → (¬ ((-1) : Int32) = ((-1) : Int32) → (∃ fs9, (M1).1 a0 = some (.inl (11, fs9))) ∧ kz_C G (d + 7) 0 0 mX12_readSetting [.ref a0, .int ((-1))] M1 (fun v M6 => ∃ r7 : Int32, v = some (.int r7) ∧ (narrow .boolean (.int r7) = .int r7 ∧ Qr (some (.int r7)) M6)) Qx) ∧ (((-1) : Int32) = ((-1) : Int32) → (∃ fs13, (M1).1 a0 = some (.inl (11, fs13))) ∧ kz_C G (d + 7) 0 0 mX12_failsAt [.ref a0, .int 1] M1 (fun v M10 => ∃ r11 : Int32, v = some (.int r11) ∧ (narrow .boolean (.int r11) = .int r11 ∧ Qr (some (.int r11)) M10)) Qx)) ∧ (v5 = (1 : Int32) → ∃ fs14 v15, (M1).1 a0 = some (.inl (11, fs14)) ∧ fs14[25]? = some (.int v15) ∧ (∃ fs16 v17, (M1).1 a0 = some (.inl (11, fs16)) ∧ fs16[24]? = some (.int v17) ∧ ((∃ fs29, (M1).1 a0 = some (.inl (11, fs29))) ∧ kz_C G (d + 7) 0 0 mX12_settingAt [.ref a0, .int v15, .int v17] M1 (fun v M18 => ∃ r19 : Int32, v = some (.int r19) ∧ ((¬ r19 = ((-1) : Int32) → (∃ fs24, (M18).1 a0 = some (.inl (11, fs24))) ∧ kz_C G (d + 7) 0 0 mX12_readSetting [.ref a0, .int r19] M18 (fun v M21 => ∃ r22 : Int32, v = some (.int r22) ∧ (narrow .boolean (.int r22) = .int r22 ∧ Qr (some (.int r22)) M21)) Qx) ∧ (r19 = ((-1) : Int32) → (∃ fs28, (M18).1 a0 = some (.inl (11, fs28))) ∧ kz_C G (d + 7) 0 0 mX12_failsAt [.ref a0, .int 1] M18 (fun v M25 => ∃ r26 : Int32, v = some (.int r26) ∧ (narrow .boolean (.int r26) = .int r26 ∧ Qr (some (.int r26)) M25)) Qx))) Qx))))) ∧ (¬ r2 = 0 → (∃ fs33, (M1).1 a0 = some (.inl (11, fs33))) ∧ kz_C G (d + 7) 0 0 mX12_readWriter [.ref a0] M1 (fun v M30 => ∃ r31 : Int32, v = some (.int r31) ∧ (narrow .boolean (.int r31) = .int r31 ∧ Qr (some (.int r31)) M30)) Qx))) Qx) : kz_C G (d + 8) 0 0 mX12_readStatement [.ref a0] M Qr Qx := by
  refine kz_enter (n := 0) kmX12_readStatement.1 (Nat.le_of_ble_eq_true rfl) (ls := [(0, .ref a0)]) rfl ?_
  refine kz_aload_n (pc := 0) 0 (v := .ref a0) (i := 0) rfl rfl rfl dX12_readStatement_0 ?_
  refine kz_ldcwS (pc := 1) (j := 1047) (tx := "writer") (List.mem_of_getElem? (i := 47) rfl) dX12_readStatement_1 ?_
  obtain ⟨⟨fs34, he⟩, h⟩ := h
  refine kz_callV (pc := 4) (μ' := mX12_isWord) (ci := 11) (q := (RX12, TX12, 32)) (b := a0) (d' := d + 7) (mc' := 0) (ms' := 0) (As := [.retAddr 1047]) (st := []) (c := 0) (sl := 0) kmX12_isWord kw_1521 (by omega) rfl (Nat.le_of_ble_eq_true rfl) he rfl rfl (Nat.le_refl _) (Nat.le_refl _) dX12_readStatement_4 (fun E M9 hx => kz_Tout rfl (Nat.le_refl _) (Nat.le_refl _) hx) (kz_Cmono (fun v M1 h => ?_) (fun _ _ h => h) h)
  obtain ⟨r2, rfl, h⟩ := h
  show kz_Z G (d + 8) 0 0 mX12_readStatement Qr Qx 7 [(0, .ref a0)] [.int r2] M1 0 0
  refine kz_if_eq (pc := 7) (tgt := 15) (by decide) dX12_readStatement_7 (fun hb => ?_) (fun hb => ?_)
  · replace h := h.1 hb
    refine kz_aload_n (pc := 15) 0 (v := .ref a0) (i := 0) rfl rfl rfl dX12_readStatement_15 ?_
    obtain ⟨fs4, v5, hM, hv, h⟩ := h
    refine kz_getf (pc := 16) (k := 27) kcX12 hM hv (by decide) kw_1405 dX12_readStatement_16 ?_
    refine kz_iconst (pc := 19) (v := 1) (by decide) dX12_readStatement_19 ?_
    refine kz_icmp_ne (pc := 20) (tgt := 38) (by decide) dX12_readStatement_20 (fun hb => ?_) (fun hb => ?_)
    · replace h := h.1 hb
      refine kz_iconst (pc := 38) (v := (-1)) (by decide) dX12_readStatement_38 ?_
      refine kz_istore_n (pc := 39) (i := 1) (ls' := [(0, .ref a0)]) rfl (by decide) rfl dX12_readStatement_39 ?_
      refine kz_iload_n (pc := 40) 0 (i := 1) rfl rfl dX12_readStatement_40 ?_
      refine kz_iconst (pc := 41) (v := (-1)) (by decide) dX12_readStatement_41 ?_
      refine kz_icmp_ne (pc := 42) (tgt := 53) (by decide) dX12_readStatement_42 (fun hb => ?_) (fun hb => ?_)
      · replace h := h.1 hb
        refine kz_aload_n (pc := 53) 1 (v := .ref a0) (i := 0) rfl rfl rfl dX12_readStatement_53 ?_
        refine kz_iload_n (pc := 54) 0 (i := 1) rfl rfl dX12_readStatement_54 ?_
        obtain ⟨⟨fs9, he⟩, h⟩ := h
        refine kz_callV (pc := 55) (μ' := mX12_readSetting) (ci := 11) (q := (RX12, TX12, 32)) (b := a0) (d' := d + 7) (mc' := 0) (ms' := 0) (As := [.int ((-1))]) (st := []) (c := 0) (sl := 0) kmX12_readSetting kw_1590 (by omega) rfl (Nat.le_of_ble_eq_true rfl) he rfl rfl (Nat.le_refl _) (Nat.le_refl _) dX12_readStatement_55 (fun E M9 hx => kz_Tout rfl (Nat.le_refl _) (Nat.le_refl _) hx) (kz_Cmono (fun v M6 h => ?_) (fun _ _ h => h) h)
        obtain ⟨r7, rfl, h⟩ := h
        show kz_Z G (d + 8) 0 0 mX12_readStatement Qr Qx 58 [(1, .int ((-1))), (0, .ref a0)] [.int r7] M6 0 0
        exact kz_zret (pc := 58) (ty := .boolean) rfl h.1 (Nat.le_refl _) (Nat.le_refl _) dX12_readStatement_58 h.2
      · replace h := h.2 hb
        refine kz_aload_n (pc := 45) 1 (v := .ref a0) (i := 0) rfl rfl rfl dX12_readStatement_45 ?_
        refine kz_iconst (pc := 46) (v := 1) (by decide) dX12_readStatement_46 ?_
        obtain ⟨⟨fs13, he⟩, h⟩ := h
        refine kz_callV (pc := 47) (μ' := mX12_failsAt) (ci := 11) (q := (RX12, TX12, 32)) (b := a0) (d' := d + 7) (mc' := 0) (ms' := 0) (As := [.int 1]) (st := []) (c := 0) (sl := 0) kmX12_failsAt kw_1531 (by omega) rfl (Nat.le_of_ble_eq_true rfl) he rfl rfl (Nat.le_refl _) (Nat.le_refl _) dX12_readStatement_47 (fun E M9 hx => kz_Tout rfl (Nat.le_refl _) (Nat.le_refl _) hx) (kz_Cmono (fun v M10 h => ?_) (fun _ _ h => h) h)
        obtain ⟨r11, rfl, h⟩ := h
        show kz_Z G (d + 8) 0 0 mX12_readStatement Qr Qx 50 [(1, .int ((-1))), (0, .ref a0)] [.int r11] M10 0 0
        refine kz_goto (pc := 50) (tgt := 58) (by decide) dX12_readStatement_50 ?_
        exact kz_zret (pc := 58) (ty := .boolean) rfl h.1 (Nat.le_refl _) (Nat.le_refl _) dX12_readStatement_58 h.2
    · replace h := h.2 hb
      refine kz_aload_n (pc := 23) 0 (v := .ref a0) (i := 0) rfl rfl rfl dX12_readStatement_23 ?_
      refine kz_aload_n (pc := 24) 0 (v := .ref a0) (i := 0) rfl rfl rfl dX12_readStatement_24 ?_
      obtain ⟨fs14, v15, hM, hv, h⟩ := h
      refine kz_getf (pc := 25) (k := 25) kcX12 hM hv (by decide) kw_1403 dX12_readStatement_25 ?_
      refine kz_aload_n (pc := 28) 0 (v := .ref a0) (i := 0) rfl rfl rfl dX12_readStatement_28 ?_
      obtain ⟨fs16, v17, hM, hv, h⟩ := h
      refine kz_getf (pc := 29) (k := 24) kcX12 hM hv (by decide) kw_1402 dX12_readStatement_29 ?_
      obtain ⟨⟨fs29, he⟩, h⟩ := h
      refine kz_callV (pc := 32) (μ' := mX12_settingAt) (ci := 11) (q := (RX12, TX12, 32)) (b := a0) (d' := d + 7) (mc' := 0) (ms' := 0) (As := [.int v15, .int v17]) (st := []) (c := 0) (sl := 0) kmX12_settingAt kw_1561 (by omega) rfl (Nat.le_of_ble_eq_true rfl) he rfl rfl (Nat.le_refl _) (Nat.le_refl _) dX12_readStatement_32 (fun E M9 hx => kz_Tout rfl (Nat.le_refl _) (Nat.le_refl _) hx) (kz_Cmono (fun v M18 h => ?_) (fun _ _ h => h) h)
      obtain ⟨r19, rfl, h⟩ := h
      show kz_Z G (d + 8) 0 0 mX12_readStatement Qr Qx 35 [(0, .ref a0)] [.int r19] M18 0 0
      refine kz_goto (pc := 35) (tgt := 39) (by decide) dX12_readStatement_35 ?_
      refine kz_istore_n (pc := 39) (i := 1) (ls' := [(0, .ref a0)]) rfl (by decide) rfl dX12_readStatement_39 ?_
      refine kz_iload_n (pc := 40) 0 (i := 1) rfl rfl dX12_readStatement_40 ?_
      refine kz_iconst (pc := 41) (v := (-1)) (by decide) dX12_readStatement_41 ?_
      refine kz_icmp_ne (pc := 42) (tgt := 53) (by decide) dX12_readStatement_42 (fun hb => ?_) (fun hb => ?_)
      · replace h := h.1 hb
        refine kz_aload_n (pc := 53) 1 (v := .ref a0) (i := 0) rfl rfl rfl dX12_readStatement_53 ?_
        refine kz_iload_n (pc := 54) 0 (i := 1) rfl rfl dX12_readStatement_54 ?_
        obtain ⟨⟨fs24, he⟩, h⟩ := h
        refine kz_callV (pc := 55) (μ' := mX12_readSetting) (ci := 11) (q := (RX12, TX12, 32)) (b := a0) (d' := d + 7) (mc' := 0) (ms' := 0) (As := [.int r19]) (st := []) (c := 0) (sl := 0) kmX12_readSetting kw_1590 (by omega) rfl (Nat.le_of_ble_eq_true rfl) he rfl rfl (Nat.le_refl _) (Nat.le_refl _) dX12_readStatement_55 (fun E M9 hx => kz_Tout rfl (Nat.le_refl _) (Nat.le_refl _) hx) (kz_Cmono (fun v M21 h => ?_) (fun _ _ h => h) h)
        obtain ⟨r22, rfl, h⟩ := h
        show kz_Z G (d + 8) 0 0 mX12_readStatement Qr Qx 58 [(1, .int r19), (0, .ref a0)] [.int r22] M21 0 0
        exact kz_zret (pc := 58) (ty := .boolean) rfl h.1 (Nat.le_refl _) (Nat.le_refl _) dX12_readStatement_58 h.2
      · replace h := h.2 hb
        refine kz_aload_n (pc := 45) 1 (v := .ref a0) (i := 0) rfl rfl rfl dX12_readStatement_45 ?_
        refine kz_iconst (pc := 46) (v := 1) (by decide) dX12_readStatement_46 ?_
        obtain ⟨⟨fs28, he⟩, h⟩ := h
        refine kz_callV (pc := 47) (μ' := mX12_failsAt) (ci := 11) (q := (RX12, TX12, 32)) (b := a0) (d' := d + 7) (mc' := 0) (ms' := 0) (As := [.int 1]) (st := []) (c := 0) (sl := 0) kmX12_failsAt kw_1531 (by omega) rfl (Nat.le_of_ble_eq_true rfl) he rfl rfl (Nat.le_refl _) (Nat.le_refl _) dX12_readStatement_47 (fun E M9 hx => kz_Tout rfl (Nat.le_refl _) (Nat.le_refl _) hx) (kz_Cmono (fun v M25 h => ?_) (fun _ _ h => h) h)
        obtain ⟨r26, rfl, h⟩ := h
        show kz_Z G (d + 8) 0 0 mX12_readStatement Qr Qx 50 [(1, .int r19), (0, .ref a0)] [.int r26] M25 0 0
        refine kz_goto (pc := 50) (tgt := 58) (by decide) dX12_readStatement_50 ?_
        exact kz_zret (pc := 58) (ty := .boolean) rfl h.1 (Nat.le_refl _) (Nat.le_refl _) dX12_readStatement_58 h.2
  · replace h := h.2 hb
    refine kz_aload_n (pc := 10) 0 (v := .ref a0) (i := 0) rfl rfl rfl dX12_readStatement_10 ?_
    obtain ⟨⟨fs33, he⟩, h⟩ := h
    refine kz_callV (pc := 11) (μ' := mX12_readWriter) (ci := 11) (q := (RX12, TX12, 32)) (b := a0) (d' := d + 7) (mc' := 0) (ms' := 0) (As := []) (st := []) (c := 0) (sl := 0) kmX12_readWriter kw_1553 (by omega) rfl (Nat.le_of_ble_eq_true rfl) he rfl rfl (Nat.le_refl _) (Nat.le_refl _) dX12_readStatement_11 (fun E M9 hx => kz_Tout rfl (Nat.le_refl _) (Nat.le_refl _) hx) (kz_Cmono (fun v M30 h => ?_) (fun _ _ h => h) h)
    obtain ⟨r31, rfl, h⟩ := h
    show kz_Z G (d + 8) 0 0 mX12_readStatement Qr Qx 14 [(0, .ref a0)] [.int r31] M30 0 0
    exact kz_zret (pc := 14) (ty := .boolean) rfl h.1 (Nat.le_refl _) (Nat.le_refl _) dX12_readStatement_14 h.2
theorem dX12_readEnd_0 : decode cX12_readEnd 0 = .ok (.aload_n 0, 1) := by decide +kernel
theorem dX12_readEnd_1 : decode cX12_readEnd 1 = .ok (.getfield 196, 3) := by decide +kernel
theorem dX12_readEnd_4 : decode cX12_readEnd 4 = .ok (.iconst 3, 1) := by decide +kernel
theorem dX12_readEnd_5 : decode cX12_readEnd 5 = .ok (.if_icmp .eq 9, 3) := by decide +kernel
theorem dX12_readEnd_8 : decode cX12_readEnd 8 = .ok (.aload_n 0, 1) := by decide +kernel
theorem dX12_readEnd_9 : decode cX12_readEnd 9 = .ok (.iconst 1, 1) := by decide +kernel
theorem dX12_readEnd_10 : decode cX12_readEnd 10 = .ok (.invokevirtual 221, 3) := by decide +kernel
theorem dX12_readEnd_13 : decode cX12_readEnd 13 = .ok (.ireturn, 1) := by decide +kernel
theorem dX12_readEnd_14 : decode cX12_readEnd 14 = .ok (.aload_n 0, 1) := by decide +kernel
theorem dX12_readEnd_15 : decode cX12_readEnd 15 = .ok (.invokevirtual 227, 3) := by decide +kernel
theorem dX12_readEnd_18 : decode cX12_readEnd 18 = .ok (.iconst 1, 1) := by decide +kernel
theorem dX12_readEnd_19 : decode cX12_readEnd 19 = .ok (.ireturn, 1) := by decide +kernel
theorem rX12_readEnd_0 {G : kz_G} {d : Nat} {Qr : Option Value → kz_M → Prop} {Qx : String → kz_M → Prop} {a0 : Nat}  {M : kz_M} (h : ∃ fs1 v2, (M).1 a0 = some (.inl (11, fs1)) ∧ fs1[27]? = some (.int v2) ∧ ((v2 = (3 : Int32) → (∃ fs6, (M).1 a0 = some (.inl (11, fs6))) ∧ kz_C G (d + 2) 0 0 mX12_advanceToken [.ref a0] M (fun v M3 => v = none ∧ (Qr (some (.int 1)) M3)) Qx) ∧ (¬ v2 = (3 : Int32) → (∃ fs10, (M).1 a0 = some (.inl (11, fs10))) ∧ kz_C G (d + 2) 0 0 mX12_failsAt [.ref a0, .int 1] M (fun v M7 => ∃ r8 : Int32, v = some (.int r8) ∧ (narrow .boolean (.int r8) = .int r8 ∧ Qr (some (.int r8)) M7)) Qx))) : kz_C G (d + 3) 0 0 mX12_readEnd [.ref a0] M Qr Qx := by
  refine kz_enter (n := 0) kmX12_readEnd.1 (Nat.le_of_ble_eq_true rfl) (ls := [(0, .ref a0)]) rfl ?_
  refine kz_aload_n (pc := 0) 0 (v := .ref a0) (i := 0) rfl rfl rfl dX12_readEnd_0 ?_
  obtain ⟨fs1, v2, hM, hv, h⟩ := h
  refine kz_getf (pc := 1) (k := 27) kcX12 hM hv (by decide) kw_1405 dX12_readEnd_1 ?_
  refine kz_iconst (pc := 4) (v := 3) (by decide) dX12_readEnd_4 ?_
  refine kz_icmp_eq (pc := 5) (tgt := 14) (by decide) dX12_readEnd_5 (fun hb => ?_) (fun hb => ?_)
  · replace h := h.1 hb
    refine kz_aload_n (pc := 14) 0 (v := .ref a0) (i := 0) rfl rfl rfl dX12_readEnd_14 ?_
    obtain ⟨⟨fs6, he⟩, h⟩ := h
    refine kz_callV (pc := 15) (μ' := mX12_advanceToken) (ci := 11) (q := (RX12, TX12, 32)) (b := a0) (d' := d + 2) (mc' := 0) (ms' := 0) (As := []) (st := []) (c := 0) (sl := 0) kmX12_advanceToken kw_1501 (by omega) rfl (Nat.le_of_ble_eq_true rfl) he rfl rfl (Nat.le_refl _) (Nat.le_refl _) dX12_readEnd_15 (fun E M9 hx => kz_Tout rfl (Nat.le_refl _) (Nat.le_refl _) hx) (kz_Cmono (fun v M3 h => ?_) (fun _ _ h => h) h)
    obtain ⟨rfl, h⟩ := h
    show kz_Z G (d + 3) 0 0 mX12_readEnd Qr Qx 18 [(0, .ref a0)] [] M3 0 0
    refine kz_iconst (pc := 18) (v := 1) (by decide) dX12_readEnd_18 ?_
    exact kz_zret (pc := 19) (ty := .boolean) rfl (by decide) (Nat.le_refl _) (Nat.le_refl _) dX12_readEnd_19 h
  · replace h := h.2 hb
    refine kz_aload_n (pc := 8) 0 (v := .ref a0) (i := 0) rfl rfl rfl dX12_readEnd_8 ?_
    refine kz_iconst (pc := 9) (v := 1) (by decide) dX12_readEnd_9 ?_
    obtain ⟨⟨fs10, he⟩, h⟩ := h
    refine kz_callV (pc := 10) (μ' := mX12_failsAt) (ci := 11) (q := (RX12, TX12, 32)) (b := a0) (d' := d + 2) (mc' := 0) (ms' := 0) (As := [.int 1]) (st := []) (c := 0) (sl := 0) kmX12_failsAt kw_1531 (by omega) rfl (Nat.le_of_ble_eq_true rfl) he rfl rfl (Nat.le_refl _) (Nat.le_refl _) dX12_readEnd_10 (fun E M9 hx => kz_Tout rfl (Nat.le_refl _) (Nat.le_refl _) hx) (kz_Cmono (fun v M7 h => ?_) (fun _ _ h => h) h)
    obtain ⟨r8, rfl, h⟩ := h
    show kz_Z G (d + 3) 0 0 mX12_readEnd Qr Qx 13 [(0, .ref a0)] [.int r8] M7 0 0
    exact kz_zret (pc := 13) (ty := .boolean) rfl h.1 (Nat.le_refl _) (Nat.le_refl _) dX12_readEnd_13 h.2
theorem dX12_readOffice_0 : decode cX12_readOffice 0 = .ok (.aload_n 0, 1) := by decide +kernel
theorem dX12_readOffice_1 : decode cX12_readOffice 1 = .ok (.ldc_w 257, 3) := by decide +kernel
theorem dX12_readOffice_4 : decode cX12_readOffice 4 = .ok (.invokevirtual 279, 3) := by decide +kernel
theorem dX12_readOffice_7 : decode cX12_readOffice 7 = .ok (.ifCond .ne 9, 3) := by decide +kernel
theorem dX12_readOffice_10 : decode cX12_readOffice 10 = .ok (.aload_n 0, 1) := by decide +kernel
theorem dX12_readOffice_11 : decode cX12_readOffice 11 = .ok (.iconst 1, 1) := by decide +kernel
theorem dX12_readOffice_12 : decode cX12_readOffice 12 = .ok (.invokevirtual 221, 3) := by decide +kernel
theorem dX12_readOffice_15 : decode cX12_readOffice 15 = .ok (.ireturn, 1) := by decide +kernel
theorem dX12_readOffice_16 : decode cX12_readOffice 16 = .ok (.aload_n 0, 1) := by decide +kernel
theorem dX12_readOffice_17 : decode cX12_readOffice 17 = .ok (.invokevirtual 227, 3) := by decide +kernel
theorem dX12_readOffice_20 : decode cX12_readOffice 20 = .ok (.aload_n 0, 1) := by decide +kernel
theorem dX12_readOffice_21 : decode cX12_readOffice 21 = .ok (.iconst 0, 1) := by decide +kernel
theorem dX12_readOffice_22 : decode cX12_readOffice 22 = .ok (.ldc_w 290, 3) := by decide +kernel
theorem dX12_readOffice_25 : decode cX12_readOffice 25 = .ok (.invokevirtual 276, 3) := by decide +kernel
theorem dX12_readOffice_28 : decode cX12_readOffice 28 = .ok (.ifCond .ne 5, 3) := by decide +kernel
theorem dX12_readOffice_31 : decode cX12_readOffice 31 = .ok (.iconst 0, 1) := by decide +kernel
theorem dX12_readOffice_32 : decode cX12_readOffice 32 = .ok (.ireturn, 1) := by decide +kernel
theorem dX12_readOffice_33 : decode cX12_readOffice 33 = .ok (.aload_n 0, 1) := by decide +kernel
theorem dX12_readOffice_34 : decode cX12_readOffice 34 = .ok (.getfield 7, 3) := by decide +kernel
theorem dX12_readOffice_37 : decode cX12_readOffice 37 = .ok (.iconst 3, 1) := by decide +kernel
theorem dX12_readOffice_38 : decode cX12_readOffice 38 = .ok (.aload_n 0, 1) := by decide +kernel
theorem dX12_readOffice_39 : decode cX12_readOffice 39 = .ok (.getfield 224, 3) := by decide +kernel
theorem dX12_readOffice_42 : decode cX12_readOffice 42 = .ok (.iastore, 1) := by decide +kernel
theorem dX12_readOffice_43 : decode cX12_readOffice 43 = .ok (.aload_n 0, 1) := by decide +kernel
theorem dX12_readOffice_44 : decode cX12_readOffice 44 = .ok (.invokevirtual 291, 3) := by decide +kernel
theorem dX12_readOffice_47 : decode cX12_readOffice 47 = .ok (.ireturn, 1) := by decide +kernel
theorem rX12_readOffice_0 {G : kz_G} {d : Nat} {Qr : Option Value → kz_M → Prop} {Qx : String → kz_M → Prop} {a0 : Nat}  {M : kz_M} (h : (∃ fs26, (M).1 a0 = some (.inl (11, fs26))) ∧ kz_C G (d + 5) 0 0 mX12_isWord [.ref a0, .retAddr 1046] M (fun v M1 => ∃ r2 : Int32, v = some (.int r2) ∧ ((¬ r2 = 0 → (∃ fs21, (M1).1 a0 = some (.inl (11, fs21))) ∧ kz_C G (d + 5) 0 0 mX12_advanceToken [.ref a0] M1 (fun v M4 => v = none ∧ ((∃ fs20, (M4).1 a0 = some (.inl (11, fs20))) ∧ kz_C G (d + 5) 0 0 mX12_reads [.ref a0, .int 0, .int 99999] M4 (fun v M7 => ∃ r8 : Int32, v = some (.int r8) ∧ ((¬ r8 = 0 → ∃ fs10 v11, (M7).1 a0 = some (.inl (11, fs10)) ∧ fs10[0]? = some (.ref v11) ∧ (∃ fs12 v13, (M7).1 a0 = some (.inl (11, fs12)) ∧ fs12[28]? = some (.int v13) ∧ (∃ n14 f15, (M7).1 v11 = some (.inr (.int, n14, .inl f15)) ∧ vp_in (3 : Int32) n14 ∧ ((∃ fs19, ((kz_up M7 v11 (.inr (.int, n14, .inl (upd f15 (3 : Int32).toNatClampNeg v13))))).1 a0 = some (.inl (11, fs19))) ∧ kz_C G (d + 5) 0 0 mX12_readEnd [.ref a0] (kz_up M7 v11 (.inr (.int, n14, .inl (upd f15 (3 : Int32).toNatClampNeg v13)))) (fun v M16 => ∃ r17 : Int32, v = some (.int r17) ∧ (narrow .boolean (.int r17) = .int r17 ∧ Qr (some (.int r17)) M16)) Qx)))) ∧ (r8 = 0 → Qr (some (.int 0)) M7))) Qx)) Qx) ∧ (r2 = 0 → (∃ fs25, (M1).1 a0 = some (.inl (11, fs25))) ∧ kz_C G (d + 5) 0 0 mX12_failsAt [.ref a0, .int 1] M1 (fun v M22 => ∃ r23 : Int32, v = some (.int r23) ∧ (narrow .boolean (.int r23) = .int r23 ∧ Qr (some (.int r23)) M22)) Qx))) Qx) : kz_C G (d + 6) 0 0 mX12_readOffice [.ref a0] M Qr Qx := by
  refine kz_enter (n := 0) kmX12_readOffice.1 (Nat.le_of_ble_eq_true rfl) (ls := [(0, .ref a0)]) rfl ?_
  refine kz_aload_n (pc := 0) 0 (v := .ref a0) (i := 0) rfl rfl rfl dX12_readOffice_0 ?_
  refine kz_ldcwS (pc := 1) (j := 1046) (tx := "office") (List.mem_of_getElem? (i := 46) rfl) dX12_readOffice_1 ?_
  obtain ⟨⟨fs26, he⟩, h⟩ := h
  refine kz_callV (pc := 4) (μ' := mX12_isWord) (ci := 11) (q := (RX12, TX12, 32)) (b := a0) (d' := d + 5) (mc' := 0) (ms' := 0) (As := [.retAddr 1046]) (st := []) (c := 0) (sl := 0) kmX12_isWord kw_1521 (by omega) rfl (Nat.le_of_ble_eq_true rfl) he rfl rfl (Nat.le_refl _) (Nat.le_refl _) dX12_readOffice_4 (fun E M9 hx => kz_Tout rfl (Nat.le_refl _) (Nat.le_refl _) hx) (kz_Cmono (fun v M1 h => ?_) (fun _ _ h => h) h)
  obtain ⟨r2, rfl, h⟩ := h
  show kz_Z G (d + 6) 0 0 mX12_readOffice Qr Qx 7 [(0, .ref a0)] [.int r2] M1 0 0
  refine kz_if_ne (pc := 7) (tgt := 16) (by decide) dX12_readOffice_7 (fun hb => ?_) (fun hb => ?_)
  · replace h := h.1 hb
    refine kz_aload_n (pc := 16) 0 (v := .ref a0) (i := 0) rfl rfl rfl dX12_readOffice_16 ?_
    obtain ⟨⟨fs21, he⟩, h⟩ := h
    refine kz_callV (pc := 17) (μ' := mX12_advanceToken) (ci := 11) (q := (RX12, TX12, 32)) (b := a0) (d' := d + 5) (mc' := 0) (ms' := 0) (As := []) (st := []) (c := 0) (sl := 0) kmX12_advanceToken kw_1501 (by omega) rfl (Nat.le_of_ble_eq_true rfl) he rfl rfl (Nat.le_refl _) (Nat.le_refl _) dX12_readOffice_17 (fun E M9 hx => kz_Tout rfl (Nat.le_refl _) (Nat.le_refl _) hx) (kz_Cmono (fun v M4 h => ?_) (fun _ _ h => h) h)
    obtain ⟨rfl, h⟩ := h
    show kz_Z G (d + 6) 0 0 mX12_readOffice Qr Qx 20 [(0, .ref a0)] [] M4 0 0
    refine kz_aload_n (pc := 20) 0 (v := .ref a0) (i := 0) rfl rfl rfl dX12_readOffice_20 ?_
    refine kz_iconst (pc := 21) (v := 0) (by decide) dX12_readOffice_21 ?_
    refine kz_ldcwI (pc := 22) kw_1535 rfl dX12_readOffice_22 ?_
    obtain ⟨⟨fs20, he⟩, h⟩ := h
    refine kz_callV (pc := 25) (μ' := mX12_reads) (ci := 11) (q := (RX12, TX12, 32)) (b := a0) (d' := d + 5) (mc' := 0) (ms' := 0) (As := [.int 0, .int 99999]) (st := []) (c := 0) (sl := 0) kmX12_reads kw_1536 (by omega) rfl (Nat.le_of_ble_eq_true rfl) he rfl rfl (Nat.le_refl _) (Nat.le_refl _) dX12_readOffice_25 (fun E M9 hx => kz_Tout rfl (Nat.le_refl _) (Nat.le_refl _) hx) (kz_Cmono (fun v M7 h => ?_) (fun _ _ h => h) h)
    obtain ⟨r8, rfl, h⟩ := h
    show kz_Z G (d + 6) 0 0 mX12_readOffice Qr Qx 28 [(0, .ref a0)] [.int r8] M7 0 0
    refine kz_if_ne (pc := 28) (tgt := 33) (by decide) dX12_readOffice_28 (fun hb => ?_) (fun hb => ?_)
    · replace h := h.1 hb
      refine kz_aload_n (pc := 33) 0 (v := .ref a0) (i := 0) rfl rfl rfl dX12_readOffice_33 ?_
      obtain ⟨fs10, v11, hM, hv, h⟩ := h
      refine kz_getf (pc := 34) (k := 0) kcX12 hM hv (by decide) kw_1378 dX12_readOffice_34 ?_
      refine kz_iconst (pc := 37) (v := 3) (by decide) dX12_readOffice_37 ?_
      refine kz_aload_n (pc := 38) 0 (v := .ref a0) (i := 0) rfl rfl rfl dX12_readOffice_38 ?_
      obtain ⟨fs12, v13, hM, hv, h⟩ := h
      refine kz_getf (pc := 39) (k := 28) kcX12 hM hv (by decide) kw_1406 dX12_readOffice_39 ?_
      obtain ⟨n14, f15, hM, hi, h⟩ := h
      refine kz_iast (pc := 42) hM hi dX12_readOffice_42 ?_
      refine kz_aload_n (pc := 43) 0 (v := .ref a0) (i := 0) rfl rfl rfl dX12_readOffice_43 ?_
      obtain ⟨⟨fs19, he⟩, h⟩ := h
      refine kz_callV (pc := 44) (μ' := mX12_readEnd) (ci := 11) (q := (RX12, TX12, 32)) (b := a0) (d' := d + 5) (mc' := 0) (ms' := 0) (As := []) (st := []) (c := 0) (sl := 0) kmX12_readEnd kw_1544 (by omega) rfl (Nat.le_of_ble_eq_true rfl) he rfl rfl (Nat.le_refl _) (Nat.le_refl _) dX12_readOffice_44 (fun E M9 hx => kz_Tout rfl (Nat.le_refl _) (Nat.le_refl _) hx) (kz_Cmono (fun v M16 h => ?_) (fun _ _ h => h) h)
      obtain ⟨r17, rfl, h⟩ := h
      show kz_Z G (d + 6) 0 0 mX12_readOffice Qr Qx 47 [(0, .ref a0)] [.int r17] M16 0 0
      exact kz_zret (pc := 47) (ty := .boolean) rfl h.1 (Nat.le_refl _) (Nat.le_refl _) dX12_readOffice_47 h.2
    · replace h := h.2 hb
      refine kz_iconst (pc := 31) (v := 0) (by decide) dX12_readOffice_31 ?_
      exact kz_zret (pc := 32) (ty := .boolean) rfl (by decide) (Nat.le_refl _) (Nat.le_refl _) dX12_readOffice_32 h
  · replace h := h.2 hb
    refine kz_aload_n (pc := 10) 0 (v := .ref a0) (i := 0) rfl rfl rfl dX12_readOffice_10 ?_
    refine kz_iconst (pc := 11) (v := 1) (by decide) dX12_readOffice_11 ?_
    obtain ⟨⟨fs25, he⟩, h⟩ := h
    refine kz_callV (pc := 12) (μ' := mX12_failsAt) (ci := 11) (q := (RX12, TX12, 32)) (b := a0) (d' := d + 5) (mc' := 0) (ms' := 0) (As := [.int 1]) (st := []) (c := 0) (sl := 0) kmX12_failsAt kw_1531 (by omega) rfl (Nat.le_of_ble_eq_true rfl) he rfl rfl (Nat.le_refl _) (Nat.le_refl _) dX12_readOffice_12 (fun E M9 hx => kz_Tout rfl (Nat.le_refl _) (Nat.le_refl _) hx) (kz_Cmono (fun v M22 h => ?_) (fun _ _ h => h) h)
    obtain ⟨r23, rfl, h⟩ := h
    show kz_Z G (d + 6) 0 0 mX12_readOffice Qr Qx 15 [(0, .ref a0)] [.int r23] M22 0 0
    exact kz_zret (pc := 15) (ty := .boolean) rfl h.1 (Nat.le_refl _) (Nat.le_refl _) dX12_readOffice_15 h.2
theorem dX12_readText_0 : decode cX12_readText 0 = .ok (.aload_n 0, 1) := by decide +kernel
theorem dX12_readText_1 : decode cX12_readText 1 = .ok (.invokevirtual 294, 3) := by decide +kernel
theorem dX12_readText_4 : decode cX12_readText 4 = .ok (.ifCond .ne 5, 3) := by decide +kernel
theorem dX12_readText_7 : decode cX12_readText 7 = .ok (.iconst 0, 1) := by decide +kernel
theorem dX12_readText_8 : decode cX12_readText 8 = .ok (.ireturn, 1) := by decide +kernel
theorem dX12_readText_9 : decode cX12_readText 9 = .ok (.aload_n 0, 1) := by decide +kernel
theorem dX12_readText_10 : decode cX12_readText 10 = .ok (.getfield 196, 3) := by decide +kernel
theorem dX12_readText_13 : decode cX12_readText 13 = .ok (.ifCond .eq 19, 3) := by decide +kernel
theorem dX12_readText_16 : decode cX12_readText 16 = .ok (.aload_n 0, 1) := by decide +kernel
theorem dX12_readText_17 : decode cX12_readText 17 = .ok (.invokevirtual 297, 3) := by decide +kernel
theorem dX12_readText_20 : decode cX12_readText 20 = .ok (.ifCond .eq 10, 3) := by decide +kernel
theorem dX12_readText_23 : decode cX12_readText 23 = .ok (.aload_n 0, 1) := by decide +kernel
theorem dX12_readText_24 : decode cX12_readText 24 = .ok (.invokevirtual 291, 3) := by decide +kernel
theorem dX12_readText_27 : decode cX12_readText 27 = .ok (.ifCond .ne (-18), 3) := by decide +kernel
theorem dX12_readText_30 : decode cX12_readText 30 = .ok (.iconst 0, 1) := by decide +kernel
theorem dX12_readText_31 : decode cX12_readText 31 = .ok (.ireturn, 1) := by decide +kernel
theorem dX12_readText_32 : decode cX12_readText 32 = .ok (.aload_n 0, 1) := by decide +kernel
theorem dX12_readText_33 : decode cX12_readText 33 = .ok (.getfield 7, 3) := by decide +kernel
theorem dX12_readText_36 : decode cX12_readText 36 = .ok (.iconst 0, 1) := by decide +kernel
theorem dX12_readText_37 : decode cX12_readText 37 = .ok (.iaload, 1) := by decide +kernel
theorem dX12_readText_38 : decode cX12_readText 38 = .ok (.ifCond .gt 11, 3) := by decide +kernel
theorem dX12_readText_41 : decode cX12_readText 41 = .ok (.aload_n 0, 1) := by decide +kernel
theorem dX12_readText_42 : decode cX12_readText 42 = .ok (.iconst 4, 1) := by decide +kernel
theorem dX12_readText_43 : decode cX12_readText 43 = .ok (.invokevirtual 221, 3) := by decide +kernel
theorem dX12_readText_46 : decode cX12_readText 46 = .ok (.ifCond .eq 7, 3) := by decide +kernel
theorem dX12_readText_49 : decode cX12_readText 49 = .ok (.iconst 1, 1) := by decide +kernel
theorem dX12_readText_50 : decode cX12_readText 50 = .ok (.goto 4, 3) := by decide +kernel
theorem dX12_readText_53 : decode cX12_readText 53 = .ok (.iconst 0, 1) := by decide +kernel
theorem dX12_readText_54 : decode cX12_readText 54 = .ok (.ireturn, 1) := by decide +kernel
def zX12_readText_9 (G : kz_G) (d : Nat) (Qr : Option Value → kz_M → Prop) (Qx : String → kz_M → Prop) (x0 : Nat)  (M : kz_M) : Prop := kz_Z G (d + 9) 0 0 mX12_readText Qr Qx 9 [(0, .ref x0)] [] M 0 0
theorem rX12_readText_0 {G : kz_G} {d : Nat} {Qr : Option Value → kz_M → Prop} {Qx : String → kz_M → Prop} {a0 : Nat}  {M : kz_M} (h : (∃ fs4, (M).1 a0 = some (.inl (11, fs4))) ∧ kz_C G (d + 8) 0 0 mX12_readOffice [.ref a0] M (fun v M1 => ∃ r2 : Int32, v = some (.int r2) ∧ ((¬ r2 = 0 → zX12_readText_9 G d Qr Qx a0 M1) ∧ (r2 = 0 → Qr (some (.int 0)) M1))) Qx) : kz_C G (d + 9) 0 0 mX12_readText [.ref a0] M Qr Qx := by
  refine kz_enter (n := 0) kmX12_readText.1 (Nat.le_of_ble_eq_true rfl) (ls := [(0, .ref a0)]) rfl ?_
  refine kz_aload_n (pc := 0) 0 (v := .ref a0) (i := 0) rfl rfl rfl dX12_readText_0 ?_
  obtain ⟨⟨fs4, he⟩, h⟩ := h
  refine kz_callV (pc := 1) (μ' := mX12_readOffice) (ci := 11) (q := (RX12, TX12, 32)) (b := a0) (d' := d + 8) (mc' := 0) (ms' := 0) (As := []) (st := []) (c := 0) (sl := 0) kmX12_readOffice kw_1516 (by omega) rfl (Nat.le_of_ble_eq_true rfl) he rfl rfl (Nat.le_refl _) (Nat.le_refl _) dX12_readText_1 (fun E M9 hx => kz_Tout rfl (Nat.le_refl _) (Nat.le_refl _) hx) (kz_Cmono (fun v M1 h => ?_) (fun _ _ h => h) h)
  obtain ⟨r2, rfl, h⟩ := h
  show kz_Z G (d + 9) 0 0 mX12_readText Qr Qx 4 [(0, .ref a0)] [.int r2] M1 0 0
  refine kz_if_ne (pc := 4) (tgt := 9) (by decide) dX12_readText_4 (fun hb => ?_) (fun hb => ?_)
  · replace h := h.1 hb
    exact h
  · replace h := h.2 hb
    refine kz_iconst (pc := 7) (v := 0) (by decide) dX12_readText_7 ?_
    exact kz_zret (pc := 8) (ty := .boolean) rfl (by decide) (Nat.le_refl _) (Nat.le_refl _) dX12_readText_8 h
theorem rX12_readText_9 {G : kz_G} {d : Nat} {Qr : Option Value → kz_M → Prop} {Qx : String → kz_M → Prop} {x0 : Nat}  {M : kz_M} (h : ∃ fs1 v2, (M).1 x0 = some (.inl (11, fs1)) ∧ fs1[27]? = some (.int v2) ∧ ((v2 = 0 → ∃ fs3 v4, (M).1 x0 = some (.inl (11, fs3)) ∧ fs3[0]? = some (.ref v4) ∧ (∃ n5 f6, (M).1 v4 = some (.inr (.int, n5, .inl f6)) ∧ vp_in (0 : Int32) n5 ∧ ((0 < (f6 (0 : Int32).toNatClampNeg) → Qr (some (.int 1)) M) ∧ (¬ 0 < (f6 (0 : Int32).toNatClampNeg) → (∃ fs10, (M).1 x0 = some (.inl (11, fs10))) ∧ kz_C G (d + 8) 0 0 mX12_failsAt [.ref x0, .int 4] M (fun v M7 => ∃ r8 : Int32, v = some (.int r8) ∧ ((r8 = 0 → Qr (some (.int 0)) M7) ∧ (¬ r8 = 0 → Qr (some (.int 1)) M7))) Qx)))) ∧ (¬ v2 = 0 → (∃ fs18, (M).1 x0 = some (.inl (11, fs18))) ∧ kz_C G (d + 8) 0 0 mX12_readStatement [.ref x0] M (fun v M11 => ∃ r12 : Int32, v = some (.int r12) ∧ ((r12 = 0 → Qr (some (.int 0)) M11) ∧ (¬ r12 = 0 → (∃ fs17, (M11).1 x0 = some (.inl (11, fs17))) ∧ kz_C G (d + 8) 0 0 mX12_readEnd [.ref x0] M11 (fun v M14 => ∃ r15 : Int32, v = some (.int r15) ∧ ((¬ r15 = 0 → zX12_readText_9 G d Qr Qx x0 M14) ∧ (r15 = 0 → Qr (some (.int 0)) M14))) Qx))) Qx))) : zX12_readText_9 G d Qr Qx x0  M := by
  show kz_Z G (d + 9) 0 0 mX12_readText Qr Qx 9 [(0, .ref x0)] [] M 0 0
  refine kz_aload_n (pc := 9) 0 (v := .ref x0) (i := 0) rfl rfl rfl dX12_readText_9 ?_
  obtain ⟨fs1, v2, hM, hv, h⟩ := h
  refine kz_getf (pc := 10) (k := 27) kcX12 hM hv (by decide) kw_1405 dX12_readText_10 ?_
  refine kz_if_eq (pc := 13) (tgt := 32) (by decide) dX12_readText_13 (fun hb => ?_) (fun hb => ?_)
  · replace h := h.1 hb
    refine kz_aload_n (pc := 32) 0 (v := .ref x0) (i := 0) rfl rfl rfl dX12_readText_32 ?_
    obtain ⟨fs3, v4, hM, hv, h⟩ := h
    refine kz_getf (pc := 33) (k := 0) kcX12 hM hv (by decide) kw_1378 dX12_readText_33 ?_
    refine kz_iconst (pc := 36) (v := 0) (by decide) dX12_readText_36 ?_
    obtain ⟨n5, f6, hM, hi, h⟩ := h
    refine kz_iald (pc := 37) hM hi dX12_readText_37 ?_
    refine kz_if_gt (pc := 38) (tgt := 49) (by decide) dX12_readText_38 (fun hb => ?_) (fun hb => ?_)
    · replace h := h.1 hb
      refine kz_iconst (pc := 49) (v := 1) (by decide) dX12_readText_49 ?_
      refine kz_goto (pc := 50) (tgt := 54) (by decide) dX12_readText_50 ?_
      exact kz_zret (pc := 54) (ty := .boolean) rfl (by decide) (Nat.le_refl _) (Nat.le_refl _) dX12_readText_54 h
    · replace h := h.2 hb
      refine kz_aload_n (pc := 41) 0 (v := .ref x0) (i := 0) rfl rfl rfl dX12_readText_41 ?_
      refine kz_iconst (pc := 42) (v := 4) (by decide) dX12_readText_42 ?_
      obtain ⟨⟨fs10, he⟩, h⟩ := h
      refine kz_callV (pc := 43) (μ' := mX12_failsAt) (ci := 11) (q := (RX12, TX12, 32)) (b := x0) (d' := d + 8) (mc' := 0) (ms' := 0) (As := [.int 4]) (st := []) (c := 0) (sl := 0) kmX12_failsAt kw_1531 (by omega) rfl (Nat.le_of_ble_eq_true rfl) he rfl rfl (Nat.le_refl _) (Nat.le_refl _) dX12_readText_43 (fun E M9 hx => kz_Tout rfl (Nat.le_refl _) (Nat.le_refl _) hx) (kz_Cmono (fun v M7 h => ?_) (fun _ _ h => h) h)
      obtain ⟨r8, rfl, h⟩ := h
      show kz_Z G (d + 9) 0 0 mX12_readText Qr Qx 46 [(0, .ref x0)] [.int r8] M7 0 0
      refine kz_if_eq (pc := 46) (tgt := 53) (by decide) dX12_readText_46 (fun hb => ?_) (fun hb => ?_)
      · replace h := h.1 hb
        refine kz_iconst (pc := 53) (v := 0) (by decide) dX12_readText_53 ?_
        exact kz_zret (pc := 54) (ty := .boolean) rfl (by decide) (Nat.le_refl _) (Nat.le_refl _) dX12_readText_54 h
      · replace h := h.2 hb
        refine kz_iconst (pc := 49) (v := 1) (by decide) dX12_readText_49 ?_
        refine kz_goto (pc := 50) (tgt := 54) (by decide) dX12_readText_50 ?_
        exact kz_zret (pc := 54) (ty := .boolean) rfl (by decide) (Nat.le_refl _) (Nat.le_refl _) dX12_readText_54 h
  · replace h := h.2 hb
    refine kz_aload_n (pc := 16) 0 (v := .ref x0) (i := 0) rfl rfl rfl dX12_readText_16 ?_
    obtain ⟨⟨fs18, he⟩, h⟩ := h
    refine kz_callV (pc := 17) (μ' := mX12_readStatement) (ci := 11) (q := (RX12, TX12, 32)) (b := x0) (d' := d + 8) (mc' := 0) (ms' := 0) (As := []) (st := []) (c := 0) (sl := 0) kmX12_readStatement kw_1548 (by omega) rfl (Nat.le_of_ble_eq_true rfl) he rfl rfl (Nat.le_refl _) (Nat.le_refl _) dX12_readText_17 (fun E M9 hx => kz_Tout rfl (Nat.le_refl _) (Nat.le_refl _) hx) (kz_Cmono (fun v M11 h => ?_) (fun _ _ h => h) h)
    obtain ⟨r12, rfl, h⟩ := h
    show kz_Z G (d + 9) 0 0 mX12_readText Qr Qx 20 [(0, .ref x0)] [.int r12] M11 0 0
    refine kz_if_eq (pc := 20) (tgt := 30) (by decide) dX12_readText_20 (fun hb => ?_) (fun hb => ?_)
    · replace h := h.1 hb
      refine kz_iconst (pc := 30) (v := 0) (by decide) dX12_readText_30 ?_
      exact kz_zret (pc := 31) (ty := .boolean) rfl (by decide) (Nat.le_refl _) (Nat.le_refl _) dX12_readText_31 h
    · replace h := h.2 hb
      refine kz_aload_n (pc := 23) 0 (v := .ref x0) (i := 0) rfl rfl rfl dX12_readText_23 ?_
      obtain ⟨⟨fs17, he⟩, h⟩ := h
      refine kz_callV (pc := 24) (μ' := mX12_readEnd) (ci := 11) (q := (RX12, TX12, 32)) (b := x0) (d' := d + 8) (mc' := 0) (ms' := 0) (As := []) (st := []) (c := 0) (sl := 0) kmX12_readEnd kw_1544 (by omega) rfl (Nat.le_of_ble_eq_true rfl) he rfl rfl (Nat.le_refl _) (Nat.le_refl _) dX12_readText_24 (fun E M9 hx => kz_Tout rfl (Nat.le_refl _) (Nat.le_refl _) hx) (kz_Cmono (fun v M14 h => ?_) (fun _ _ h => h) h)
      obtain ⟨r15, rfl, h⟩ := h
      show kz_Z G (d + 9) 0 0 mX12_readText Qr Qx 27 [(0, .ref x0)] [.int r15] M14 0 0
      refine kz_if_ne (pc := 27) (tgt := 9) (by decide) dX12_readText_27 (fun hb => ?_) (fun hb => ?_)
      · replace h := h.1 hb
        exact h
      · replace h := h.2 hb
        refine kz_iconst (pc := 30) (v := 0) (by decide) dX12_readText_30 ?_
        exact kz_zret (pc := 31) (ty := .boolean) rfl (by decide) (Nat.le_refl _) (Nat.le_refl _) dX12_readText_31 h
theorem dX12_loadOffice_0 : decode cX12_loadOffice 0 = .ok (.aload_n 0, 1) := by decide +kernel
theorem dX12_loadOffice_1 : decode cX12_loadOffice 1 = .ok (.iconst 0, 1) := by decide +kernel
theorem dX12_loadOffice_2 : decode cX12_loadOffice 2 = .ok (.putfield 60, 3) := by decide +kernel
theorem dX12_loadOffice_5 : decode cX12_loadOffice 5 = .ok (.aload_n 0, 1) := by decide +kernel
theorem dX12_loadOffice_6 : decode cX12_loadOffice 6 = .ok (.getfield 7, 3) := by decide +kernel
theorem dX12_loadOffice_9 : decode cX12_loadOffice 9 = .ok (.iconst 0, 1) := by decide +kernel
theorem dX12_loadOffice_10 : decode cX12_loadOffice 10 = .ok (.aload_n 0, 1) := by decide +kernel
theorem dX12_loadOffice_11 : decode cX12_loadOffice 11 = .ok (.getfield 13, 3) := by decide +kernel
theorem dX12_loadOffice_14 : decode cX12_loadOffice 14 = .ok (.iconst 0, 1) := by decide +kernel
theorem dX12_loadOffice_15 : decode cX12_loadOffice 15 = .ok (.sipush 3813, 3) := by decide +kernel
theorem dX12_loadOffice_18 : decode cX12_loadOffice 18 = .ok (.invokestatic 81, 3) := by decide +kernel
theorem dX12_loadOffice_21 : decode cX12_loadOffice 21 = .ok (.aload_n 0, 1) := by decide +kernel
theorem dX12_loadOffice_22 : decode cX12_loadOffice 22 = .ok (.invokevirtual 57, 3) := by decide +kernel
theorem dX12_loadOffice_25 : decode cX12_loadOffice 25 = .ok (.aload_n 0, 1) := by decide +kernel
theorem dX12_loadOffice_26 : decode cX12_loadOffice 26 = .ok (.iconst 0, 1) := by decide +kernel
theorem dX12_loadOffice_27 : decode cX12_loadOffice 27 = .ok (.putfield 199, 3) := by decide +kernel
theorem dX12_loadOffice_30 : decode cX12_loadOffice 30 = .ok (.aload_n 0, 1) := by decide +kernel
theorem dX12_loadOffice_31 : decode cX12_loadOffice 31 = .ok (.iconst (-1), 1) := by decide +kernel
theorem dX12_loadOffice_32 : decode cX12_loadOffice 32 = .ok (.putfield 202, 3) := by decide +kernel
theorem dX12_loadOffice_35 : decode cX12_loadOffice 35 = .ok (.aload_n 0, 1) := by decide +kernel
theorem dX12_loadOffice_36 : decode cX12_loadOffice 36 = .ok (.iconst 0, 1) := by decide +kernel
theorem dX12_loadOffice_37 : decode cX12_loadOffice 37 = .ok (.putfield 184, 3) := by decide +kernel
theorem dX12_loadOffice_40 : decode cX12_loadOffice 40 = .ok (.aload_n 0, 1) := by decide +kernel
theorem dX12_loadOffice_41 : decode cX12_loadOffice 41 = .ok (.iconst 0, 1) := by decide +kernel
theorem dX12_loadOffice_42 : decode cX12_loadOffice 42 = .ok (.putfield 273, 3) := by decide +kernel
theorem dX12_loadOffice_45 : decode cX12_loadOffice 45 = .ok (.aload_n 0, 1) := by decide +kernel
theorem dX12_loadOffice_46 : decode cX12_loadOffice 46 = .ok (.invokevirtual 227, 3) := by decide +kernel
theorem dX12_loadOffice_49 : decode cX12_loadOffice 49 = .ok (.aload_n 0, 1) := by decide +kernel
theorem dX12_loadOffice_50 : decode cX12_loadOffice 50 = .ok (.invokevirtual 300, 3) := by decide +kernel
theorem dX12_loadOffice_53 : decode cX12_loadOffice 53 = .ok (.istore_n 1, 1) := by decide +kernel
theorem dX12_loadOffice_54 : decode cX12_loadOffice 54 = .ok (.aload_n 0, 1) := by decide +kernel
theorem dX12_loadOffice_55 : decode cX12_loadOffice 55 = .ok (.iconst 0, 1) := by decide +kernel
theorem dX12_loadOffice_56 : decode cX12_loadOffice 56 = .ok (.putfield 177, 3) := by decide +kernel
theorem dX12_loadOffice_59 : decode cX12_loadOffice 59 = .ok (.aload_n 0, 1) := by decide +kernel
theorem dX12_loadOffice_60 : decode cX12_loadOffice 60 = .ok (.aload_n 0, 1) := by decide +kernel
theorem dX12_loadOffice_61 : decode cX12_loadOffice 61 = .ok (.getfield 199, 3) := by decide +kernel
theorem dX12_loadOffice_64 : decode cX12_loadOffice 64 = .ok (.putfield 303, 3) := by decide +kernel
theorem dX12_loadOffice_67 : decode cX12_loadOffice 67 = .ok (.aload_n 0, 1) := by decide +kernel
theorem dX12_loadOffice_68 : decode cX12_loadOffice 68 = .ok (.aload_n 0, 1) := by decide +kernel
theorem dX12_loadOffice_69 : decode cX12_loadOffice 69 = .ok (.getfield 202, 3) := by decide +kernel
theorem dX12_loadOffice_72 : decode cX12_loadOffice 72 = .ok (.putfield 50, 3) := by decide +kernel
theorem dX12_loadOffice_75 : decode cX12_loadOffice 75 = .ok (.iload_n 1, 1) := by decide +kernel
theorem dX12_loadOffice_76 : decode cX12_loadOffice 76 = .ok (.ifCond .ne 21, 3) := by decide +kernel
theorem dX12_loadOffice_79 : decode cX12_loadOffice 79 = .ok (.aload_n 0, 1) := by decide +kernel
theorem dX12_loadOffice_80 : decode cX12_loadOffice 80 = .ok (.getfield 13, 3) := by decide +kernel
theorem dX12_loadOffice_83 : decode cX12_loadOffice 83 = .ok (.iconst 0, 1) := by decide +kernel
theorem dX12_loadOffice_84 : decode cX12_loadOffice 84 = .ok (.aload_n 0, 1) := by decide +kernel
theorem dX12_loadOffice_85 : decode cX12_loadOffice 85 = .ok (.getfield 7, 3) := by decide +kernel
theorem dX12_loadOffice_88 : decode cX12_loadOffice 88 = .ok (.iconst 0, 1) := by decide +kernel
theorem dX12_loadOffice_89 : decode cX12_loadOffice 89 = .ok (.sipush 3813, 3) := by decide +kernel
theorem dX12_loadOffice_92 : decode cX12_loadOffice 92 = .ok (.invokestatic 81, 3) := by decide +kernel
theorem dX12_loadOffice_95 : decode cX12_loadOffice 95 = .ok (.iconst (-1), 1) := by decide +kernel
theorem dX12_loadOffice_96 : decode cX12_loadOffice 96 = .ok (.ireturn, 1) := by decide +kernel
theorem dX12_loadOffice_97 : decode cX12_loadOffice 97 = .ok (.aload_n 0, 1) := by decide +kernel
theorem dX12_loadOffice_98 : decode cX12_loadOffice 98 = .ok (.iconst 0, 1) := by decide +kernel
theorem dX12_loadOffice_99 : decode cX12_loadOffice 99 = .ok (.putfield 78, 3) := by decide +kernel
theorem dX12_loadOffice_102 : decode cX12_loadOffice 102 = .ok (.aload_n 0, 1) := by decide +kernel
theorem dX12_loadOffice_103 : decode cX12_loadOffice 103 = .ok (.iconst 0, 1) := by decide +kernel
theorem dX12_loadOffice_104 : decode cX12_loadOffice 104 = .ok (.putfield 306, 3) := by decide +kernel
theorem dX12_loadOffice_107 : decode cX12_loadOffice 107 = .ok (.aload_n 0, 1) := by decide +kernel
theorem dX12_loadOffice_108 : decode cX12_loadOffice 108 = .ok (.getfield 7, 3) := by decide +kernel
theorem dX12_loadOffice_111 : decode cX12_loadOffice 111 = .ok (.iconst 0, 1) := by decide +kernel
theorem dX12_loadOffice_112 : decode cX12_loadOffice 112 = .ok (.iaload, 1) := by decide +kernel
theorem dX12_loadOffice_113 : decode cX12_loadOffice 113 = .ok (.ireturn, 1) := by decide +kernel
theorem rX12_loadOffice_0 {G : kz_G} {d : Nat} {Qr : Option Value → kz_M → Prop} {Qx : String → kz_M → Prop} {a0 : Nat}  {M : kz_M} (h : ∃ fs1, (M).1 a0 = some (.inl (11, fs1)) ∧ 9 < fs1.length ∧ (∃ fs2 v3, ((kz_up M a0 (.inl (11, fs1.set 9 (.int 0))))).1 a0 = some (.inl (11, fs2)) ∧ fs2[0]? = some (.ref v3) ∧ (∃ fs4 v5, ((kz_up M a0 (.inl (11, fs1.set 9 (.int 0))))).1 a0 = some (.inl (11, fs4)) ∧ fs4[1]? = some (.ref v5) ∧ (kz_C G (d + 9) 0 0 mX12_copies [.ref v3, .int 0, .ref v5, .int 0, .int 3813] (kz_up M a0 (.inl (11, fs1.set 9 (.int 0)))) (fun v M6 => v = none ∧ ((∃ fs47, (M6).1 a0 = some (.inl (11, fs47))) ∧ kz_C G (d + 9) 0 0 mX12_begins [.ref a0] M6 (fun v M9 => v = none ∧ (∃ fs12, (M9).1 a0 = some (.inl (11, fs12)) ∧ 22 < fs12.length ∧ (∃ fs13, ((kz_up M9 a0 (.inl (11, fs12.set 22 (.int 0))))).1 a0 = some (.inl (11, fs13)) ∧ 23 < fs13.length ∧ (∃ fs14, ((kz_up (kz_up M9 a0 (.inl (11, fs12.set 22 (.int 0)))) a0 (.inl (11, fs13.set 23 (.int ((-1))))))).1 a0 = some (.inl (11, fs14)) ∧ 24 < fs14.length ∧ (∃ fs15, ((kz_up (kz_up (kz_up M9 a0 (.inl (11, fs12.set 22 (.int 0)))) a0 (.inl (11, fs13.set 23 (.int ((-1)))))) a0 (.inl (11, fs14.set 24 (.int 0))))).1 a0 = some (.inl (11, fs15)) ∧ 29 < fs15.length ∧ (∀ M16, M16 = kz_up (kz_up (kz_up (kz_up M9 a0 (.inl (11, fs12.set 22 (.int 0)))) a0 (.inl (11, fs13.set 23 (.int ((-1)))))) a0 (.inl (11, fs14.set 24 (.int 0)))) a0 (.inl (11, fs15.set 29 (.int 0))) → (∃ fs46, (M16).1 a0 = some (.inl (11, fs46))) ∧ kz_C G (d + 9) 0 0 mX12_advanceToken [.ref a0] M16 (fun v M17 => v = none ∧ ((∃ fs45, (M17).1 a0 = some (.inl (11, fs45))) ∧ kz_C G (d + 9) 0 0 mX12_readText [.ref a0] M17 (fun v M20 => ∃ r21 : Int32, v = some (.int r21) ∧ (∃ fs23, (M20).1 a0 = some (.inl (11, fs23)) ∧ 19 < fs23.length ∧ (∃ fs24 v25, ((kz_up M20 a0 (.inl (11, fs23.set 19 (.int 0))))).1 a0 = some (.inl (11, fs24)) ∧ fs24[22]? = some (.int v25) ∧ (∃ fs26, ((kz_up M20 a0 (.inl (11, fs23.set 19 (.int 0))))).1 a0 = some (.inl (11, fs26)) ∧ 20 < fs26.length ∧ (∃ fs27 v28, ((kz_up (kz_up M20 a0 (.inl (11, fs23.set 19 (.int 0)))) a0 (.inl (11, fs26.set 20 (.int v25))))).1 a0 = some (.inl (11, fs27)) ∧ fs27[23]? = some (.int v28) ∧ (∃ fs29, ((kz_up (kz_up M20 a0 (.inl (11, fs23.set 19 (.int 0)))) a0 (.inl (11, fs26.set 20 (.int v25))))).1 a0 = some (.inl (11, fs29)) ∧ 21 < fs29.length ∧ ((¬ r21 = 0 → ∃ fs30, ((kz_up (kz_up (kz_up M20 a0 (.inl (11, fs23.set 19 (.int 0)))) a0 (.inl (11, fs26.set 20 (.int v25)))) a0 (.inl (11, fs29.set 21 (.int v28))))).1 a0 = some (.inl (11, fs30)) ∧ 7 < fs30.length ∧ (∀ M31, M31 = kz_up (kz_up (kz_up (kz_up M20 a0 (.inl (11, fs23.set 19 (.int 0)))) a0 (.inl (11, fs26.set 20 (.int v25)))) a0 (.inl (11, fs29.set 21 (.int v28)))) a0 (.inl (11, fs30.set 7 (.int 0))) → ∃ fs32, (M31).1 a0 = some (.inl (11, fs32)) ∧ 8 < fs32.length ∧ (∃ fs33 v34, ((kz_up M31 a0 (.inl (11, fs32.set 8 (.int 0))))).1 a0 = some (.inl (11, fs33)) ∧ fs33[0]? = some (.ref v34) ∧ (∃ n35 f36, ((kz_up M31 a0 (.inl (11, fs32.set 8 (.int 0))))).1 v34 = some (.inr (.int, n35, .inl f36)) ∧ vp_in (0 : Int32) n35 ∧ (Qr (some (.int (f36 (0 : Int32).toNatClampNeg))) (kz_up M31 a0 (.inl (11, fs32.set 8 (.int 0))))))))) ∧ (r21 = 0 → ∃ fs37 v38, ((kz_up (kz_up (kz_up M20 a0 (.inl (11, fs23.set 19 (.int 0)))) a0 (.inl (11, fs26.set 20 (.int v25)))) a0 (.inl (11, fs29.set 21 (.int v28))))).1 a0 = some (.inl (11, fs37)) ∧ fs37[1]? = some (.ref v38) ∧ (∃ fs39 v40, ((kz_up (kz_up (kz_up M20 a0 (.inl (11, fs23.set 19 (.int 0)))) a0 (.inl (11, fs26.set 20 (.int v25)))) a0 (.inl (11, fs29.set 21 (.int v28))))).1 a0 = some (.inl (11, fs39)) ∧ fs39[0]? = some (.ref v40) ∧ (kz_C G (d + 9) 0 0 mX12_copies [.ref v38, .int 0, .ref v40, .int 0, .int 3813] (kz_up (kz_up (kz_up M20 a0 (.inl (11, fs23.set 19 (.int 0)))) a0 (.inl (11, fs26.set 20 (.int v25)))) a0 (.inl (11, fs29.set 21 (.int v28)))) (fun v M41 => v = none ∧ (Qr (some (.int ((-1)))) M41)) Qx)))))))))) Qx)) Qx)))))) Qx)) Qx)))) : kz_C G (d + 10) 0 0 mX12_loadOffice [.ref a0] M Qr Qx := by
  refine kz_enter (n := 0) kmX12_loadOffice.1 (Nat.le_of_ble_eq_true rfl) (ls := [(0, .ref a0)]) rfl ?_
  refine kz_aload_n (pc := 0) 0 (v := .ref a0) (i := 0) rfl rfl rfl dX12_loadOffice_0 ?_
  refine kz_iconst (pc := 1) (v := 0) (by decide) dX12_loadOffice_1 ?_
  obtain ⟨fs1, hM, hlen, h⟩ := h
  refine kz_putf (pc := 2) (k := 9) kcX12 hM (by decide) hlen kw_1387 rfl rfl rfl dX12_loadOffice_2 ?_
  refine kz_aload_n (pc := 5) 0 (v := .ref a0) (i := 0) rfl rfl rfl dX12_loadOffice_5 ?_
  obtain ⟨fs2, v3, hM, hv, h⟩ := h
  refine kz_getf (pc := 6) (k := 0) kcX12 hM hv (by decide) kw_1378 dX12_loadOffice_6 ?_
  refine kz_iconst (pc := 9) (v := 0) (by decide) dX12_loadOffice_9 ?_
  refine kz_aload_n (pc := 10) 0 (v := .ref a0) (i := 0) rfl rfl rfl dX12_loadOffice_10 ?_
  obtain ⟨fs4, v5, hM, hv, h⟩ := h
  refine kz_getf (pc := 11) (k := 1) kcX12 hM hv (by decide) kw_1379 dX12_loadOffice_11 ?_
  refine kz_iconst (pc := 14) (v := 0) (by decide) dX12_loadOffice_14 ?_
  refine kz_sipush (pc := 15) (v := 3813) (by decide) dX12_loadOffice_15 ?_
  refine kz_callS (pc := 18) (μ' := mX12_copies) (d' := d + 9) (mc' := 0) (ms' := 0) (As := [.ref v3, .int 0, .ref v5, .int 0, .int 3813]) (st := []) (c := 0) (sl := 0) kmX12_copies kw_1498 (by omega) rfl (Nat.le_of_ble_eq_true rfl) (Nat.le_refl _) (Nat.le_refl _) dX12_loadOffice_18 (fun E M9 hx => kz_Tout rfl (Nat.le_refl _) (Nat.le_refl _) hx) (kz_Cmono (fun v M6 h => ?_) (fun _ _ h => h) h)
  obtain ⟨rfl, h⟩ := h
  show kz_Z G (d + 10) 0 0 mX12_loadOffice Qr Qx 21 [(0, .ref a0)] [] M6 0 0
  refine kz_aload_n (pc := 21) 0 (v := .ref a0) (i := 0) rfl rfl rfl dX12_loadOffice_21 ?_
  obtain ⟨⟨fs47, he⟩, h⟩ := h
  refine kz_callV (pc := 22) (μ' := mX12_begins) (ci := 11) (q := (RX12, TX12, 32)) (b := a0) (d' := d + 9) (mc' := 0) (ms' := 0) (As := []) (st := []) (c := 0) (sl := 0) kmX12_begins kw_1370 (by omega) rfl (Nat.le_of_ble_eq_true rfl) he rfl rfl (Nat.le_refl _) (Nat.le_refl _) dX12_loadOffice_22 (fun E M9 hx => kz_Tout rfl (Nat.le_refl _) (Nat.le_refl _) hx) (kz_Cmono (fun v M9 h => ?_) (fun _ _ h => h) h)
  obtain ⟨rfl, h⟩ := h
  show kz_Z G (d + 10) 0 0 mX12_loadOffice Qr Qx 25 [(0, .ref a0)] [] M9 0 0
  refine kz_aload_n (pc := 25) 0 (v := .ref a0) (i := 0) rfl rfl rfl dX12_loadOffice_25 ?_
  refine kz_iconst (pc := 26) (v := 0) (by decide) dX12_loadOffice_26 ?_
  obtain ⟨fs12, hM, hlen, h⟩ := h
  refine kz_putf (pc := 27) (k := 22) kcX12 hM (by decide) hlen kw_1400 rfl rfl rfl dX12_loadOffice_27 ?_
  refine kz_aload_n (pc := 30) 0 (v := .ref a0) (i := 0) rfl rfl rfl dX12_loadOffice_30 ?_
  refine kz_iconst (pc := 31) (v := (-1)) (by decide) dX12_loadOffice_31 ?_
  obtain ⟨fs13, hM, hlen, h⟩ := h
  refine kz_putf (pc := 32) (k := 23) kcX12 hM (by decide) hlen kw_1401 rfl rfl rfl dX12_loadOffice_32 ?_
  refine kz_aload_n (pc := 35) 0 (v := .ref a0) (i := 0) rfl rfl rfl dX12_loadOffice_35 ?_
  refine kz_iconst (pc := 36) (v := 0) (by decide) dX12_loadOffice_36 ?_
  obtain ⟨fs14, hM, hlen, h⟩ := h
  refine kz_putf (pc := 37) (k := 24) kcX12 hM (by decide) hlen kw_1402 rfl rfl rfl dX12_loadOffice_37 ?_
  refine kz_aload_n (pc := 40) 0 (v := .ref a0) (i := 0) rfl rfl rfl dX12_loadOffice_40 ?_
  refine kz_iconst (pc := 41) (v := 0) (by decide) dX12_loadOffice_41 ?_
  obtain ⟨fs15, hM, hlen, h⟩ := h
  refine kz_putf (pc := 42) (k := 29) kcX12 hM (by decide) hlen kw_1407 rfl rfl rfl dX12_loadOffice_42 ?_
  refine kz_nameM (fun M16 e9 => ?_)
  replace h := h M16 e9
  refine kz_aload_n (pc := 45) 0 (v := .ref a0) (i := 0) rfl rfl rfl dX12_loadOffice_45 ?_
  obtain ⟨⟨fs46, he⟩, h⟩ := h
  refine kz_callV (pc := 46) (μ' := mX12_advanceToken) (ci := 11) (q := (RX12, TX12, 32)) (b := a0) (d' := d + 9) (mc' := 0) (ms' := 0) (As := []) (st := []) (c := 0) (sl := 0) kmX12_advanceToken kw_1501 (by omega) rfl (Nat.le_of_ble_eq_true rfl) he rfl rfl (Nat.le_refl _) (Nat.le_refl _) dX12_loadOffice_46 (fun E M9 hx => kz_Tout rfl (Nat.le_refl _) (Nat.le_refl _) hx) (kz_Cmono (fun v M17 h => ?_) (fun _ _ h => h) h)
  obtain ⟨rfl, h⟩ := h
  show kz_Z G (d + 10) 0 0 mX12_loadOffice Qr Qx 49 [(0, .ref a0)] [] M17 0 0
  refine kz_aload_n (pc := 49) 0 (v := .ref a0) (i := 0) rfl rfl rfl dX12_loadOffice_49 ?_
  obtain ⟨⟨fs45, he⟩, h⟩ := h
  refine kz_callV (pc := 50) (μ' := mX12_readText) (ci := 11) (q := (RX12, TX12, 32)) (b := a0) (d' := d + 9) (mc' := 0) (ms' := 0) (As := []) (st := []) (c := 0) (sl := 0) kmX12_readText kw_1512 (by omega) rfl (Nat.le_of_ble_eq_true rfl) he rfl rfl (Nat.le_refl _) (Nat.le_refl _) dX12_loadOffice_50 (fun E M9 hx => kz_Tout rfl (Nat.le_refl _) (Nat.le_refl _) hx) (kz_Cmono (fun v M20 h => ?_) (fun _ _ h => h) h)
  obtain ⟨r21, rfl, h⟩ := h
  show kz_Z G (d + 10) 0 0 mX12_loadOffice Qr Qx 53 [(0, .ref a0)] [.int r21] M20 0 0
  refine kz_istore_n (pc := 53) (i := 1) (ls' := [(0, .ref a0)]) rfl (by decide) rfl dX12_loadOffice_53 ?_
  refine kz_aload_n (pc := 54) 1 (v := .ref a0) (i := 0) rfl rfl rfl dX12_loadOffice_54 ?_
  refine kz_iconst (pc := 55) (v := 0) (by decide) dX12_loadOffice_55 ?_
  obtain ⟨fs23, hM, hlen, h⟩ := h
  refine kz_putf (pc := 56) (k := 19) kcX12 hM (by decide) hlen kw_1397 rfl rfl rfl dX12_loadOffice_56 ?_
  refine kz_aload_n (pc := 59) 1 (v := .ref a0) (i := 0) rfl rfl rfl dX12_loadOffice_59 ?_
  refine kz_aload_n (pc := 60) 1 (v := .ref a0) (i := 0) rfl rfl rfl dX12_loadOffice_60 ?_
  obtain ⟨fs24, v25, hM, hv, h⟩ := h
  refine kz_getf (pc := 61) (k := 22) kcX12 hM hv (by decide) kw_1400 dX12_loadOffice_61 ?_
  obtain ⟨fs26, hM, hlen, h⟩ := h
  refine kz_putf (pc := 64) (k := 20) kcX12 hM (by decide) hlen kw_1398 rfl rfl rfl dX12_loadOffice_64 ?_
  refine kz_aload_n (pc := 67) 1 (v := .ref a0) (i := 0) rfl rfl rfl dX12_loadOffice_67 ?_
  refine kz_aload_n (pc := 68) 1 (v := .ref a0) (i := 0) rfl rfl rfl dX12_loadOffice_68 ?_
  obtain ⟨fs27, v28, hM, hv, h⟩ := h
  refine kz_getf (pc := 69) (k := 23) kcX12 hM hv (by decide) kw_1401 dX12_loadOffice_69 ?_
  obtain ⟨fs29, hM, hlen, h⟩ := h
  refine kz_putf (pc := 72) (k := 21) kcX12 hM (by decide) hlen kw_1399 rfl rfl rfl dX12_loadOffice_72 ?_
  refine kz_iload_n (pc := 75) 0 (i := 1) rfl rfl dX12_loadOffice_75 ?_
  refine kz_if_ne (pc := 76) (tgt := 97) (by decide) dX12_loadOffice_76 (fun hb => ?_) (fun hb => ?_)
  · replace h := h.1 hb
    refine kz_aload_n (pc := 97) 1 (v := .ref a0) (i := 0) rfl rfl rfl dX12_loadOffice_97 ?_
    refine kz_iconst (pc := 98) (v := 0) (by decide) dX12_loadOffice_98 ?_
    obtain ⟨fs30, hM, hlen, h⟩ := h
    refine kz_putf (pc := 99) (k := 7) kcX12 hM (by decide) hlen kw_1385 rfl rfl rfl dX12_loadOffice_99 ?_
    refine kz_nameM (fun M31 e9 => ?_)
    replace h := h M31 e9
    refine kz_aload_n (pc := 102) 1 (v := .ref a0) (i := 0) rfl rfl rfl dX12_loadOffice_102 ?_
    refine kz_iconst (pc := 103) (v := 0) (by decide) dX12_loadOffice_103 ?_
    obtain ⟨fs32, hM, hlen, h⟩ := h
    refine kz_putf (pc := 104) (k := 8) kcX12 hM (by decide) hlen kw_1386 rfl rfl rfl dX12_loadOffice_104 ?_
    refine kz_aload_n (pc := 107) 1 (v := .ref a0) (i := 0) rfl rfl rfl dX12_loadOffice_107 ?_
    obtain ⟨fs33, v34, hM, hv, h⟩ := h
    refine kz_getf (pc := 108) (k := 0) kcX12 hM hv (by decide) kw_1378 dX12_loadOffice_108 ?_
    refine kz_iconst (pc := 111) (v := 0) (by decide) dX12_loadOffice_111 ?_
    obtain ⟨n35, f36, hM, hi, h⟩ := h
    refine kz_iald (pc := 112) hM hi dX12_loadOffice_112 ?_
    exact kz_iret (pc := 113) rfl (Nat.le_refl _) (Nat.le_refl _) dX12_loadOffice_113 h
  · replace h := h.2 hb
    refine kz_aload_n (pc := 79) 1 (v := .ref a0) (i := 0) rfl rfl rfl dX12_loadOffice_79 ?_
    obtain ⟨fs37, v38, hM, hv, h⟩ := h
    refine kz_getf (pc := 80) (k := 1) kcX12 hM hv (by decide) kw_1379 dX12_loadOffice_80 ?_
    refine kz_iconst (pc := 83) (v := 0) (by decide) dX12_loadOffice_83 ?_
    refine kz_aload_n (pc := 84) 1 (v := .ref a0) (i := 0) rfl rfl rfl dX12_loadOffice_84 ?_
    obtain ⟨fs39, v40, hM, hv, h⟩ := h
    refine kz_getf (pc := 85) (k := 0) kcX12 hM hv (by decide) kw_1378 dX12_loadOffice_85 ?_
    refine kz_iconst (pc := 88) (v := 0) (by decide) dX12_loadOffice_88 ?_
    refine kz_sipush (pc := 89) (v := 3813) (by decide) dX12_loadOffice_89 ?_
    refine kz_callS (pc := 92) (μ' := mX12_copies) (d' := d + 9) (mc' := 0) (ms' := 0) (As := [.ref v38, .int 0, .ref v40, .int 0, .int 3813]) (st := []) (c := 0) (sl := 0) kmX12_copies kw_1498 (by omega) rfl (Nat.le_of_ble_eq_true rfl) (Nat.le_refl _) (Nat.le_refl _) dX12_loadOffice_92 (fun E M9 hx => kz_Tout rfl (Nat.le_refl _) (Nat.le_refl _) hx) (kz_Cmono (fun v M41 h => ?_) (fun _ _ h => h) h)
    obtain ⟨rfl, h⟩ := h
    show kz_Z G (d + 10) 0 0 mX12_loadOffice Qr Qx 95 [(1, .int r21), (0, .ref a0)] [] M41 0 0
    refine kz_iconst (pc := 95) (v := (-1)) (by decide) dX12_loadOffice_95 ?_
    exact kz_iret (pc := 96) rfl (Nat.le_refl _) (Nat.le_refl _) dX12_loadOffice_96 h
theorem dX12_errorCode_0 : decode cX12_errorCode 0 = .ok (.aload_n 0, 1) := by decide +kernel
theorem dX12_errorCode_1 : decode cX12_errorCode 1 = .ok (.iconst 0, 1) := by decide +kernel
theorem dX12_errorCode_2 : decode cX12_errorCode 2 = .ok (.putfield 60, 3) := by decide +kernel
theorem dX12_errorCode_5 : decode cX12_errorCode 5 = .ok (.aload_n 0, 1) := by decide +kernel
theorem dX12_errorCode_6 : decode cX12_errorCode 6 = .ok (.getfield 303, 3) := by decide +kernel
theorem dX12_errorCode_9 : decode cX12_errorCode 9 = .ok (.ireturn, 1) := by decide +kernel
theorem rX12_errorCode_0 {G : kz_G} {d : Nat} {Qr : Option Value → kz_M → Prop} {Qx : String → kz_M → Prop} {a0 : Nat}  {M : kz_M} (h : ∃ fs1, (M).1 a0 = some (.inl (11, fs1)) ∧ 9 < fs1.length ∧ (∃ fs2 v3, ((kz_up M a0 (.inl (11, fs1.set 9 (.int 0))))).1 a0 = some (.inl (11, fs2)) ∧ fs2[20]? = some (.int v3) ∧ (Qr (some (.int v3)) (kz_up M a0 (.inl (11, fs1.set 9 (.int 0))))))) : kz_C G d 0 0 mX12_errorCode [.ref a0] M Qr Qx := by
  refine kz_enter (n := 0) kmX12_errorCode.1 (Nat.le_of_ble_eq_true rfl) (ls := [(0, .ref a0)]) rfl ?_
  refine kz_aload_n (pc := 0) 0 (v := .ref a0) (i := 0) rfl rfl rfl dX12_errorCode_0 ?_
  refine kz_iconst (pc := 1) (v := 0) (by decide) dX12_errorCode_1 ?_
  obtain ⟨fs1, hM, hlen, h⟩ := h
  refine kz_putf (pc := 2) (k := 9) kcX12 hM (by decide) hlen kw_1387 rfl rfl rfl dX12_errorCode_2 ?_
  refine kz_aload_n (pc := 5) 0 (v := .ref a0) (i := 0) rfl rfl rfl dX12_errorCode_5 ?_
  obtain ⟨fs2, v3, hM, hv, h⟩ := h
  refine kz_getf (pc := 6) (k := 20) kcX12 hM hv (by decide) kw_1398 dX12_errorCode_6 ?_
  exact kz_iret (pc := 9) rfl (Nat.le_refl _) (Nat.le_refl _) dX12_errorCode_9 h
theorem dX12_errorOffset_0 : decode cX12_errorOffset 0 = .ok (.aload_n 0, 1) := by decide +kernel
theorem dX12_errorOffset_1 : decode cX12_errorOffset 1 = .ok (.iconst 0, 1) := by decide +kernel
theorem dX12_errorOffset_2 : decode cX12_errorOffset 2 = .ok (.putfield 60, 3) := by decide +kernel
theorem dX12_errorOffset_5 : decode cX12_errorOffset 5 = .ok (.aload_n 0, 1) := by decide +kernel
theorem dX12_errorOffset_6 : decode cX12_errorOffset 6 = .ok (.getfield 50, 3) := by decide +kernel
theorem dX12_errorOffset_9 : decode cX12_errorOffset 9 = .ok (.ireturn, 1) := by decide +kernel
theorem rX12_errorOffset_0 {G : kz_G} {d : Nat} {Qr : Option Value → kz_M → Prop} {Qx : String → kz_M → Prop} {a0 : Nat}  {M : kz_M} (h : ∃ fs1, (M).1 a0 = some (.inl (11, fs1)) ∧ 9 < fs1.length ∧ (∃ fs2 v3, ((kz_up M a0 (.inl (11, fs1.set 9 (.int 0))))).1 a0 = some (.inl (11, fs2)) ∧ fs2[21]? = some (.int v3) ∧ (Qr (some (.int v3)) (kz_up M a0 (.inl (11, fs1.set 9 (.int 0))))))) : kz_C G d 0 0 mX12_errorOffset [.ref a0] M Qr Qx := by
  refine kz_enter (n := 0) kmX12_errorOffset.1 (Nat.le_of_ble_eq_true rfl) (ls := [(0, .ref a0)]) rfl ?_
  refine kz_aload_n (pc := 0) 0 (v := .ref a0) (i := 0) rfl rfl rfl dX12_errorOffset_0 ?_
  refine kz_iconst (pc := 1) (v := 0) (by decide) dX12_errorOffset_1 ?_
  obtain ⟨fs1, hM, hlen, h⟩ := h
  refine kz_putf (pc := 2) (k := 9) kcX12 hM (by decide) hlen kw_1387 rfl rfl rfl dX12_errorOffset_2 ?_
  refine kz_aload_n (pc := 5) 0 (v := .ref a0) (i := 0) rfl rfl rfl dX12_errorOffset_5 ?_
  obtain ⟨fs2, v3, hM, hv, h⟩ := h
  refine kz_getf (pc := 6) (k := 21) kcX12 hM hv (by decide) kw_1399 dX12_errorOffset_6 ?_
  exact kz_iret (pc := 9) rfl (Nat.le_refl _) (Nat.le_refl _) dX12_errorOffset_9 h
