/-! The rules of 13.rwork: printed by program (wip/whole/rules.py) -/
theorem dX5_init_0 : decode cX5_init 0 = .ok (.aload_n 0, 1) := by decide +kernel
theorem dX5_init_1 : decode cX5_init 1 = .ok (.invokespecial 3, 3) := by decide +kernel
theorem dX5_init_4 : decode cX5_init 4 = .ok (.aload_n 0, 1) := by decide +kernel
theorem dX5_init_5 : decode cX5_init 5 = .ok (.sipush 780, 3) := by decide +kernel
theorem dX5_init_8 : decode cX5_init 8 = .ok (.anewarray 9, 3) := by decide +kernel
theorem dX5_init_11 : decode cX5_init 11 = .ok (.putfield 11, 3) := by decide +kernel
theorem dX5_init_14 : decode cX5_init 14 = .ok (.return_, 1) := by decide +kernel
theorem rX5_init_0 {G : kz_G} {d : Nat} {mc ms : Nat} {Qr : Option Value → kz_M → Prop} {Qx : String → kz_M → Prop} {a0 : Nat}  {M : kz_M} (h : ∃ N1, ¬ (780 : Int32) < 0 ∧ (780 : Int32).toNatClampNeg = N1 ∧ N1 ≤ 60000000 ∧ 0 + 1 ≤ mc ∧ 0 + N1 ≤ ms ∧ (∃ fs3, ((kz_nw M (.inr (.object "LineOffice$Line", N1, .inr (.inr (.inr (.inr (fun _ => none)))))))).1 a0 = some (.inl (5, fs3)) ∧ 0 < fs3.length ∧ (Qr none (kz_up (kz_nw M (.inr (.object "LineOffice$Line", N1, .inr (.inr (.inr (.inr (fun _ => none))))))) a0 (.inl (5, fs3.set 0 (.ref ((M).2)))))))) : kz_C G (d + 1) mc ms mX5_init [.ref a0] M Qr Qx := by
  refine kz_enter (n := 0) kmX5_init.1 (Nat.le_of_ble_eq_true rfl) (ls := [(0, .ref a0)]) rfl ?_
  refine kz_aload_n (pc := 0) 0 (v := .ref a0) (i := 0) rfl rfl rfl dX5_init_0 ?_
  refine kz_objInit (pc := 1) kw_213 kw_43 kw_44 (by omega) (Nat.le_of_ble_eq_true rfl) dX5_init_1 ?_
  refine kz_aload_n (pc := 4) 0 (v := .ref a0) (i := 0) rfl rfl rfl dX5_init_4 ?_
  refine kz_sipush (pc := 5) (v := 780) (by decide) dX5_init_5 ?_
  obtain ⟨N1, hn, hN, hb8, hc2, hs2, h⟩ := h
  refine kz_anew (pc := 8) (C := "LineOffice$Line") N1 kw_214 kw_215 hn hN hb8 hc2 hs2 dX5_init_8 ?_
  obtain ⟨fs3, hM, hlen, h⟩ := h
  refine kz_putF (pc := 11) (k := 0) kcX5 hM (by decide) hlen rfl rfl kw_216 rfl rfl rfl dX5_init_11 ?_
  exact kz_vret (pc := 14) rfl hc2 hs2 dX5_init_14 h
theorem dX5_forget_0 : decode cX5_forget 0 = .ok (.aload_n 0, 1) := by decide +kernel
theorem dX5_forget_1 : decode cX5_forget 1 = .ok (.iconst 0, 1) := by decide +kernel
theorem dX5_forget_2 : decode cX5_forget 2 = .ok (.putfield 17, 3) := by decide +kernel
theorem dX5_forget_5 : decode cX5_forget 5 = .ok (.return_, 1) := by decide +kernel
theorem rX5_forget_0 {G : kz_G} {d : Nat} {Qr : Option Value → kz_M → Prop} {Qx : String → kz_M → Prop} {a0 : Nat}  {M : kz_M} (h : ∃ fs1, (M).1 a0 = some (.inl (5, fs1)) ∧ 1 < fs1.length ∧ (Qr none (kz_up M a0 (.inl (5, fs1.set 1 (.int 0)))))) : kz_C G d 0 0 mX5_forget [.ref a0] M Qr Qx := by
  refine kz_enter (n := 0) kmX5_forget.1 (Nat.le_of_ble_eq_true rfl) (ls := [(0, .ref a0)]) rfl ?_
  refine kz_aload_n (pc := 0) 0 (v := .ref a0) (i := 0) rfl rfl rfl dX5_forget_0 ?_
  refine kz_iconst (pc := 1) (v := 0) (by decide) dX5_forget_1 ?_
  obtain ⟨fs1, hM, hlen, h⟩ := h
  refine kz_putf (pc := 2) (k := 1) kcX5 hM (by decide) hlen kw_217 rfl rfl rfl dX5_forget_2 ?_
  exact kz_vret (pc := 5) rfl (Nat.le_refl _) (Nat.le_refl _) dX5_forget_5 h
theorem dX5_addIfItCounts_0 : decode cX5_addIfItCounts 0 = .ok (.aload_n 1, 1) := by decide +kernel
theorem dX5_addIfItCounts_1 : decode cX5_addIfItCounts 1 = .ok (.invokevirtual 21, 3) := by decide +kernel
theorem dX5_addIfItCounts_4 : decode cX5_addIfItCounts 4 = .ok (.ifCond .eq 42, 3) := by decide +kernel
theorem dX5_addIfItCounts_7 : decode cX5_addIfItCounts 7 = .ok (.aload_n 0, 1) := by decide +kernel
theorem dX5_addIfItCounts_8 : decode cX5_addIfItCounts 8 = .ok (.getfield 17, 3) := by decide +kernel
theorem dX5_addIfItCounts_11 : decode cX5_addIfItCounts 11 = .ok (.ifCond .lt 35, 3) := by decide +kernel
theorem dX5_addIfItCounts_14 : decode cX5_addIfItCounts 14 = .ok (.aload_n 0, 1) := by decide +kernel
theorem dX5_addIfItCounts_15 : decode cX5_addIfItCounts 15 = .ok (.getfield 17, 3) := by decide +kernel
theorem dX5_addIfItCounts_18 : decode cX5_addIfItCounts 18 = .ok (.aload_n 0, 1) := by decide +kernel
theorem dX5_addIfItCounts_19 : decode cX5_addIfItCounts 19 = .ok (.getfield 11, 3) := by decide +kernel
theorem dX5_addIfItCounts_22 : decode cX5_addIfItCounts 22 = .ok (.arraylength, 1) := by decide +kernel
theorem dX5_addIfItCounts_23 : decode cX5_addIfItCounts 23 = .ok (.if_icmp .ge 23, 3) := by decide +kernel
theorem dX5_addIfItCounts_26 : decode cX5_addIfItCounts 26 = .ok (.aload_n 0, 1) := by decide +kernel
theorem dX5_addIfItCounts_27 : decode cX5_addIfItCounts 27 = .ok (.getfield 11, 3) := by decide +kernel
theorem dX5_addIfItCounts_30 : decode cX5_addIfItCounts 30 = .ok (.aload_n 0, 1) := by decide +kernel
theorem dX5_addIfItCounts_31 : decode cX5_addIfItCounts 31 = .ok (.getfield 17, 3) := by decide +kernel
theorem dX5_addIfItCounts_34 : decode cX5_addIfItCounts 34 = .ok (.aload_n 1, 1) := by decide +kernel
theorem dX5_addIfItCounts_35 : decode cX5_addIfItCounts 35 = .ok (.aastore, 1) := by decide +kernel
theorem dX5_addIfItCounts_36 : decode cX5_addIfItCounts 36 = .ok (.aload_n 0, 1) := by decide +kernel
theorem dX5_addIfItCounts_37 : decode cX5_addIfItCounts 37 = .ok (.dup, 1) := by decide +kernel
theorem dX5_addIfItCounts_38 : decode cX5_addIfItCounts 38 = .ok (.getfield 17, 3) := by decide +kernel
theorem dX5_addIfItCounts_41 : decode cX5_addIfItCounts 41 = .ok (.iconst 1, 1) := by decide +kernel
theorem dX5_addIfItCounts_42 : decode cX5_addIfItCounts 42 = .ok (.iadd, 1) := by decide +kernel
theorem dX5_addIfItCounts_43 : decode cX5_addIfItCounts 43 = .ok (.putfield 17, 3) := by decide +kernel
theorem dX5_addIfItCounts_46 : decode cX5_addIfItCounts 46 = .ok (.return_, 1) := by decide +kernel
theorem rX5_addIfItCounts_0 {G : kz_G} {d : Nat} {Qr : Option Value → kz_M → Prop} {Qx : String → kz_M → Prop} {a0 : Nat} {p1 : Nat}  {M : kz_M} (h : (∃ fs23, (M).1 p1 = some (.inl (3, fs23))) ∧ kz_C G (d + 0) 0 0 mX3_counts [.ref p1] M (fun v M1 => ∃ r2 : Int32, v = some (.int r2) ∧ ((r2 = 0 → Qr none M1) ∧ (¬ r2 = 0 → ∃ fs4 v5, (M1).1 a0 = some (.inl (5, fs4)) ∧ fs4[1]? = some (.int v5) ∧ ((v5 < 0 → Qr none M1) ∧ (¬ v5 < 0 → ∃ fs6 v7, (M1).1 a0 = some (.inl (5, fs6)) ∧ fs6[1]? = some (.int v7) ∧ (∃ fs8 v9, (M1).1 a0 = some (.inl (5, fs8)) ∧ fs8[0]? = some (.ref v9) ∧ (∃ ty10 A11, (M1).1 v9 = some (.inr (ty10, A11)) ∧ (((Int32.ofNat A11.1) ≤ v7 → Qr none M1) ∧ (¬ (Int32.ofNat A11.1) ≤ v7 → ∃ fs12 v13, (M1).1 a0 = some (.inl (5, fs12)) ∧ fs12[0]? = some (.ref v13) ∧ (∃ fs14 v15, (M1).1 a0 = some (.inl (5, fs14)) ∧ fs14[1]? = some (.int v15) ∧ (∃ n16 f17 vs18, (M1).1 v13 = some (.inr (.object "LineOffice$Line", n16, .inr (.inr (.inr (.inr f17))))) ∧ (M1).1 p1 = some (.inl (3, vs18)) ∧ vp_in v15 n16 ∧ (∃ fs19 v20, ((kz_up M1 v13 (.inr (.object "LineOffice$Line", n16, .inr (.inr (.inr (.inr (va_up f17 (v15 : Int32).toNatClampNeg (some p1))))))))).1 a0 = some (.inl (5, fs19)) ∧ fs19[1]? = some (.int v20) ∧ (∃ fs21, ((kz_up M1 v13 (.inr (.object "LineOffice$Line", n16, .inr (.inr (.inr (.inr (va_up f17 (v15 : Int32).toNatClampNeg (some p1))))))))).1 a0 = some (.inl (5, fs21)) ∧ 1 < fs21.length ∧ (∀ M22, M22 = kz_up (kz_up M1 v13 (.inr (.object "LineOffice$Line", n16, .inr (.inr (.inr (.inr (va_up f17 (v15 : Int32).toNatClampNeg (some p1)))))))) a0 (.inl (5, fs21.set 1 (.int (v20 + 1)))) → Qr none M22)))))))))))))) Qx) : kz_C G (d + 1) 0 0 mX5_addIfItCounts [.ref a0, .ref p1] M Qr Qx := by
  refine kz_enter (n := 1) kmX5_addIfItCounts.1 (Nat.le_of_ble_eq_true rfl) (ls := [(0, .ref a0), (1, .ref p1)]) rfl ?_
  refine kz_aload_n (pc := 0) 1 (v := .ref p1) (i := 1) rfl rfl rfl dX5_addIfItCounts_0 ?_
  obtain ⟨⟨fs23, he⟩, h⟩ := h
  refine kz_callV (pc := 1) (μ' := mX3_counts) (ci := 3) (q := (RX3, TX3, 7)) (b := p1) (d' := d + 0) (mc' := 0) (ms' := 0) (As := []) (st := []) (c := 0) (sl := 0) kmX3_counts kw_888 (by omega) rfl (Nat.le_of_ble_eq_true rfl) he rfl rfl (Nat.le_refl _) (Nat.le_refl _) dX5_addIfItCounts_1 (fun E M9 hx => kz_Tout rfl (Nat.le_refl _) (Nat.le_refl _) hx) (kz_Cmono (fun v M1 h => ?_) (fun _ _ h => h) h)
  obtain ⟨r2, rfl, h⟩ := h
  show kz_Z G (d + 1) 0 0 mX5_addIfItCounts Qr Qx 4 [(0, .ref a0), (1, .ref p1)] [.int r2] M1 0 0
  refine kz_if_eq (pc := 4) (tgt := 46) (by decide) dX5_addIfItCounts_4 (fun hb => ?_) (fun hb => ?_)
  · replace h := h.1 hb
    exact kz_vret (pc := 46) rfl (Nat.le_refl _) (Nat.le_refl _) dX5_addIfItCounts_46 h
  · replace h := h.2 hb
    refine kz_aload_n (pc := 7) 0 (v := .ref a0) (i := 0) rfl rfl rfl dX5_addIfItCounts_7 ?_
    obtain ⟨fs4, v5, hM, hv, h⟩ := h
    refine kz_getf (pc := 8) (k := 1) kcX5 hM hv (by decide) kw_217 dX5_addIfItCounts_8 ?_
    refine kz_if_lt (pc := 11) (tgt := 46) (by decide) dX5_addIfItCounts_11 (fun hb => ?_) (fun hb => ?_)
    · replace h := h.1 hb
      exact kz_vret (pc := 46) rfl (Nat.le_refl _) (Nat.le_refl _) dX5_addIfItCounts_46 h
    · replace h := h.2 hb
      refine kz_aload_n (pc := 14) 0 (v := .ref a0) (i := 0) rfl rfl rfl dX5_addIfItCounts_14 ?_
      obtain ⟨fs6, v7, hM, hv, h⟩ := h
      refine kz_getf (pc := 15) (k := 1) kcX5 hM hv (by decide) kw_217 dX5_addIfItCounts_15 ?_
      refine kz_aload_n (pc := 18) 0 (v := .ref a0) (i := 0) rfl rfl rfl dX5_addIfItCounts_18 ?_
      obtain ⟨fs8, v9, hM, hv, h⟩ := h
      refine kz_getf (pc := 19) (k := 0) kcX5 hM hv (by decide) kw_216 dX5_addIfItCounts_19 ?_
      obtain ⟨ty10, A11, hM, h⟩ := h
      refine kz_alen (pc := 22) hM rfl dX5_addIfItCounts_22 ?_
      refine kz_icmp_ge (pc := 23) (tgt := 46) (by decide) dX5_addIfItCounts_23 (fun hb => ?_) (fun hb => ?_)
      · replace h := h.1 hb
        exact kz_vret (pc := 46) rfl (Nat.le_refl _) (Nat.le_refl _) dX5_addIfItCounts_46 h
      · replace h := h.2 hb
        refine kz_aload_n (pc := 26) 0 (v := .ref a0) (i := 0) rfl rfl rfl dX5_addIfItCounts_26 ?_
        obtain ⟨fs12, v13, hM, hv, h⟩ := h
        refine kz_getf (pc := 27) (k := 0) kcX5 hM hv (by decide) kw_216 dX5_addIfItCounts_27 ?_
        refine kz_aload_n (pc := 30) 0 (v := .ref a0) (i := 0) rfl rfl rfl dX5_addIfItCounts_30 ?_
        obtain ⟨fs14, v15, hM, hv, h⟩ := h
        refine kz_getf (pc := 31) (k := 1) kcX5 hM hv (by decide) kw_217 dX5_addIfItCounts_31 ?_
        refine kz_aload_n (pc := 34) 1 (v := .ref p1) (i := 1) rfl rfl rfl dX5_addIfItCounts_34 ?_
        obtain ⟨n16, f17, vs18, hM, hx, hi, h⟩ := h
        refine kz_aast (pc := 35) (ci := 3) (r := (RX3, TX3, 7)) rfl hM hx hi dX5_addIfItCounts_35 ?_
        refine kz_aload_n (pc := 36) 0 (v := .ref a0) (i := 0) rfl rfl rfl dX5_addIfItCounts_36 ?_
        refine kz_dup (pc := 37) rfl dX5_addIfItCounts_37 ?_
        obtain ⟨fs19, v20, hM, hv, h⟩ := h
        refine kz_getf (pc := 38) (k := 1) kcX5 hM hv (by decide) kw_217 dX5_addIfItCounts_38 ?_
        refine kz_iconst (pc := 41) (v := 1) (by decide) dX5_addIfItCounts_41 ?_
        refine kz_iadd (pc := 42) dX5_addIfItCounts_42 ?_
        obtain ⟨fs21, hM, hlen, h⟩ := h
        refine kz_putf (pc := 43) (k := 1) kcX5 hM (by decide) hlen kw_217 rfl rfl rfl dX5_addIfItCounts_43 ?_
        refine kz_nameM (fun M22 e9 => ?_)
        replace h := h M22 e9
        exact kz_vret (pc := 46) rfl (Nat.le_refl _) (Nat.le_refl _) dX5_addIfItCounts_46 h
theorem dX5_reasonAgainst_0 : decode cX5_reasonAgainst 0 = .ok (.aload_n 0, 1) := by decide +kernel
theorem dX5_reasonAgainst_1 : decode cX5_reasonAgainst 1 = .ok (.aload_n 1, 1) := by decide +kernel
theorem dX5_reasonAgainst_2 : decode cX5_reasonAgainst 2 = .ok (.invokevirtual 25, 3) := by decide +kernel
theorem dX5_reasonAgainst_5 : decode cX5_reasonAgainst 5 = .ok (.ifCond .eq 5, 3) := by decide +kernel
theorem dX5_reasonAgainst_8 : decode cX5_reasonAgainst 8 = .ok (.iconst 1, 1) := by decide +kernel
theorem dX5_reasonAgainst_9 : decode cX5_reasonAgainst 9 = .ok (.ireturn, 1) := by decide +kernel
theorem dX5_reasonAgainst_10 : decode cX5_reasonAgainst 10 = .ok (.aload_n 1, 1) := by decide +kernel
theorem dX5_reasonAgainst_11 : decode cX5_reasonAgainst 11 = .ok (.iload_n 2, 1) := by decide +kernel
theorem dX5_reasonAgainst_12 : decode cX5_reasonAgainst 12 = .ok (.invokevirtual 29, 3) := by decide +kernel
theorem dX5_reasonAgainst_15 : decode cX5_reasonAgainst 15 = .ok (.ifCond .eq 5, 3) := by decide +kernel
theorem dX5_reasonAgainst_18 : decode cX5_reasonAgainst 18 = .ok (.iconst 2, 1) := by decide +kernel
theorem dX5_reasonAgainst_19 : decode cX5_reasonAgainst 19 = .ok (.ireturn, 1) := by decide +kernel
theorem dX5_reasonAgainst_20 : decode cX5_reasonAgainst 20 = .ok (.aload_n 0, 1) := by decide +kernel
theorem dX5_reasonAgainst_21 : decode cX5_reasonAgainst 21 = .ok (.aload_n 1, 1) := by decide +kernel
theorem dX5_reasonAgainst_22 : decode cX5_reasonAgainst 22 = .ok (.iload_n 3, 1) := by decide +kernel
theorem dX5_reasonAgainst_23 : decode cX5_reasonAgainst 23 = .ok (.invokevirtual 33, 3) := by decide +kernel
theorem dX5_reasonAgainst_26 : decode cX5_reasonAgainst 26 = .ok (.ifCond .eq 7, 3) := by decide +kernel
theorem dX5_reasonAgainst_29 : decode cX5_reasonAgainst 29 = .ok (.iconst 3, 1) := by decide +kernel
theorem dX5_reasonAgainst_30 : decode cX5_reasonAgainst 30 = .ok (.goto 4, 3) := by decide +kernel
theorem dX5_reasonAgainst_33 : decode cX5_reasonAgainst 33 = .ok (.iconst 0, 1) := by decide +kernel
theorem dX5_reasonAgainst_34 : decode cX5_reasonAgainst 34 = .ok (.ireturn, 1) := by decide +kernel
theorem rX5_reasonAgainst_0 {G : kz_G} {d : Nat} {Qr : Option Value → kz_M → Prop} {Qx : String → kz_M → Prop} {a0 : Nat} {p1 : Nat} {p2 : Int32} {p3 : Int32}  {M : kz_M} (h : (∃ fs12, (M).1 a0 = some (.inl (5, fs12))) ∧ kz_C G (d + 4) 0 0 mX5_hasLike [.ref a0, .ref p1] M (fun v M1 => ∃ r2 : Int32, v = some (.int r2) ∧ ((r2 = 0 → (∃ fs11, (M1).1 p1 = some (.inl (3, fs11))) ∧ kz_C G (d + 4) 0 0 mX3_isStuffed [.ref p1, .int p2] M1 (fun v M4 => ∃ r5 : Int32, v = some (.int r5) ∧ ((r5 = 0 → (∃ fs10, (M4).1 a0 = some (.inl (5, fs10))) ∧ kz_C G (d + 4) 0 0 mX5_isWorn [.ref a0, .ref p1, .int p3] M4 (fun v M7 => ∃ r8 : Int32, v = some (.int r8) ∧ ((r8 = 0 → Qr (some (.int 0)) M7) ∧ (¬ r8 = 0 → Qr (some (.int 3)) M7))) Qx) ∧ (¬ r5 = 0 → Qr (some (.int 2)) M4))) Qx) ∧ (¬ r2 = 0 → Qr (some (.int 1)) M1))) Qx) : kz_C G (d + 5) 0 0 mX5_reasonAgainst [.ref a0, .ref p1, .int p2, .int p3] M Qr Qx := by
  refine kz_enter (n := 3) kmX5_reasonAgainst.1 (Nat.le_of_ble_eq_true rfl) (ls := [(0, .ref a0), (1, .ref p1), (2, .int p2), (3, .int p3)]) rfl ?_
  refine kz_aload_n (pc := 0) 0 (v := .ref a0) (i := 0) rfl rfl rfl dX5_reasonAgainst_0 ?_
  refine kz_aload_n (pc := 1) 1 (v := .ref p1) (i := 1) rfl rfl rfl dX5_reasonAgainst_1 ?_
  obtain ⟨⟨fs12, he⟩, h⟩ := h
  refine kz_callV (pc := 2) (μ' := mX5_hasLike) (ci := 5) (q := (RX5, TX5, 2)) (b := a0) (d' := d + 4) (mc' := 0) (ms' := 0) (As := [.ref p1]) (st := []) (c := 0) (sl := 0) kmX5_hasLike kw_1211 (by omega) rfl (Nat.le_of_ble_eq_true rfl) he rfl rfl (Nat.le_refl _) (Nat.le_refl _) dX5_reasonAgainst_2 (fun E M9 hx => kz_Tout rfl (Nat.le_refl _) (Nat.le_refl _) hx) (kz_Cmono (fun v M1 h => ?_) (fun _ _ h => h) h)
  obtain ⟨r2, rfl, h⟩ := h
  show kz_Z G (d + 5) 0 0 mX5_reasonAgainst Qr Qx 5 [(0, .ref a0), (1, .ref p1), (2, .int p2), (3, .int p3)] [.int r2] M1 0 0
  refine kz_if_eq (pc := 5) (tgt := 10) (by decide) dX5_reasonAgainst_5 (fun hb => ?_) (fun hb => ?_)
  · replace h := h.1 hb
    refine kz_aload_n (pc := 10) 1 (v := .ref p1) (i := 1) rfl rfl rfl dX5_reasonAgainst_10 ?_
    refine kz_iload_n (pc := 11) 2 (i := 2) rfl rfl dX5_reasonAgainst_11 ?_
    obtain ⟨⟨fs11, he⟩, h⟩ := h
    refine kz_callV (pc := 12) (μ' := mX3_isStuffed) (ci := 3) (q := (RX3, TX3, 7)) (b := p1) (d' := d + 4) (mc' := 0) (ms' := 0) (As := [.int p2]) (st := []) (c := 0) (sl := 0) kmX3_isStuffed kw_1220 (by omega) rfl (Nat.le_of_ble_eq_true rfl) he rfl rfl (Nat.le_refl _) (Nat.le_refl _) dX5_reasonAgainst_12 (fun E M9 hx => kz_Tout rfl (Nat.le_refl _) (Nat.le_refl _) hx) (kz_Cmono (fun v M4 h => ?_) (fun _ _ h => h) h)
    obtain ⟨r5, rfl, h⟩ := h
    show kz_Z G (d + 5) 0 0 mX5_reasonAgainst Qr Qx 15 [(0, .ref a0), (1, .ref p1), (2, .int p2), (3, .int p3)] [.int r5] M4 0 0
    refine kz_if_eq (pc := 15) (tgt := 20) (by decide) dX5_reasonAgainst_15 (fun hb => ?_) (fun hb => ?_)
    · replace h := h.1 hb
      refine kz_aload_n (pc := 20) 0 (v := .ref a0) (i := 0) rfl rfl rfl dX5_reasonAgainst_20 ?_
      refine kz_aload_n (pc := 21) 1 (v := .ref p1) (i := 1) rfl rfl rfl dX5_reasonAgainst_21 ?_
      refine kz_iload_n (pc := 22) 3 (i := 3) rfl rfl dX5_reasonAgainst_22 ?_
      obtain ⟨⟨fs10, he⟩, h⟩ := h
      refine kz_callV (pc := 23) (μ' := mX5_isWorn) (ci := 5) (q := (RX5, TX5, 2)) (b := a0) (d' := d + 4) (mc' := 0) (ms' := 0) (As := [.ref p1, .int p3]) (st := []) (c := 0) (sl := 0) kmX5_isWorn kw_1224 (by omega) rfl (Nat.le_of_ble_eq_true rfl) he rfl rfl (Nat.le_refl _) (Nat.le_refl _) dX5_reasonAgainst_23 (fun E M9 hx => kz_Tout rfl (Nat.le_refl _) (Nat.le_refl _) hx) (kz_Cmono (fun v M7 h => ?_) (fun _ _ h => h) h)
      obtain ⟨r8, rfl, h⟩ := h
      show kz_Z G (d + 5) 0 0 mX5_reasonAgainst Qr Qx 26 [(0, .ref a0), (1, .ref p1), (2, .int p2), (3, .int p3)] [.int r8] M7 0 0
      refine kz_if_eq (pc := 26) (tgt := 33) (by decide) dX5_reasonAgainst_26 (fun hb => ?_) (fun hb => ?_)
      · replace h := h.1 hb
        refine kz_iconst (pc := 33) (v := 0) (by decide) dX5_reasonAgainst_33 ?_
        exact kz_iret (pc := 34) rfl (Nat.le_refl _) (Nat.le_refl _) dX5_reasonAgainst_34 h
      · replace h := h.2 hb
        refine kz_iconst (pc := 29) (v := 3) (by decide) dX5_reasonAgainst_29 ?_
        refine kz_goto (pc := 30) (tgt := 34) (by decide) dX5_reasonAgainst_30 ?_
        exact kz_iret (pc := 34) rfl (Nat.le_refl _) (Nat.le_refl _) dX5_reasonAgainst_34 h
    · replace h := h.2 hb
      refine kz_iconst (pc := 18) (v := 2) (by decide) dX5_reasonAgainst_18 ?_
      exact kz_iret (pc := 19) rfl (Nat.le_refl _) (Nat.le_refl _) dX5_reasonAgainst_19 h
  · replace h := h.2 hb
    refine kz_iconst (pc := 8) (v := 1) (by decide) dX5_reasonAgainst_8 ?_
    exact kz_iret (pc := 9) rfl (Nat.le_refl _) (Nat.le_refl _) dX5_reasonAgainst_9 h
theorem dX5_hasLike_0 : decode cX5_hasLike 0 = .ok (.iconst 0, 1) := by decide +kernel
theorem dX5_hasLike_1 : decode cX5_hasLike 1 = .ok (.istore_n 2, 1) := by decide +kernel
theorem dX5_hasLike_2 : decode cX5_hasLike 2 = .ok (.iload_n 2, 1) := by decide +kernel
theorem dX5_hasLike_3 : decode cX5_hasLike 3 = .ok (.aload_n 0, 1) := by decide +kernel
theorem dX5_hasLike_4 : decode cX5_hasLike 4 = .ok (.getfield 17, 3) := by decide +kernel
theorem dX5_hasLike_7 : decode cX5_hasLike 7 = .ok (.if_icmp .ge 42, 3) := by decide +kernel
theorem dX5_hasLike_10 : decode cX5_hasLike 10 = .ok (.iload_n 2, 1) := by decide +kernel
theorem dX5_hasLike_11 : decode cX5_hasLike 11 = .ok (.aload_n 0, 1) := by decide +kernel
theorem dX5_hasLike_12 : decode cX5_hasLike 12 = .ok (.getfield 11, 3) := by decide +kernel
theorem dX5_hasLike_15 : decode cX5_hasLike 15 = .ok (.arraylength, 1) := by decide +kernel
theorem dX5_hasLike_16 : decode cX5_hasLike 16 = .ok (.if_icmp .ge 33, 3) := by decide +kernel
theorem dX5_hasLike_19 : decode cX5_hasLike 19 = .ok (.aload_n 0, 1) := by decide +kernel
theorem dX5_hasLike_20 : decode cX5_hasLike 20 = .ok (.getfield 11, 3) := by decide +kernel
theorem dX5_hasLike_23 : decode cX5_hasLike 23 = .ok (.iload_n 2, 1) := by decide +kernel
theorem dX5_hasLike_24 : decode cX5_hasLike 24 = .ok (.aaload, 1) := by decide +kernel
theorem dX5_hasLike_25 : decode cX5_hasLike 25 = .ok (.ifnull 18, 3) := by decide +kernel
theorem dX5_hasLike_28 : decode cX5_hasLike 28 = .ok (.aload_n 0, 1) := by decide +kernel
theorem dX5_hasLike_29 : decode cX5_hasLike 29 = .ok (.getfield 11, 3) := by decide +kernel
theorem dX5_hasLike_32 : decode cX5_hasLike 32 = .ok (.iload_n 2, 1) := by decide +kernel
theorem dX5_hasLike_33 : decode cX5_hasLike 33 = .ok (.aaload, 1) := by decide +kernel
theorem dX5_hasLike_34 : decode cX5_hasLike 34 = .ok (.aload_n 1, 1) := by decide +kernel
theorem dX5_hasLike_35 : decode cX5_hasLike 35 = .ok (.invokevirtual 37, 3) := by decide +kernel
theorem dX5_hasLike_38 : decode cX5_hasLike 38 = .ok (.ifCond .eq 5, 3) := by decide +kernel
theorem dX5_hasLike_41 : decode cX5_hasLike 41 = .ok (.iconst 1, 1) := by decide +kernel
theorem dX5_hasLike_42 : decode cX5_hasLike 42 = .ok (.ireturn, 1) := by decide +kernel
theorem dX5_hasLike_43 : decode cX5_hasLike 43 = .ok (.iinc 2 1, 3) := by decide +kernel
theorem dX5_hasLike_46 : decode cX5_hasLike 46 = .ok (.goto (-44), 3) := by decide +kernel
theorem dX5_hasLike_49 : decode cX5_hasLike 49 = .ok (.iconst 0, 1) := by decide +kernel
theorem dX5_hasLike_50 : decode cX5_hasLike 50 = .ok (.ireturn, 1) := by decide +kernel
def zX5_hasLike_2 (G : kz_G) (d : Nat) (Qr : Option Value → kz_M → Prop) (Qx : String → kz_M → Prop) (x0 : Nat) (x1 : Nat) (x2 : Int32)  (M : kz_M) : Prop := kz_Z G (d + 2) 0 0 mX5_hasLike Qr Qx 2 [(0, .ref x0), (1, .ref x1), (2, .int x2)] [] M 0 0
theorem rX5_hasLike_0 {G : kz_G} {d : Nat} {Qr : Option Value → kz_M → Prop} {Qx : String → kz_M → Prop} {a0 : Nat} {p1 : Nat}  {M : kz_M} (h : zX5_hasLike_2 G d Qr Qx a0 p1 0 M) : kz_C G (d + 2) 0 0 mX5_hasLike [.ref a0, .ref p1] M Qr Qx := by
  refine kz_enter (n := 1) kmX5_hasLike.1 (Nat.le_of_ble_eq_true rfl) (ls := [(0, .ref a0), (1, .ref p1)]) rfl ?_
  refine kz_iconst (pc := 0) (v := 0) (by decide) dX5_hasLike_0 ?_
  refine kz_istore_n (pc := 1) (i := 2) (ls' := [(0, .ref a0), (1, .ref p1)]) rfl (by decide) rfl dX5_hasLike_1 ?_
  refine kz_sub [1, 2, 0] rfl ?_
  exact h
theorem rX5_hasLike_2 {G : kz_G} {d : Nat} {Qr : Option Value → kz_M → Prop} {Qx : String → kz_M → Prop} {x0 : Nat} {x1 : Nat} {x2 : Int32}  {M : kz_M} (h : ∃ fs1 v2, (M).1 x0 = some (.inl (5, fs1)) ∧ fs1[1]? = some (.int v2) ∧ ((v2 ≤ x2 → Qr (some (.int 0)) M) ∧ (¬ v2 ≤ x2 → ∃ fs3 v4, (M).1 x0 = some (.inl (5, fs3)) ∧ fs3[0]? = some (.ref v4) ∧ (∃ ty5 A6, (M).1 v4 = some (.inr (ty5, A6)) ∧ (((Int32.ofNat A6.1) ≤ x2 → Qr (some (.int 0)) M) ∧ (¬ (Int32.ofNat A6.1) ≤ x2 → ∃ fs7 v8, (M).1 x0 = some (.inl (5, fs7)) ∧ fs7[0]? = some (.ref v8) ∧ (∃ n9 f10, (M).1 v8 = some (.inr (.object "LineOffice$Line", n9, .inr (.inr (.inr (.inr f10))))) ∧ vp_in x2 n9 ∧ (∀ o11 : Option Nat, f10 x2.toNatClampNeg = o11 → (o11 = none → zX5_hasLike_2 G d Qr Qx x0 x1 (x2 + 1) M) ∧ (∀ y12, o11 = some y12 → ∃ fs13 v14, (M).1 x0 = some (.inl (5, fs13)) ∧ fs13[0]? = some (.ref v14) ∧ (∃ n15 f16, (M).1 v14 = some (.inr (.object "LineOffice$Line", n15, .inr (.inr (.inr (.inr f16))))) ∧ vp_in x2 n15 ∧ (∀ o17 : Option Nat, f16 x2.toNatClampNeg = o17 → ∃ y18, o17 = some y18 ∧ ((∃ fs22, (M).1 y18 = some (.inl (3, fs22))) ∧ kz_C G (d + 1) 0 0 mX3_isLike [.ref y18, .ref x1] M (fun v M19 => ∃ r20 : Int32, v = some (.int r20) ∧ ((r20 = 0 → zX5_hasLike_2 G d Qr Qx x0 x1 (x2 + 1) M19) ∧ (¬ r20 = 0 → Qr (some (.int 1)) M19))) Qx)))))))))))) : zX5_hasLike_2 G d Qr Qx x0 x1 x2  M := by
  show kz_Z G (d + 2) 0 0 mX5_hasLike Qr Qx 2 [(0, .ref x0), (1, .ref x1), (2, .int x2)] [] M 0 0
  refine kz_iload_n (pc := 2) 2 (i := 2) rfl rfl dX5_hasLike_2 ?_
  refine kz_aload_n (pc := 3) 0 (v := .ref x0) (i := 0) rfl rfl rfl dX5_hasLike_3 ?_
  obtain ⟨fs1, v2, hM, hv, h⟩ := h
  refine kz_getf (pc := 4) (k := 1) kcX5 hM hv (by decide) kw_217 dX5_hasLike_4 ?_
  refine kz_icmp_ge (pc := 7) (tgt := 49) (by decide) dX5_hasLike_7 (fun hb => ?_) (fun hb => ?_)
  · replace h := h.1 hb
    refine kz_iconst (pc := 49) (v := 0) (by decide) dX5_hasLike_49 ?_
    exact kz_zret (pc := 50) (ty := .boolean) rfl (by decide) (Nat.le_refl _) (Nat.le_refl _) dX5_hasLike_50 h
  · replace h := h.2 hb
    refine kz_iload_n (pc := 10) 2 (i := 2) rfl rfl dX5_hasLike_10 ?_
    refine kz_aload_n (pc := 11) 0 (v := .ref x0) (i := 0) rfl rfl rfl dX5_hasLike_11 ?_
    obtain ⟨fs3, v4, hM, hv, h⟩ := h
    refine kz_getf (pc := 12) (k := 0) kcX5 hM hv (by decide) kw_216 dX5_hasLike_12 ?_
    obtain ⟨ty5, A6, hM, h⟩ := h
    refine kz_alen (pc := 15) hM rfl dX5_hasLike_15 ?_
    refine kz_icmp_ge (pc := 16) (tgt := 49) (by decide) dX5_hasLike_16 (fun hb => ?_) (fun hb => ?_)
    · replace h := h.1 hb
      refine kz_iconst (pc := 49) (v := 0) (by decide) dX5_hasLike_49 ?_
      exact kz_zret (pc := 50) (ty := .boolean) rfl (by decide) (Nat.le_refl _) (Nat.le_refl _) dX5_hasLike_50 h
    · replace h := h.2 hb
      refine kz_aload_n (pc := 19) 0 (v := .ref x0) (i := 0) rfl rfl rfl dX5_hasLike_19 ?_
      obtain ⟨fs7, v8, hM, hv, h⟩ := h
      refine kz_getf (pc := 20) (k := 0) kcX5 hM hv (by decide) kw_216 dX5_hasLike_20 ?_
      refine kz_iload_n (pc := 23) 2 (i := 2) rfl rfl dX5_hasLike_23 ?_
      obtain ⟨n9, f10, hM, hi, h⟩ := h
      refine kz_aald (pc := 24) hM hi dX5_hasLike_24 ?_
      generalize ho : f10 x2.toNatClampNeg = o11 at h ⊢
      replace h := h _ rfl
      rcases o11 with _ | y12
      · replace h := h.1 rfl
        refine kz_ifnull (pc := 25) (tgt := 43) rfl (by decide) dX5_hasLike_25 (fun _ => ?_) (fun hn => absurd rfl hn)
        refine kz_iinc (pc := 43) 2 (i := 2) (v := x2 + 1) (ls' := [(0, .ref x0), (1, .ref x1)]) rfl (congrArg (fun z => x2 + z) (by decide)) (by decide) rfl dX5_hasLike_43 ?_
        refine kz_goto (pc := 46) (tgt := 2) (by decide) dX5_hasLike_46 ?_
        refine kz_sub [1, 2, 0] rfl ?_
        exact h
      · replace h := h.2 y12 rfl
        refine kz_ifnull (pc := 25) (tgt := 43) rfl (by decide) dX5_hasLike_25 (fun hn => by cases hn) (fun _ => ?_)
        refine kz_aload_n (pc := 28) 0 (v := .ref x0) (i := 0) rfl rfl rfl dX5_hasLike_28 ?_
        obtain ⟨fs13, v14, hM, hv, h⟩ := h
        refine kz_getf (pc := 29) (k := 0) kcX5 hM hv (by decide) kw_216 dX5_hasLike_29 ?_
        refine kz_iload_n (pc := 32) 2 (i := 2) rfl rfl dX5_hasLike_32 ?_
        obtain ⟨n15, f16, hM, hi, h⟩ := h
        refine kz_aald (pc := 33) hM hi dX5_hasLike_33 ?_
        generalize ho : f16 x2.toNatClampNeg = o17 at h ⊢
        replace h := h _ rfl
        refine kz_aload_n (pc := 34) 1 (v := .ref x1) (i := 1) rfl rfl rfl dX5_hasLike_34 ?_
        obtain ⟨y18, ho, h⟩ := h
        subst ho
        obtain ⟨⟨fs22, he⟩, h⟩ := h
        refine kz_callV (pc := 35) (μ' := mX3_isLike) (ci := 3) (q := (RX3, TX3, 7)) (b := y18) (d' := d + 1) (mc' := 0) (ms' := 0) (As := [.ref x1]) (st := []) (c := 0) (sl := 0) kmX3_isLike kw_1215 (by omega) rfl (Nat.le_of_ble_eq_true rfl) he rfl rfl (Nat.le_refl _) (Nat.le_refl _) dX5_hasLike_35 (fun E M9 hx => kz_Tout rfl (Nat.le_refl _) (Nat.le_refl _) hx) (kz_Cmono (fun v M19 h => ?_) (fun _ _ h => h) h)
        obtain ⟨r20, rfl, h⟩ := h
        show kz_Z G (d + 2) 0 0 mX5_hasLike Qr Qx 38 [(0, .ref x0), (1, .ref x1), (2, .int x2)] [.int r20] M19 0 0
        refine kz_if_eq (pc := 38) (tgt := 43) (by decide) dX5_hasLike_38 (fun hb => ?_) (fun hb => ?_)
        · replace h := h.1 hb
          refine kz_iinc (pc := 43) 2 (i := 2) (v := x2 + 1) (ls' := [(0, .ref x0), (1, .ref x1)]) rfl (congrArg (fun z => x2 + z) (by decide)) (by decide) rfl dX5_hasLike_43 ?_
          refine kz_goto (pc := 46) (tgt := 2) (by decide) dX5_hasLike_46 ?_
          refine kz_sub [1, 2, 0] rfl ?_
          exact h
        · replace h := h.2 hb
          refine kz_iconst (pc := 41) (v := 1) (by decide) dX5_hasLike_41 ?_
          exact kz_zret (pc := 42) (ty := .boolean) rfl (by decide) (Nat.le_refl _) (Nat.le_refl _) dX5_hasLike_42 h
theorem dX5_isWorn_0 : decode cX5_isWorn 0 = .ok (.aload_n 1, 1) := by decide +kernel
theorem dX5_isWorn_1 : decode cX5_isWorn 1 = .ok (.getfield 40, 3) := by decide +kernel
theorem dX5_isWorn_4 : decode cX5_isWorn 4 = .ok (.istore_n 3, 1) := by decide +kernel
theorem dX5_isWorn_5 : decode cX5_isWorn 5 = .ok (.iload_n 3, 1) := by decide +kernel
theorem dX5_isWorn_6 : decode cX5_isWorn 6 = .ok (.aload_n 1, 1) := by decide +kernel
theorem dX5_isWorn_7 : decode cX5_isWorn 7 = .ok (.getfield 43, 3) := by decide +kernel
theorem dX5_isWorn_10 : decode cX5_isWorn 10 = .ok (.if_icmp .ge 27, 3) := by decide +kernel
theorem dX5_isWorn_13 : decode cX5_isWorn 13 = .ok (.aload_n 0, 1) := by decide +kernel
theorem dX5_isWorn_14 : decode cX5_isWorn 14 = .ok (.aload_n 1, 1) := by decide +kernel
theorem dX5_isWorn_15 : decode cX5_isWorn 15 = .ok (.getfield 46, 3) := by decide +kernel
theorem dX5_isWorn_18 : decode cX5_isWorn 18 = .ok (.iload_n 3, 1) := by decide +kernel
theorem dX5_isWorn_19 : decode cX5_isWorn 19 = .ok (.invokevirtual 50, 3) := by decide +kernel
theorem dX5_isWorn_22 : decode cX5_isWorn 22 = .ok (.invokevirtual 56, 3) := by decide +kernel
theorem dX5_isWorn_25 : decode cX5_isWorn 25 = .ok (.iload_n 2, 1) := by decide +kernel
theorem dX5_isWorn_26 : decode cX5_isWorn 26 = .ok (.if_icmp .ge 5, 3) := by decide +kernel
theorem dX5_isWorn_29 : decode cX5_isWorn 29 = .ok (.iconst 0, 1) := by decide +kernel
theorem dX5_isWorn_30 : decode cX5_isWorn 30 = .ok (.ireturn, 1) := by decide +kernel
theorem dX5_isWorn_31 : decode cX5_isWorn 31 = .ok (.iinc 3 1, 3) := by decide +kernel
theorem dX5_isWorn_34 : decode cX5_isWorn 34 = .ok (.goto (-29), 3) := by decide +kernel
theorem dX5_isWorn_37 : decode cX5_isWorn 37 = .ok (.iconst 1, 1) := by decide +kernel
theorem dX5_isWorn_38 : decode cX5_isWorn 38 = .ok (.ireturn, 1) := by decide +kernel
def zX5_isWorn_5 (G : kz_G) (d : Nat) (Qr : Option Value → kz_M → Prop) (Qx : String → kz_M → Prop) (x0 : Nat) (x1 : Nat) (x2 : Int32) (x3 : Int32)  (M : kz_M) : Prop := kz_Z G (d + 4) 0 0 mX5_isWorn Qr Qx 5 [(0, .ref x0), (1, .ref x1), (2, .int x2), (3, .int x3)] [] M 0 0
theorem rX5_isWorn_0 {G : kz_G} {d : Nat} {Qr : Option Value → kz_M → Prop} {Qx : String → kz_M → Prop} {a0 : Nat} {p1 : Nat} {p2 : Int32}  {M : kz_M} (h : ∃ fs1 v2, (M).1 p1 = some (.inl (3, fs1)) ∧ fs1[1]? = some (.int v2) ∧ (zX5_isWorn_5 G d Qr Qx a0 p1 p2 v2 M)) : kz_C G (d + 4) 0 0 mX5_isWorn [.ref a0, .ref p1, .int p2] M Qr Qx := by
  refine kz_enter (n := 2) kmX5_isWorn.1 (Nat.le_of_ble_eq_true rfl) (ls := [(0, .ref a0), (1, .ref p1), (2, .int p2)]) rfl ?_
  refine kz_aload_n (pc := 0) 1 (v := .ref p1) (i := 1) rfl rfl rfl dX5_isWorn_0 ?_
  obtain ⟨fs1, v2, hM, hv, h⟩ := h
  refine kz_getf (pc := 1) (k := 1) kcX3 hM hv (by decide) kw_1157 dX5_isWorn_1 ?_
  refine kz_istore_n (pc := 4) (i := 3) (ls' := [(0, .ref a0), (1, .ref p1), (2, .int p2)]) rfl (by decide) rfl dX5_isWorn_4 ?_
  refine kz_sub [1, 2, 3, 0] rfl ?_
  exact h
theorem rX5_isWorn_5 {G : kz_G} {d : Nat} {Qr : Option Value → kz_M → Prop} {Qx : String → kz_M → Prop} {x0 : Nat} {x1 : Nat} {x2 : Int32} {x3 : Int32}  {M : kz_M} (h : ∃ fs1 v2, (M).1 x1 = some (.inl (3, fs1)) ∧ fs1[2]? = some (.int v2) ∧ ((v2 ≤ x3 → Qr (some (.int 1)) M) ∧ (¬ v2 ≤ x3 → ∃ fs3 v4, (M).1 x1 = some (.inl (3, fs3)) ∧ fs3[0]? = some (.ref v4) ∧ ((∃ fs12, (M).1 v4 = some (.inl (6, fs12))) ∧ kz_C G (d + 3) 0 0 mX6_wordAt [.ref v4, .int x3] M (fun v M5 => ∃ r6 : Int64, v = some (.long r6) ∧ ((∃ fs11, (M5).1 x0 = some (.inl (5, fs11))) ∧ kz_C G (d + 3) 0 0 mX5_linesWith [.ref x0, .long r6] M5 (fun v M8 => ∃ r9 : Int32, v = some (.int r9) ∧ ((x2 ≤ r9 → zX5_isWorn_5 G d Qr Qx x0 x1 x2 (x3 + 1) M8) ∧ (¬ x2 ≤ r9 → Qr (some (.int 0)) M8))) Qx)) Qx)))) : zX5_isWorn_5 G d Qr Qx x0 x1 x2 x3  M := by
  show kz_Z G (d + 4) 0 0 mX5_isWorn Qr Qx 5 [(0, .ref x0), (1, .ref x1), (2, .int x2), (3, .int x3)] [] M 0 0
  refine kz_iload_n (pc := 5) 3 (i := 3) rfl rfl dX5_isWorn_5 ?_
  refine kz_aload_n (pc := 6) 1 (v := .ref x1) (i := 1) rfl rfl rfl dX5_isWorn_6 ?_
  obtain ⟨fs1, v2, hM, hv, h⟩ := h
  refine kz_getf (pc := 7) (k := 2) kcX3 hM hv (by decide) kw_1160 dX5_isWorn_7 ?_
  refine kz_icmp_ge (pc := 10) (tgt := 37) (by decide) dX5_isWorn_10 (fun hb => ?_) (fun hb => ?_)
  · replace h := h.1 hb
    refine kz_iconst (pc := 37) (v := 1) (by decide) dX5_isWorn_37 ?_
    exact kz_zret (pc := 38) (ty := .boolean) rfl (by decide) (Nat.le_refl _) (Nat.le_refl _) dX5_isWorn_38 h
  · replace h := h.2 hb
    refine kz_aload_n (pc := 13) 0 (v := .ref x0) (i := 0) rfl rfl rfl dX5_isWorn_13 ?_
    refine kz_aload_n (pc := 14) 1 (v := .ref x1) (i := 1) rfl rfl rfl dX5_isWorn_14 ?_
    obtain ⟨fs3, v4, hM, hv, h⟩ := h
    refine kz_getf (pc := 15) (k := 0) kcX3 hM hv (by decide) kw_1155 dX5_isWorn_15 ?_
    refine kz_iload_n (pc := 18) 3 (i := 3) rfl rfl dX5_isWorn_18 ?_
    obtain ⟨⟨fs12, he⟩, h⟩ := h
    refine kz_callV (pc := 19) (μ' := mX6_wordAt) (ci := 6) (q := (RX6, TX6, 3)) (b := v4) (d' := d + 3) (mc' := 0) (ms' := 0) (As := [.int x3]) (st := [.ref x0]) (c := 0) (sl := 0) kmX6_wordAt kw_1228 (by omega) rfl (Nat.le_of_ble_eq_true rfl) he rfl rfl (Nat.le_refl _) (Nat.le_refl _) dX5_isWorn_19 (fun E M9 hx => kz_Tout rfl (Nat.le_refl _) (Nat.le_refl _) hx) (kz_Cmono (fun v M5 h => ?_) (fun _ _ h => h) h)
    obtain ⟨r6, rfl, h⟩ := h
    show kz_Z G (d + 4) 0 0 mX5_isWorn Qr Qx 22 [(0, .ref x0), (1, .ref x1), (2, .int x2), (3, .int x3)] [.long r6, .ref x0] M5 0 0
    obtain ⟨⟨fs11, he⟩, h⟩ := h
    refine kz_callV (pc := 22) (μ' := mX5_linesWith) (ci := 5) (q := (RX5, TX5, 2)) (b := x0) (d' := d + 3) (mc' := 0) (ms' := 0) (As := [.long r6]) (st := []) (c := 0) (sl := 0) kmX5_linesWith kw_1229 (by omega) rfl (Nat.le_of_ble_eq_true rfl) he rfl rfl (Nat.le_refl _) (Nat.le_refl _) dX5_isWorn_22 (fun E M9 hx => kz_Tout rfl (Nat.le_refl _) (Nat.le_refl _) hx) (kz_Cmono (fun v M8 h => ?_) (fun _ _ h => h) h)
    obtain ⟨r9, rfl, h⟩ := h
    show kz_Z G (d + 4) 0 0 mX5_isWorn Qr Qx 25 [(0, .ref x0), (1, .ref x1), (2, .int x2), (3, .int x3)] [.int r9] M8 0 0
    refine kz_iload_n (pc := 25) 2 (i := 2) rfl rfl dX5_isWorn_25 ?_
    refine kz_icmp_ge (pc := 26) (tgt := 31) (by decide) dX5_isWorn_26 (fun hb => ?_) (fun hb => ?_)
    · replace h := h.1 hb
      refine kz_iinc (pc := 31) 3 (i := 3) (v := x3 + 1) (ls' := [(0, .ref x0), (1, .ref x1), (2, .int x2)]) rfl (congrArg (fun z => x3 + z) (by decide)) (by decide) rfl dX5_isWorn_31 ?_
      refine kz_goto (pc := 34) (tgt := 5) (by decide) dX5_isWorn_34 ?_
      refine kz_sub [1, 2, 3, 0] rfl ?_
      exact h
    · replace h := h.2 hb
      refine kz_iconst (pc := 29) (v := 0) (by decide) dX5_isWorn_29 ?_
      exact kz_zret (pc := 30) (ty := .boolean) rfl (by decide) (Nat.le_refl _) (Nat.le_refl _) dX5_isWorn_30 h
theorem dX5_linesWith_0 : decode cX5_linesWith 0 = .ok (.iconst 0, 1) := by decide +kernel
theorem dX5_linesWith_1 : decode cX5_linesWith 1 = .ok (.istore_n 3, 1) := by decide +kernel
theorem dX5_linesWith_2 : decode cX5_linesWith 2 = .ok (.iconst 0, 1) := by decide +kernel
theorem dX5_linesWith_3 : decode cX5_linesWith 3 = .ok (.istore 4, 2) := by decide +kernel
theorem dX5_linesWith_5 : decode cX5_linesWith 5 = .ok (.iload 4, 2) := by decide +kernel
theorem dX5_linesWith_7 : decode cX5_linesWith 7 = .ok (.aload_n 0, 1) := by decide +kernel
theorem dX5_linesWith_8 : decode cX5_linesWith 8 = .ok (.getfield 17, 3) := by decide +kernel
theorem dX5_linesWith_11 : decode cX5_linesWith 11 = .ok (.if_icmp .ge 51, 3) := by decide +kernel
theorem dX5_linesWith_14 : decode cX5_linesWith 14 = .ok (.iload 4, 2) := by decide +kernel
theorem dX5_linesWith_16 : decode cX5_linesWith 16 = .ok (.aload_n 0, 1) := by decide +kernel
theorem dX5_linesWith_17 : decode cX5_linesWith 17 = .ok (.getfield 11, 3) := by decide +kernel
theorem dX5_linesWith_20 : decode cX5_linesWith 20 = .ok (.arraylength, 1) := by decide +kernel
theorem dX5_linesWith_21 : decode cX5_linesWith 21 = .ok (.if_icmp .ge 41, 3) := by decide +kernel
theorem dX5_linesWith_24 : decode cX5_linesWith 24 = .ok (.iload_n 3, 1) := by decide +kernel
theorem dX5_linesWith_25 : decode cX5_linesWith 25 = .ok (.aload_n 0, 1) := by decide +kernel
theorem dX5_linesWith_26 : decode cX5_linesWith 26 = .ok (.getfield 11, 3) := by decide +kernel
theorem dX5_linesWith_29 : decode cX5_linesWith 29 = .ok (.iload 4, 2) := by decide +kernel
theorem dX5_linesWith_31 : decode cX5_linesWith 31 = .ok (.aaload, 1) := by decide +kernel
theorem dX5_linesWith_32 : decode cX5_linesWith 32 = .ok (.ifnull 21, 3) := by decide +kernel
theorem dX5_linesWith_35 : decode cX5_linesWith 35 = .ok (.aload_n 0, 1) := by decide +kernel
theorem dX5_linesWith_36 : decode cX5_linesWith 36 = .ok (.getfield 11, 3) := by decide +kernel
theorem dX5_linesWith_39 : decode cX5_linesWith 39 = .ok (.iload 4, 2) := by decide +kernel
theorem dX5_linesWith_41 : decode cX5_linesWith 41 = .ok (.aaload, 1) := by decide +kernel
theorem dX5_linesWith_42 : decode cX5_linesWith 42 = .ok (.lload_n 1, 1) := by decide +kernel
theorem dX5_linesWith_43 : decode cX5_linesWith 43 = .ok (.invokevirtual 60, 3) := by decide +kernel
theorem dX5_linesWith_46 : decode cX5_linesWith 46 = .ok (.ifCond .eq 7, 3) := by decide +kernel
theorem dX5_linesWith_49 : decode cX5_linesWith 49 = .ok (.iconst 1, 1) := by decide +kernel
theorem dX5_linesWith_50 : decode cX5_linesWith 50 = .ok (.goto 4, 3) := by decide +kernel
theorem dX5_linesWith_53 : decode cX5_linesWith 53 = .ok (.iconst 0, 1) := by decide +kernel
theorem dX5_linesWith_54 : decode cX5_linesWith 54 = .ok (.iadd, 1) := by decide +kernel
theorem dX5_linesWith_55 : decode cX5_linesWith 55 = .ok (.istore_n 3, 1) := by decide +kernel
theorem dX5_linesWith_56 : decode cX5_linesWith 56 = .ok (.iinc 4 1, 3) := by decide +kernel
theorem dX5_linesWith_59 : decode cX5_linesWith 59 = .ok (.goto (-54), 3) := by decide +kernel
theorem dX5_linesWith_62 : decode cX5_linesWith 62 = .ok (.iload_n 3, 1) := by decide +kernel
theorem dX5_linesWith_63 : decode cX5_linesWith 63 = .ok (.ireturn, 1) := by decide +kernel
def zX5_linesWith_5 (G : kz_G) (d : Nat) (Qr : Option Value → kz_M → Prop) (Qx : String → kz_M → Prop) (x0 : Nat) (x1 : Int64) (x3 : Int32) (x4 : Int32)  (M : kz_M) : Prop := kz_Z G (d + 3) 0 0 mX5_linesWith Qr Qx 5 [(0, .ref x0), (1, .long x1), (3, .int x3), (4, .int x4)] [] M 0 0
theorem rX5_linesWith_0 {G : kz_G} {d : Nat} {Qr : Option Value → kz_M → Prop} {Qx : String → kz_M → Prop} {a0 : Nat} {p1 : Int64}  {M : kz_M} (h : zX5_linesWith_5 G d Qr Qx a0 p1 0 0 M) : kz_C G (d + 3) 0 0 mX5_linesWith [.ref a0, .long p1] M Qr Qx := by
  refine kz_enter (n := 1) kmX5_linesWith.1 (Nat.le_of_ble_eq_true rfl) (ls := [(0, .ref a0), (1, .long p1)]) rfl ?_
  refine kz_iconst (pc := 0) (v := 0) (by decide) dX5_linesWith_0 ?_
  refine kz_istore_n (pc := 1) (i := 3) (ls' := [(0, .ref a0), (1, .long p1)]) rfl (by decide) rfl dX5_linesWith_1 ?_
  refine kz_iconst (pc := 2) (v := 0) (by decide) dX5_linesWith_2 ?_
  refine kz_istore (pc := 3) (i := 4) (ls' := [(3, .int 0), (0, .ref a0), (1, .long p1)]) (by decide) rfl dX5_linesWith_3 ?_
  refine kz_sub [2, 3, 1, 0] rfl ?_
  exact h
theorem rX5_linesWith_5 {G : kz_G} {d : Nat} {Qr : Option Value → kz_M → Prop} {Qx : String → kz_M → Prop} {x0 : Nat} {x1 : Int64} {x3 : Int32} {x4 : Int32}  {M : kz_M} (h : ∃ fs1 v2, (M).1 x0 = some (.inl (5, fs1)) ∧ fs1[1]? = some (.int v2) ∧ ((v2 ≤ x4 → Qr (some (.int x3)) M) ∧ (¬ v2 ≤ x4 → ∃ fs3 v4, (M).1 x0 = some (.inl (5, fs3)) ∧ fs3[0]? = some (.ref v4) ∧ (∃ ty5 A6, (M).1 v4 = some (.inr (ty5, A6)) ∧ (((Int32.ofNat A6.1) ≤ x4 → Qr (some (.int x3)) M) ∧ (¬ (Int32.ofNat A6.1) ≤ x4 → ∃ fs7 v8, (M).1 x0 = some (.inl (5, fs7)) ∧ fs7[0]? = some (.ref v8) ∧ (∃ n9 f10, (M).1 v8 = some (.inr (.object "LineOffice$Line", n9, .inr (.inr (.inr (.inr f10))))) ∧ vp_in x4 n9 ∧ (∀ o11 : Option Nat, f10 x4.toNatClampNeg = o11 → (o11 = none → zX5_linesWith_5 G d Qr Qx x0 x1 (x3 + 0) (x4 + 1) M) ∧ (∀ y12, o11 = some y12 → ∃ fs13 v14, (M).1 x0 = some (.inl (5, fs13)) ∧ fs13[0]? = some (.ref v14) ∧ (∃ n15 f16, (M).1 v14 = some (.inr (.object "LineOffice$Line", n15, .inr (.inr (.inr (.inr f16))))) ∧ vp_in x4 n15 ∧ (∀ o17 : Option Nat, f16 x4.toNatClampNeg = o17 → ∃ y18, o17 = some y18 ∧ ((∃ fs22, (M).1 y18 = some (.inl (3, fs22))) ∧ kz_C G (d + 2) 0 0 mX3_has [.ref y18, .long x1] M (fun v M19 => ∃ r20 : Int32, v = some (.int r20) ∧ ((r20 = 0 → zX5_linesWith_5 G d Qr Qx x0 x1 (x3 + 0) (x4 + 1) M19) ∧ (¬ r20 = 0 → zX5_linesWith_5 G d Qr Qx x0 x1 (x3 + 1) (x4 + 1) M19))) Qx)))))))))))) : zX5_linesWith_5 G d Qr Qx x0 x1 x3 x4  M := by
  show kz_Z G (d + 3) 0 0 mX5_linesWith Qr Qx 5 [(0, .ref x0), (1, .long x1), (3, .int x3), (4, .int x4)] [] M 0 0
  refine kz_iload (pc := 5) 3 (i := 4) rfl dX5_linesWith_5 ?_
  refine kz_aload_n (pc := 7) 0 (v := .ref x0) (i := 0) rfl rfl rfl dX5_linesWith_7 ?_
  obtain ⟨fs1, v2, hM, hv, h⟩ := h
  refine kz_getf (pc := 8) (k := 1) kcX5 hM hv (by decide) kw_217 dX5_linesWith_8 ?_
  refine kz_icmp_ge (pc := 11) (tgt := 62) (by decide) dX5_linesWith_11 (fun hb => ?_) (fun hb => ?_)
  · replace h := h.1 hb
    refine kz_iload_n (pc := 62) 2 (i := 3) rfl rfl dX5_linesWith_62 ?_
    exact kz_iret (pc := 63) rfl (Nat.le_refl _) (Nat.le_refl _) dX5_linesWith_63 h
  · replace h := h.2 hb
    refine kz_iload (pc := 14) 3 (i := 4) rfl dX5_linesWith_14 ?_
    refine kz_aload_n (pc := 16) 0 (v := .ref x0) (i := 0) rfl rfl rfl dX5_linesWith_16 ?_
    obtain ⟨fs3, v4, hM, hv, h⟩ := h
    refine kz_getf (pc := 17) (k := 0) kcX5 hM hv (by decide) kw_216 dX5_linesWith_17 ?_
    obtain ⟨ty5, A6, hM, h⟩ := h
    refine kz_alen (pc := 20) hM rfl dX5_linesWith_20 ?_
    refine kz_icmp_ge (pc := 21) (tgt := 62) (by decide) dX5_linesWith_21 (fun hb => ?_) (fun hb => ?_)
    · replace h := h.1 hb
      refine kz_iload_n (pc := 62) 2 (i := 3) rfl rfl dX5_linesWith_62 ?_
      exact kz_iret (pc := 63) rfl (Nat.le_refl _) (Nat.le_refl _) dX5_linesWith_63 h
    · replace h := h.2 hb
      refine kz_iload_n (pc := 24) 2 (i := 3) rfl rfl dX5_linesWith_24 ?_
      refine kz_aload_n (pc := 25) 0 (v := .ref x0) (i := 0) rfl rfl rfl dX5_linesWith_25 ?_
      obtain ⟨fs7, v8, hM, hv, h⟩ := h
      refine kz_getf (pc := 26) (k := 0) kcX5 hM hv (by decide) kw_216 dX5_linesWith_26 ?_
      refine kz_iload (pc := 29) 3 (i := 4) rfl dX5_linesWith_29 ?_
      obtain ⟨n9, f10, hM, hi, h⟩ := h
      refine kz_aald (pc := 31) hM hi dX5_linesWith_31 ?_
      generalize ho : f10 x4.toNatClampNeg = o11 at h ⊢
      replace h := h _ rfl
      rcases o11 with _ | y12
      · replace h := h.1 rfl
        refine kz_ifnull (pc := 32) (tgt := 53) rfl (by decide) dX5_linesWith_32 (fun _ => ?_) (fun hn => absurd rfl hn)
        refine kz_iconst (pc := 53) (v := 0) (by decide) dX5_linesWith_53 ?_
        refine kz_iadd (pc := 54) dX5_linesWith_54 ?_
        refine kz_istore_n (pc := 55) (i := 3) (ls' := [(0, .ref x0), (1, .long x1), (4, .int x4)]) rfl (by decide) rfl dX5_linesWith_55 ?_
        refine kz_iinc (pc := 56) 3 (i := 4) (v := x4 + 1) (ls' := [(3, .int (x3 + 0)), (0, .ref x0), (1, .long x1)]) rfl (congrArg (fun z => x4 + z) (by decide)) (by decide) rfl dX5_linesWith_56 ?_
        refine kz_goto (pc := 59) (tgt := 5) (by decide) dX5_linesWith_59 ?_
        refine kz_sub [2, 3, 1, 0] rfl ?_
        exact h
      · replace h := h.2 y12 rfl
        refine kz_ifnull (pc := 32) (tgt := 53) rfl (by decide) dX5_linesWith_32 (fun hn => by cases hn) (fun _ => ?_)
        refine kz_aload_n (pc := 35) 0 (v := .ref x0) (i := 0) rfl rfl rfl dX5_linesWith_35 ?_
        obtain ⟨fs13, v14, hM, hv, h⟩ := h
        refine kz_getf (pc := 36) (k := 0) kcX5 hM hv (by decide) kw_216 dX5_linesWith_36 ?_
        refine kz_iload (pc := 39) 3 (i := 4) rfl dX5_linesWith_39 ?_
        obtain ⟨n15, f16, hM, hi, h⟩ := h
        refine kz_aald (pc := 41) hM hi dX5_linesWith_41 ?_
        generalize ho : f16 x4.toNatClampNeg = o17 at h ⊢
        replace h := h _ rfl
        refine kz_lload_n (pc := 42) 1 (i := 1) rfl rfl dX5_linesWith_42 ?_
        obtain ⟨y18, ho, h⟩ := h
        subst ho
        obtain ⟨⟨fs22, he⟩, h⟩ := h
        refine kz_callV (pc := 43) (μ' := mX3_has) (ci := 3) (q := (RX3, TX3, 7)) (b := y18) (d' := d + 2) (mc' := 0) (ms' := 0) (As := [.long x1]) (st := [.int x3]) (c := 0) (sl := 0) kmX3_has kw_918 (by omega) rfl (Nat.le_of_ble_eq_true rfl) he rfl rfl (Nat.le_refl _) (Nat.le_refl _) dX5_linesWith_43 (fun E M9 hx => kz_Tout rfl (Nat.le_refl _) (Nat.le_refl _) hx) (kz_Cmono (fun v M19 h => ?_) (fun _ _ h => h) h)
        obtain ⟨r20, rfl, h⟩ := h
        show kz_Z G (d + 3) 0 0 mX5_linesWith Qr Qx 46 [(0, .ref x0), (1, .long x1), (3, .int x3), (4, .int x4)] [.int r20, .int x3] M19 0 0
        refine kz_if_eq (pc := 46) (tgt := 53) (by decide) dX5_linesWith_46 (fun hb => ?_) (fun hb => ?_)
        · replace h := h.1 hb
          refine kz_iconst (pc := 53) (v := 0) (by decide) dX5_linesWith_53 ?_
          refine kz_iadd (pc := 54) dX5_linesWith_54 ?_
          refine kz_istore_n (pc := 55) (i := 3) (ls' := [(0, .ref x0), (1, .long x1), (4, .int x4)]) rfl (by decide) rfl dX5_linesWith_55 ?_
          refine kz_iinc (pc := 56) 3 (i := 4) (v := x4 + 1) (ls' := [(3, .int (x3 + 0)), (0, .ref x0), (1, .long x1)]) rfl (congrArg (fun z => x4 + z) (by decide)) (by decide) rfl dX5_linesWith_56 ?_
          refine kz_goto (pc := 59) (tgt := 5) (by decide) dX5_linesWith_59 ?_
          refine kz_sub [2, 3, 1, 0] rfl ?_
          exact h
        · replace h := h.2 hb
          refine kz_iconst (pc := 49) (v := 1) (by decide) dX5_linesWith_49 ?_
          refine kz_goto (pc := 50) (tgt := 54) (by decide) dX5_linesWith_50 ?_
          refine kz_iadd (pc := 54) dX5_linesWith_54 ?_
          refine kz_istore_n (pc := 55) (i := 3) (ls' := [(0, .ref x0), (1, .long x1), (4, .int x4)]) rfl (by decide) rfl dX5_linesWith_55 ?_
          refine kz_iinc (pc := 56) 3 (i := 4) (v := x4 + 1) (ls' := [(3, .int (x3 + 1)), (0, .ref x0), (1, .long x1)]) rfl (congrArg (fun z => x4 + z) (by decide)) (by decide) rfl dX5_linesWith_56 ?_
          refine kz_goto (pc := 59) (tgt := 5) (by decide) dX5_linesWith_59 ?_
          refine kz_sub [2, 3, 1, 0] rfl ?_
          exact h
theorem dX10_init_0 : decode cX10_init 0 = .ok (.aload_n 0, 1) := by decide +kernel
theorem dX10_init_1 : decode cX10_init 1 = .ok (.invokespecial 3, 3) := by decide +kernel
theorem dX10_init_4 : decode cX10_init 4 = .ok (.aload_n 0, 1) := by decide +kernel
theorem dX10_init_5 : decode cX10_init 5 = .ok (.iload_n 1, 1) := by decide +kernel
theorem dX10_init_6 : decode cX10_init 6 = .ok (.putfield 9, 3) := by decide +kernel
theorem dX10_init_9 : decode cX10_init 9 = .ok (.aload_n 0, 1) := by decide +kernel
theorem dX10_init_10 : decode cX10_init 10 = .ok (.iload_n 2, 1) := by decide +kernel
theorem dX10_init_11 : decode cX10_init 11 = .ok (.putfield 15, 3) := by decide +kernel
theorem dX10_init_14 : decode cX10_init 14 = .ok (.aload_n 0, 1) := by decide +kernel
theorem dX10_init_15 : decode cX10_init 15 = .ok (.aload_n 3, 1) := by decide +kernel
theorem dX10_init_16 : decode cX10_init 16 = .ok (.putfield 18, 3) := by decide +kernel
theorem dX10_init_19 : decode cX10_init 19 = .ok (.aload_n 0, 1) := by decide +kernel
theorem dX10_init_20 : decode cX10_init 20 = .ok (.iconst 0, 1) := by decide +kernel
theorem dX10_init_21 : decode cX10_init 21 = .ok (.aload_n 3, 1) := by decide +kernel
theorem dX10_init_22 : decode cX10_init 22 = .ok (.iload 4, 2) := by decide +kernel
theorem dX10_init_24 : decode cX10_init 24 = .ok (.invokevirtual 22, 3) := by decide +kernel
theorem dX10_init_27 : decode cX10_init 27 = .ok (.invokestatic 28, 3) := by decide +kernel
theorem dX10_init_30 : decode cX10_init 30 = .ok (.anewarray 34, 3) := by decide +kernel
theorem dX10_init_33 : decode cX10_init 33 = .ok (.putfield 36, 3) := by decide +kernel
theorem dX10_init_36 : decode cX10_init 36 = .ok (.iconst 0, 1) := by decide +kernel
theorem dX10_init_37 : decode cX10_init 37 = .ok (.istore 6, 2) := by decide +kernel
theorem dX10_init_39 : decode cX10_init 39 = .ok (.iconst 0, 1) := by decide +kernel
theorem dX10_init_40 : decode cX10_init 40 = .ok (.istore 7, 2) := by decide +kernel
theorem dX10_init_42 : decode cX10_init 42 = .ok (.iload 7, 2) := by decide +kernel
theorem dX10_init_44 : decode cX10_init 44 = .ok (.aload_n 0, 1) := by decide +kernel
theorem dX10_init_45 : decode cX10_init 45 = .ok (.getfield 36, 3) := by decide +kernel
theorem dX10_init_48 : decode cX10_init 48 = .ok (.arraylength, 1) := by decide +kernel
theorem dX10_init_49 : decode cX10_init 49 = .ok (.if_icmp .ge 46, 3) := by decide +kernel
theorem dX10_init_52 : decode cX10_init 52 = .ok (.aload_n 3, 1) := by decide +kernel
theorem dX10_init_53 : decode cX10_init 53 = .ok (.iload 6, 2) := by decide +kernel
theorem dX10_init_55 : decode cX10_init 55 = .ok (.iload 4, 2) := by decide +kernel
theorem dX10_init_57 : decode cX10_init 57 = .ok (.invokevirtual 40, 3) := by decide +kernel
theorem dX10_init_60 : decode cX10_init 60 = .ok (.istore 8, 2) := by decide +kernel
theorem dX10_init_62 : decode cX10_init 62 = .ok (.aload_n 0, 1) := by decide +kernel
theorem dX10_init_63 : decode cX10_init 63 = .ok (.getfield 36, 3) := by decide +kernel
theorem dX10_init_66 : decode cX10_init 66 = .ok (.iload 7, 2) := by decide +kernel
theorem dX10_init_68 : decode cX10_init 68 = .ok (.new 34, 3) := by decide +kernel
theorem dX10_init_71 : decode cX10_init 71 = .ok (.dup, 1) := by decide +kernel
theorem dX10_init_72 : decode cX10_init 72 = .ok (.aload_n 3, 1) := by decide +kernel
theorem dX10_init_73 : decode cX10_init 73 = .ok (.iload 6, 2) := by decide +kernel
theorem dX10_init_75 : decode cX10_init 75 = .ok (.iload 8, 2) := by decide +kernel
theorem dX10_init_77 : decode cX10_init 77 = .ok (.iload 4, 2) := by decide +kernel
theorem dX10_init_79 : decode cX10_init 79 = .ok (.iload 5, 2) := by decide +kernel
theorem dX10_init_81 : decode cX10_init 81 = .ok (.invokespecial 43, 3) := by decide +kernel
theorem dX10_init_84 : decode cX10_init 84 = .ok (.aastore, 1) := by decide +kernel
theorem dX10_init_85 : decode cX10_init 85 = .ok (.iload 8, 2) := by decide +kernel
theorem dX10_init_87 : decode cX10_init 87 = .ok (.istore 6, 2) := by decide +kernel
theorem dX10_init_89 : decode cX10_init 89 = .ok (.iinc 7 1, 3) := by decide +kernel
theorem dX10_init_92 : decode cX10_init 92 = .ok (.goto (-50), 3) := by decide +kernel
theorem dX10_init_95 : decode cX10_init 95 = .ok (.return_, 1) := by decide +kernel
def zX10_init_42 (G : kz_G) (d mc ms : Nat) (Qr : Option Value → kz_M → Prop) (Qx : String → kz_M → Prop) (x0 : Nat) (x3 : Nat) (x4 : Int32) (x5 : Int32) (x6 : Int32) (x7 : Int32)  (M : kz_M) (c sl : Nat) : Prop := kz_Z G (d + 4) mc ms mX10_init Qr Qx 42 [(0, .ref x0), (3, .ref x3), (4, .int x4), (5, .int x5), (6, .int x6), (7, .int x7)] [] M c sl
theorem rX10_init_0 {G : kz_G} {d : Nat} {mc ms : Nat} {Qr : Option Value → kz_M → Prop} {Qx : String → kz_M → Prop} {a0 : Nat} {p1 : Int32} {p2 : Int32} {p3 : Nat} {p4 : Int32} {p5 : Int32}  {M : kz_M} (h : ∃ fs1, (M).1 a0 = some (.inl (9, fs1)) ∧ 0 < fs1.length ∧ (∃ fs2, ((kz_up M a0 (.inl (9, fs1.set 0 (.int p1))))).1 a0 = some (.inl (9, fs2)) ∧ 1 < fs2.length ∧ (∃ fs3, ((kz_up (kz_up M a0 (.inl (9, fs1.set 0 (.int p1)))) a0 (.inl (9, fs2.set 1 (.int p2))))).1 a0 = some (.inl (9, fs3)) ∧ 2 < fs3.length ∧ ((∃ fs10, ((kz_up (kz_up (kz_up M a0 (.inl (9, fs1.set 0 (.int p1)))) a0 (.inl (9, fs2.set 1 (.int p2)))) a0 (.inl (9, fs3.set 2 (.ref p3))))).1 p3 = some (.inl (6, fs10))) ∧ kz_C G (d + 3) 0 0 mX6_linesBy [.ref p3, .int p4] (kz_up (kz_up (kz_up M a0 (.inl (9, fs1.set 0 (.int p1)))) a0 (.inl (9, fs2.set 1 (.int p2)))) a0 (.inl (9, fs3.set 2 (.ref p3)))) (fun v M4 => ∃ r5 : Int32, v = some (.int r5) ∧ (∃ N7, ¬ (if 0 < r5 then r5 else 0) < 0 ∧ (if 0 < r5 then r5 else 0 : Int32).toNatClampNeg = N7 ∧ N7 ≤ 60000000 ∧ 0 + 1 ≤ mc ∧ 0 + N7 ≤ ms ∧ (∃ fs9, ((kz_nw M4 (.inr (.object "LineOffice$Line", N7, .inr (.inr (.inr (.inr (fun _ => none)))))))).1 a0 = some (.inl (9, fs9)) ∧ 3 < fs9.length ∧ (zX10_init_42 G d mc ms Qr Qx a0 p3 p4 p5 0 0 (kz_up (kz_nw M4 (.inr (.object "LineOffice$Line", N7, .inr (.inr (.inr (.inr (fun _ => none))))))) a0 (.inl (9, fs9.set 3 (.ref ((M4).2))))) (0 + 1) (0 + N7))))) Qx)))) : kz_C G (d + 4) mc ms mX10_init [.ref a0, .int p1, .int p2, .ref p3, .int p4, .int p5] M Qr Qx := by
  refine kz_enter (n := 5) kmX10_init.1 (Nat.le_of_ble_eq_true rfl) (ls := [(0, .ref a0), (1, .int p1), (2, .int p2), (3, .ref p3), (4, .int p4), (5, .int p5)]) rfl ?_
  refine kz_aload_n (pc := 0) 0 (v := .ref a0) (i := 0) rfl rfl rfl dX10_init_0 ?_
  refine kz_objInit (pc := 1) kw_1124 kw_43 kw_44 (by omega) (Nat.le_of_ble_eq_true rfl) dX10_init_1 ?_
  refine kz_aload_n (pc := 4) 0 (v := .ref a0) (i := 0) rfl rfl rfl dX10_init_4 ?_
  refine kz_iload_n (pc := 5) 1 (i := 1) rfl rfl dX10_init_5 ?_
  obtain ⟨fs1, hM, hlen, h⟩ := h
  refine kz_putF (pc := 6) (k := 0) kcX10 hM (by decide) hlen rfl rfl kw_1187 rfl rfl rfl dX10_init_6 ?_
  refine kz_aload_n (pc := 9) 0 (v := .ref a0) (i := 0) rfl rfl rfl dX10_init_9 ?_
  refine kz_iload_n (pc := 10) 2 (i := 2) rfl rfl dX10_init_10 ?_
  obtain ⟨fs2, hM, hlen, h⟩ := h
  refine kz_putF (pc := 11) (k := 1) kcX10 hM (by decide) hlen rfl rfl kw_1190 rfl rfl rfl dX10_init_11 ?_
  refine kz_aload_n (pc := 14) 0 (v := .ref a0) (i := 0) rfl rfl rfl dX10_init_14 ?_
  refine kz_aload_n (pc := 15) 3 (v := .ref p3) (i := 3) rfl rfl rfl dX10_init_15 ?_
  obtain ⟨fs3, hM, hlen, h⟩ := h
  refine kz_putF (pc := 16) (k := 2) kcX10 hM (by decide) hlen rfl rfl kw_1193 rfl rfl rfl dX10_init_16 ?_
  refine kz_aload_n (pc := 19) 0 (v := .ref a0) (i := 0) rfl rfl rfl dX10_init_19 ?_
  refine kz_iconst (pc := 20) (v := 0) (by decide) dX10_init_20 ?_
  refine kz_aload_n (pc := 21) 3 (v := .ref p3) (i := 3) rfl rfl rfl dX10_init_21 ?_
  refine kz_iload (pc := 22) 4 (i := 4) rfl dX10_init_22 ?_
  obtain ⟨⟨fs10, he⟩, h⟩ := h
  refine kz_callV (pc := 24) (μ' := mX6_linesBy) (ci := 6) (q := (RX6, TX6, 3)) (b := p3) (d' := d + 3) (mc' := 0) (ms' := 0) (As := [.int p4]) (st := [.int 0, .ref a0]) (c := 0) (sl := 0) kmX6_linesBy kw_1125 (by omega) rfl (Nat.le_of_ble_eq_true rfl) he rfl rfl (Nat.zero_le _) (Nat.zero_le _) dX10_init_24 (fun E M9 hx => kz_Tout rfl (Nat.zero_le _) (Nat.zero_le _) hx) (kz_Cmono (fun v M4 h => ?_) (fun _ _ h => h) h)
  obtain ⟨r5, rfl, h⟩ := h
  show kz_Z G (d + 4) mc ms mX10_init Qr Qx 27 [(0, .ref a0), (1, .int p1), (2, .int p2), (3, .ref p3), (4, .int p4), (5, .int p5)] [.int r5, .int 0, .ref a0] M4 0 0
  refine kz_mmax (pc := 27) kw_1139 kw_539 kw_9 kw_540 (by omega) (Nat.le_of_ble_eq_true rfl) (Nat.zero_le _) (Nat.zero_le _) dX10_init_27 ?_
  obtain ⟨N7, hn, hN, hb8, hc8, hs8, h⟩ := h
  refine kz_anew (pc := 30) (C := "LineOffice$Line") N7 kw_1140 kw_215 hn hN hb8 hc8 hs8 dX10_init_30 ?_
  obtain ⟨fs9, hM, hlen, h⟩ := h
  refine kz_putF (pc := 33) (k := 3) kcX10 hM (by decide) hlen rfl rfl kw_1196 rfl rfl rfl dX10_init_33 ?_
  refine kz_iconst (pc := 36) (v := 0) (by decide) dX10_init_36 ?_
  refine kz_istore (pc := 37) (i := 6) (ls' := [(0, .ref a0), (1, .int p1), (2, .int p2), (3, .ref p3), (4, .int p4), (5, .int p5)]) (by decide) rfl dX10_init_37 ?_
  refine kz_iconst (pc := 39) (v := 0) (by decide) dX10_init_39 ?_
  refine kz_istore (pc := 40) (i := 7) (ls' := [(6, .int 0), (0, .ref a0), (1, .int p1), (2, .int p2), (3, .ref p3), (4, .int p4), (5, .int p5)]) (by decide) rfl dX10_init_40 ?_
  refine kz_sub [2, 5, 6, 7, 1, 0] rfl ?_
  exact h
theorem rX10_init_42 {G : kz_G} {d : Nat} {mc ms : Nat} {Qr : Option Value → kz_M → Prop} {Qx : String → kz_M → Prop} {x0 : Nat} {x3 : Nat} {x4 : Int32} {x5 : Int32} {x6 : Int32} {x7 : Int32}  {M : kz_M} {c sl : Nat} (hc : c ≤ mc) (hs : sl ≤ ms) (h : ∃ fs1 v2, (M).1 x0 = some (.inl (9, fs1)) ∧ fs1[3]? = some (.ref v2) ∧ (∃ ty3 A4, (M).1 v2 = some (.inr (ty3, A4)) ∧ (((Int32.ofNat A4.1) ≤ x7 → Qr none M) ∧ (¬ (Int32.ofNat A4.1) ≤ x7 → (∃ fs18, (M).1 x3 = some (.inl (6, fs18))) ∧ kz_C G (d + 3) 0 0 mX6_lineEnd [.ref x3, .int x6, .int x4] M (fun v M5 => ∃ r6 : Int32, v = some (.int r6) ∧ (∃ fs8 v9, (M5).1 x0 = some (.inl (9, fs8)) ∧ fs8[3]? = some (.ref v9) ∧ (c + 1 ≤ mc ∧ sl + 7 ≤ ms ∧ (kz_C G (d + 3) 0 0 mX3_init [.ref ((M5).2), .ref x3, .int x6, .int r6, .int x4, .int x5] (kz_nw M5 (.inl (3, [.null, .int 0, .int 0, .int 0, .int 0, .int 0, .int 0]))) (fun v M11 => v = none ∧ (∃ n14 f15 vs16, (M11).1 v9 = some (.inr (.object "LineOffice$Line", n14, .inr (.inr (.inr (.inr f15))))) ∧ (M11).1 ((M5).2) = some (.inl (3, vs16)) ∧ vp_in x7 n14 ∧ (zX10_init_42 G d mc ms Qr Qx x0 x3 x4 x5 r6 (x7 + 1) (kz_up M11 v9 (.inr (.object "LineOffice$Line", n14, .inr (.inr (.inr (.inr (va_up f15 (x7 : Int32).toNatClampNeg (some ((M5).2))))))))) (c + 1) (sl + 7)))) Qx)))) Qx)))) : zX10_init_42 G d mc ms Qr Qx x0 x3 x4 x5 x6 x7  M c sl := by
  show kz_Z G (d + 4) mc ms mX10_init Qr Qx 42 [(0, .ref x0), (3, .ref x3), (4, .int x4), (5, .int x5), (6, .int x6), (7, .int x7)] [] M c sl
  refine kz_iload (pc := 42) 5 (i := 7) rfl dX10_init_42 ?_
  refine kz_aload_n (pc := 44) 0 (v := .ref x0) (i := 0) rfl rfl rfl dX10_init_44 ?_
  obtain ⟨fs1, v2, hM, hv, h⟩ := h
  refine kz_getf (pc := 45) (k := 3) kcX10 hM hv (by decide) kw_1196 dX10_init_45 ?_
  obtain ⟨ty3, A4, hM, h⟩ := h
  refine kz_alen (pc := 48) hM rfl dX10_init_48 ?_
  refine kz_icmp_ge (pc := 49) (tgt := 95) (by decide) dX10_init_49 (fun hb => ?_) (fun hb => ?_)
  · replace h := h.1 hb
    exact kz_vret (pc := 95) rfl hc hs dX10_init_95 h
  · replace h := h.2 hb
    refine kz_aload_n (pc := 52) 1 (v := .ref x3) (i := 3) rfl rfl rfl dX10_init_52 ?_
    refine kz_iload (pc := 53) 4 (i := 6) rfl dX10_init_53 ?_
    refine kz_iload (pc := 55) 2 (i := 4) rfl dX10_init_55 ?_
    obtain ⟨⟨fs18, he⟩, h⟩ := h
    refine kz_callV (pc := 57) (μ' := mX6_lineEnd) (ci := 6) (q := (RX6, TX6, 3)) (b := x3) (d' := d + 3) (mc' := 0) (ms' := 0) (As := [.int x6, .int x4]) (st := []) (c := c) (sl := sl) kmX6_lineEnd kw_1141 (by omega) rfl (Nat.le_of_ble_eq_true rfl) he rfl rfl hc hs dX10_init_57 (fun E M9 hx => kz_Tout rfl hc hs hx) (kz_Cmono (fun v M5 h => ?_) (fun _ _ h => h) h)
    obtain ⟨r6, rfl, h⟩ := h
    show kz_Z G (d + 4) mc ms mX10_init Qr Qx 60 [(0, .ref x0), (3, .ref x3), (4, .int x4), (5, .int x5), (6, .int x6), (7, .int x7)] [.int r6] M5 c sl
    refine kz_istore (pc := 60) (i := 8) (ls' := [(0, .ref x0), (3, .ref x3), (4, .int x4), (5, .int x5), (6, .int x6), (7, .int x7)]) (by decide) rfl dX10_init_60 ?_
    refine kz_aload_n (pc := 62) 1 (v := .ref x0) (i := 0) rfl rfl rfl dX10_init_62 ?_
    obtain ⟨fs8, v9, hM, hv, h⟩ := h
    refine kz_getf (pc := 63) (k := 3) kcX10 hM hv (by decide) kw_1196 dX10_init_63 ?_
    refine kz_iload (pc := 66) 6 (i := 7) rfl dX10_init_66 ?_
    obtain ⟨hc10, hs10, h⟩ := h
    refine kz_newc (pc := 68) kcX3 rfl kw_1140 kw_1142 kw_32 hc10 hs10 dX10_init_68 ?_
    refine kz_dup (pc := 71) rfl dX10_init_71 ?_
    refine kz_aload_n (pc := 72) 2 (v := .ref x3) (i := 3) rfl rfl rfl dX10_init_72 ?_
    refine kz_iload (pc := 73) 5 (i := 6) rfl dX10_init_73 ?_
    refine kz_iload (pc := 75) 0 (i := 8) rfl dX10_init_75 ?_
    refine kz_iload (pc := 77) 3 (i := 4) rfl dX10_init_77 ?_
    refine kz_iload (pc := 79) 4 (i := 5) rfl dX10_init_79 ?_
    refine kz_callI (pc := 81) (μ' := mX3_init) (b := (M5).2) (d' := d + 3) (mc' := 0) (ms' := 0) (As := [.ref x3, .int x6, .int r6, .int x4, .int x5]) (st := [.ref ((M5).2), .int x7, .ref v9]) (c := c + 1) (sl := sl + 7) kmX3_init kw_1143 (by omega) rfl (Nat.le_of_ble_eq_true rfl) hc10 hs10 dX10_init_81 (fun E M9 hx => kz_Tout rfl hc10 hs10 hx) (kz_Cmono (fun v M11 h => ?_) (fun _ _ h => h) h)
    obtain ⟨rfl, h⟩ := h
    show kz_Z G (d + 4) mc ms mX10_init Qr Qx 84 [(8, .int r6), (0, .ref x0), (3, .ref x3), (4, .int x4), (5, .int x5), (6, .int x6), (7, .int x7)] [.ref ((M5).2), .int x7, .ref v9] M11 (c + 1) (sl + 7)
    obtain ⟨n14, f15, vs16, hM, hx, hi, h⟩ := h
    refine kz_aast (pc := 84) (ci := 3) (r := (RX3, TX3, 7)) rfl hM hx hi dX10_init_84 ?_
    refine kz_iload (pc := 85) 0 (i := 8) rfl dX10_init_85 ?_
    refine kz_istore (pc := 87) (i := 6) (ls' := [(8, .int r6), (0, .ref x0), (3, .ref x3), (4, .int x4), (5, .int x5), (7, .int x7)]) (by decide) rfl dX10_init_87 ?_
    refine kz_iinc (pc := 89) 6 (i := 7) (v := x7 + 1) (ls' := [(6, .int r6), (8, .int r6), (0, .ref x0), (3, .ref x3), (4, .int x4), (5, .int x5)]) rfl (congrArg (fun z => x7 + z) (by decide)) (by decide) rfl dX10_init_89 ?_
    refine kz_goto (pc := 92) (tgt := 42) (by decide) dX10_init_92 ?_
    refine kz_sub [3, 4, 5, 6, 1, 0] rfl ?_
    exact h
theorem dX10_init__0 : decode cX10_init_ 0 = .ok (.aload_n 0, 1) := by decide +kernel
theorem dX10_init__1 : decode cX10_init_ 1 = .ok (.invokespecial 3, 3) := by decide +kernel
theorem dX10_init__4 : decode cX10_init_ 4 = .ok (.aload_n 0, 1) := by decide +kernel
theorem dX10_init__5 : decode cX10_init_ 5 = .ok (.aload_n 1, 1) := by decide +kernel
theorem dX10_init__6 : decode cX10_init_ 6 = .ok (.getfield 9, 3) := by decide +kernel
theorem dX10_init__9 : decode cX10_init_ 9 = .ok (.putfield 9, 3) := by decide +kernel
theorem dX10_init__12 : decode cX10_init_ 12 = .ok (.aload_n 0, 1) := by decide +kernel
theorem dX10_init__13 : decode cX10_init_ 13 = .ok (.aload_n 1, 1) := by decide +kernel
theorem dX10_init__14 : decode cX10_init_ 14 = .ok (.getfield 15, 3) := by decide +kernel
theorem dX10_init__17 : decode cX10_init_ 17 = .ok (.putfield 15, 3) := by decide +kernel
theorem dX10_init__20 : decode cX10_init_ 20 = .ok (.aload_n 0, 1) := by decide +kernel
theorem dX10_init__21 : decode cX10_init_ 21 = .ok (.aload_n 1, 1) := by decide +kernel
theorem dX10_init__22 : decode cX10_init_ 22 = .ok (.getfield 18, 3) := by decide +kernel
theorem dX10_init__25 : decode cX10_init_ 25 = .ok (.putfield 18, 3) := by decide +kernel
theorem dX10_init__28 : decode cX10_init_ 28 = .ok (.aload_n 0, 1) := by decide +kernel
theorem dX10_init__29 : decode cX10_init_ 29 = .ok (.aload_n 2, 1) := by decide +kernel
theorem dX10_init__30 : decode cX10_init_ 30 = .ok (.putfield 36, 3) := by decide +kernel
theorem dX10_init__33 : decode cX10_init_ 33 = .ok (.return_, 1) := by decide +kernel
theorem rX10_init__0 {G : kz_G} {d : Nat} {Qr : Option Value → kz_M → Prop} {Qx : String → kz_M → Prop} {a0 : Nat} {p1 : Nat} {p2 : Nat}  {M : kz_M} (h : ∃ fs1 v2, (M).1 p1 = some (.inl (9, fs1)) ∧ fs1[0]? = some (.int v2) ∧ (∃ fs3, (M).1 a0 = some (.inl (9, fs3)) ∧ 0 < fs3.length ∧ (∃ fs4 v5, ((kz_up M a0 (.inl (9, fs3.set 0 (.int v2))))).1 p1 = some (.inl (9, fs4)) ∧ fs4[1]? = some (.int v5) ∧ (∃ fs6, ((kz_up M a0 (.inl (9, fs3.set 0 (.int v2))))).1 a0 = some (.inl (9, fs6)) ∧ 1 < fs6.length ∧ (∃ fs7 v8, ((kz_up (kz_up M a0 (.inl (9, fs3.set 0 (.int v2)))) a0 (.inl (9, fs6.set 1 (.int v5))))).1 p1 = some (.inl (9, fs7)) ∧ fs7[2]? = some (.ref v8) ∧ (∃ fs9, ((kz_up (kz_up M a0 (.inl (9, fs3.set 0 (.int v2)))) a0 (.inl (9, fs6.set 1 (.int v5))))).1 a0 = some (.inl (9, fs9)) ∧ 2 < fs9.length ∧ (∃ fs10, ((kz_up (kz_up (kz_up M a0 (.inl (9, fs3.set 0 (.int v2)))) a0 (.inl (9, fs6.set 1 (.int v5)))) a0 (.inl (9, fs9.set 2 (.ref v8))))).1 a0 = some (.inl (9, fs10)) ∧ 3 < fs10.length ∧ (∀ M11, M11 = kz_up (kz_up (kz_up (kz_up M a0 (.inl (9, fs3.set 0 (.int v2)))) a0 (.inl (9, fs6.set 1 (.int v5)))) a0 (.inl (9, fs9.set 2 (.ref v8)))) a0 (.inl (9, fs10.set 3 (.ref p2))) → Qr none M11)))))))) : kz_C G (d + 1) 0 0 mX10_init_ [.ref a0, .ref p1, .ref p2] M Qr Qx := by
  refine kz_enter (n := 2) kmX10_init_.1 (Nat.le_of_ble_eq_true rfl) (ls := [(0, .ref a0), (1, .ref p1), (2, .ref p2)]) rfl ?_
  refine kz_aload_n (pc := 0) 0 (v := .ref a0) (i := 0) rfl rfl rfl dX10_init__0 ?_
  refine kz_objInit (pc := 1) kw_1124 kw_43 kw_44 (by omega) (Nat.le_of_ble_eq_true rfl) dX10_init__1 ?_
  refine kz_aload_n (pc := 4) 0 (v := .ref a0) (i := 0) rfl rfl rfl dX10_init__4 ?_
  refine kz_aload_n (pc := 5) 1 (v := .ref p1) (i := 1) rfl rfl rfl dX10_init__5 ?_
  obtain ⟨fs1, v2, hM, hv, h⟩ := h
  refine kz_getf (pc := 6) (k := 0) kcX10 hM hv (by decide) kw_1187 dX10_init__6 ?_
  obtain ⟨fs3, hM, hlen, h⟩ := h
  refine kz_putF (pc := 9) (k := 0) kcX10 hM (by decide) hlen rfl rfl kw_1187 rfl rfl rfl dX10_init__9 ?_
  refine kz_aload_n (pc := 12) 0 (v := .ref a0) (i := 0) rfl rfl rfl dX10_init__12 ?_
  refine kz_aload_n (pc := 13) 1 (v := .ref p1) (i := 1) rfl rfl rfl dX10_init__13 ?_
  obtain ⟨fs4, v5, hM, hv, h⟩ := h
  refine kz_getf (pc := 14) (k := 1) kcX10 hM hv (by decide) kw_1190 dX10_init__14 ?_
  obtain ⟨fs6, hM, hlen, h⟩ := h
  refine kz_putF (pc := 17) (k := 1) kcX10 hM (by decide) hlen rfl rfl kw_1190 rfl rfl rfl dX10_init__17 ?_
  refine kz_aload_n (pc := 20) 0 (v := .ref a0) (i := 0) rfl rfl rfl dX10_init__20 ?_
  refine kz_aload_n (pc := 21) 1 (v := .ref p1) (i := 1) rfl rfl rfl dX10_init__21 ?_
  obtain ⟨fs7, v8, hM, hv, h⟩ := h
  refine kz_getf (pc := 22) (k := 2) kcX10 hM hv (by decide) kw_1193 dX10_init__22 ?_
  obtain ⟨fs9, hM, hlen, h⟩ := h
  refine kz_putF (pc := 25) (k := 2) kcX10 hM (by decide) hlen rfl rfl kw_1193 rfl rfl rfl dX10_init__25 ?_
  refine kz_aload_n (pc := 28) 0 (v := .ref a0) (i := 0) rfl rfl rfl dX10_init__28 ?_
  refine kz_aload_n (pc := 29) 2 (v := .ref p2) (i := 2) rfl rfl rfl dX10_init__29 ?_
  obtain ⟨fs10, hM, hlen, h⟩ := h
  refine kz_putF (pc := 30) (k := 3) kcX10 hM (by decide) hlen rfl rfl kw_1196 rfl rfl rfl dX10_init__30 ?_
  refine kz_nameM (fun M11 e9 => ?_)
  replace h := h M11 e9
  exact kz_vret (pc := 33) rfl (Nat.le_refl _) (Nat.le_refl _) dX10_init__33 h
theorem dX10_withState_0 : decode cX10_withState 0 = .ok (.aload_n 0, 1) := by decide +kernel
theorem dX10_withState_1 : decode cX10_withState 1 = .ok (.getfield 36, 3) := by decide +kernel
theorem dX10_withState_4 : decode cX10_withState 4 = .ok (.invokevirtual 46, 3) := by decide +kernel
theorem dX10_withState_7 : decode cX10_withState 7 = .ok (.checkcast 47, 3) := by decide +kernel
theorem dX10_withState_10 : decode cX10_withState 10 = .ok (.astore_n 3, 1) := by decide +kernel
theorem dX10_withState_11 : decode cX10_withState 11 = .ok (.aload_n 0, 1) := by decide +kernel
theorem dX10_withState_12 : decode cX10_withState 12 = .ok (.iload_n 1, 1) := by decide +kernel
theorem dX10_withState_13 : decode cX10_withState 13 = .ok (.invokevirtual 51, 3) := by decide +kernel
theorem dX10_withState_16 : decode cX10_withState 16 = .ok (.astore 4, 2) := by decide +kernel
theorem dX10_withState_18 : decode cX10_withState 18 = .ok (.aload 4, 2) := by decide +kernel
theorem dX10_withState_20 : decode cX10_withState 20 = .ok (.ifnull 18, 3) := by decide +kernel
theorem dX10_withState_23 : decode cX10_withState 23 = .ok (.iload_n 1, 1) := by decide +kernel
theorem dX10_withState_24 : decode cX10_withState 24 = .ok (.aload_n 3, 1) := by decide +kernel
theorem dX10_withState_25 : decode cX10_withState 25 = .ok (.arraylength, 1) := by decide +kernel
theorem dX10_withState_26 : decode cX10_withState 26 = .ok (.if_icmp .ge 12, 3) := by decide +kernel
theorem dX10_withState_29 : decode cX10_withState 29 = .ok (.aload_n 3, 1) := by decide +kernel
theorem dX10_withState_30 : decode cX10_withState 30 = .ok (.iload_n 1, 1) := by decide +kernel
theorem dX10_withState_31 : decode cX10_withState 31 = .ok (.aload 4, 2) := by decide +kernel
theorem dX10_withState_33 : decode cX10_withState 33 = .ok (.iload_n 2, 1) := by decide +kernel
theorem dX10_withState_34 : decode cX10_withState 34 = .ok (.invokevirtual 55, 3) := by decide +kernel
theorem dX10_withState_37 : decode cX10_withState 37 = .ok (.aastore, 1) := by decide +kernel
theorem dX10_withState_38 : decode cX10_withState 38 = .ok (.new 10, 3) := by decide +kernel
theorem dX10_withState_41 : decode cX10_withState 41 = .ok (.dup, 1) := by decide +kernel
theorem dX10_withState_42 : decode cX10_withState 42 = .ok (.aload_n 0, 1) := by decide +kernel
theorem dX10_withState_43 : decode cX10_withState 43 = .ok (.aload_n 3, 1) := by decide +kernel
theorem dX10_withState_44 : decode cX10_withState 44 = .ok (.invokespecial 58, 3) := by decide +kernel
theorem dX10_withState_47 : decode cX10_withState 47 = .ok (.areturn, 1) := by decide +kernel
theorem rX10_withState_0 {G : kz_G} {d : Nat} {mc ms : Nat} {Qr : Option Value → kz_M → Prop} {Qx : String → kz_M → Prop} {a0 : Nat} {p1 : Int32} {p2 : Int32}  {M : kz_M} (h : ∃ fs1 v2, (M).1 a0 = some (.inl (9, fs1)) ∧ fs1[3]? = some (.ref v2) ∧ (∃ n3 f4, (M).1 v2 = some (.inr (.object "LineOffice$Line", n3, .inr (.inr (.inr (.inr f4))))) ∧ 0 + 1 ≤ mc ∧ 0 + n3 ≤ ms ∧ (∃ x6, ((kz_nw M (.inr (.object "LineOffice$Line", n3, .inr (.inr (.inr (.inr f4))))))).1 ((M).2) = some (.inr (.object "LineOffice$Line", x6)) ∧ ((∃ fs36, ((kz_nw M (.inr (.object "LineOffice$Line", n3, .inr (.inr (.inr (.inr f4))))))).1 a0 = some (.inl (9, fs36))) ∧ kz_C G (d + 2) 0 0 mX10_lineAt [.ref a0, .int p1] (kz_nw M (.inr (.object "LineOffice$Line", n3, .inr (.inr (.inr (.inr f4)))))) (fun v M7 => ∃ r8 : Option Nat, v = some (kz_rf r8) ∧ ((r8 = none → 0 + 1 + 1 ≤ mc ∧ 0 + n3 + 4 ≤ ms ∧ (kz_C G (d + 2) 0 0 mX10_init_ [.ref ((M7).2), .ref a0, .ref ((M).2)] (kz_nw M7 (.inl (9, [.int 0, .int 0, .null, .null]))) (fun v M12 => v = none ∧ (Qr (some (.ref ((M7).2))) M12)) Qx)) ∧ (∀ y10, r8 = some y10 → ∃ ty16 A17, (M7).1 ((M).2) = some (.inr (ty16, A17)) ∧ (((Int32.ofNat A17.1) ≤ p1 → 0 + 1 + 1 ≤ mc ∧ 0 + n3 + 4 ≤ ms ∧ (kz_C G (d + 2) 0 0 mX10_init_ [.ref ((M7).2), .ref a0, .ref ((M).2)] (kz_nw M7 (.inl (9, [.int 0, .int 0, .null, .null]))) (fun v M19 => v = none ∧ (Qr (some (.ref ((M7).2))) M19)) Qx)) ∧ (¬ (Int32.ofNat A17.1) ≤ p1 → (∃ fs35, (M7).1 y10 = some (.inl (3, fs35))) ∧ ∃ mc25 ms25, 0 + 1 + mc25 ≤ mc ∧ 0 + n3 + ms25 ≤ ms ∧ kz_C G (d + 2) mc25 ms25 mX3_withState [.ref y10, .int p2] M7 (fun v M23 => ∃ r24 : Nat, v = some (.ref r24) ∧ (∃ n26 f27 vs28, (M23).1 ((M).2) = some (.inr (.object "LineOffice$Line", n26, .inr (.inr (.inr (.inr f27))))) ∧ (M23).1 r24 = some (.inl (3, vs28)) ∧ vp_in p1 n26 ∧ (0 + 1 + mc25 + 1 ≤ mc ∧ 0 + n3 + ms25 + 4 ≤ ms ∧ (∀ M30, M30 = kz_nw (kz_up M23 ((M).2) (.inr (.object "LineOffice$Line", n26, .inr (.inr (.inr (.inr (va_up f27 (p1 : Int32).toNatClampNeg (some r24)))))))) (.inl (9, [.int 0, .int 0, .null, .null])) → kz_C G (d + 2) 0 0 mX10_init_ [.ref ((kz_up M23 ((M).2) (.inr (.object "LineOffice$Line", n26, .inr (.inr (.inr (.inr (va_up f27 (p1 : Int32).toNatClampNeg (some r24)))))))).2), .ref a0, .ref ((M).2)] M30 (fun v M31 => v = none ∧ (Qr (some (.ref ((kz_up M23 ((M).2) (.inr (.object "LineOffice$Line", n26, .inr (.inr (.inr (.inr (va_up f27 (p1 : Int32).toNatClampNeg (some r24)))))))).2))) M31)) Qx)))) Qx))))) Qx)))) : kz_C G (d + 3) mc ms mX10_withState [.ref a0, .int p1, .int p2] M Qr Qx := by
  refine kz_enter (n := 2) kmX10_withState.1 (Nat.le_of_ble_eq_true rfl) (ls := [(0, .ref a0), (1, .int p1), (2, .int p2)]) rfl ?_
  refine kz_aload_n (pc := 0) 0 (v := .ref a0) (i := 0) rfl rfl rfl dX10_withState_0 ?_
  obtain ⟨fs1, v2, hM, hv, h⟩ := h
  refine kz_getf (pc := 1) (k := 3) kcX10 hM hv (by decide) kw_1196 dX10_withState_1 ?_
  obtain ⟨n3, f4, hM, hc5, hs5, h⟩ := h
  refine kz_clone (pc := 4) (ad := "[LLineOffice$Line;") (ty := .object "LineOffice$Line") ⟨kw_1475, kw_1476, kw_551, kw_552, kw_1477, kw_1478⟩ (by decide) hM (kz_fitQ _ _ _) (kz_fitQs _ _ _) (by omega) (Nat.le_of_ble_eq_true rfl) hc5 hs5 dX10_withState_4 ?_
  obtain ⟨x6, hM, h⟩ := h
  refine kz_castA (pc := 7) (ty := .object "LineOffice$Line") kw_1479 (by decide) hM dX10_withState_7 ?_
  refine kz_astore_n (pc := 10) (i := 3) (v := .ref ((M).2)) (ls' := [(0, .ref a0), (1, .int p1), (2, .int p2)]) rfl rfl (by decide) rfl dX10_withState_10 ?_
  refine kz_aload_n (pc := 11) 1 (v := .ref a0) (i := 0) rfl rfl rfl dX10_withState_11 ?_
  refine kz_iload_n (pc := 12) 2 (i := 1) rfl rfl dX10_withState_12 ?_
  obtain ⟨⟨fs36, he⟩, h⟩ := h
  refine kz_callV (pc := 13) (μ' := mX10_lineAt) (ci := 9) (q := (RX10, TX10, 4)) (b := a0) (d' := d + 2) (mc' := 0) (ms' := 0) (As := [.int p1]) (st := []) (c := 0 + 1) (sl := 0 + n3) kmX10_lineAt kw_1480 (by omega) rfl (Nat.le_of_ble_eq_true rfl) he rfl rfl hc5 hs5 dX10_withState_13 (fun E M9 hx => kz_Tout rfl hc5 hs5 hx) (kz_Cmono (fun v M7 h => ?_) (fun _ _ h => h) h)
  obtain ⟨r8, rfl, h⟩ := h
  show kz_Z G (d + 3) mc ms mX10_withState Qr Qx 16 [(3, .ref ((M).2)), (0, .ref a0), (1, .int p1), (2, .int p2)] [kz_rf r8] M7 (0 + 1) (0 + n3)
  refine kz_astore (pc := 16) (i := 4) (v := kz_rf r8) (ls' := [(3, .ref ((M).2)), (0, .ref a0), (1, .int p1), (2, .int p2)]) (kz_isr_rf _) (by decide) rfl dX10_withState_16 ?_
  refine kz_aload (pc := 18) 0 (v := kz_rf r8) (i := 4) rfl (kz_isr_rf _) dX10_withState_18 ?_
  rcases r8 with _ | y10
  · replace h := h.1 rfl
    refine kz_ifnull (pc := 20) (tgt := 38) rfl (by decide) dX10_withState_20 (fun _ => ?_) (fun hn => absurd rfl hn)
    obtain ⟨hc11, hs11, h⟩ := h
    refine kz_newc (pc := 38) kcX10 rfl kw_1489 kw_1119 kw_31 hc11 hs11 dX10_withState_38 ?_
    refine kz_dup (pc := 41) rfl dX10_withState_41 ?_
    refine kz_aload_n (pc := 42) 2 (v := .ref a0) (i := 0) rfl rfl rfl dX10_withState_42 ?_
    refine kz_aload_n (pc := 43) 1 (v := .ref ((M).2)) (i := 3) rfl rfl rfl dX10_withState_43 ?_
    refine kz_callI (pc := 44) (μ' := mX10_init_) (b := (M7).2) (d' := d + 2) (mc' := 0) (ms' := 0) (As := [.ref a0, .ref ((M).2)]) (st := [.ref ((M7).2)]) (c := 0 + 1 + 1) (sl := 0 + n3 + 4) kmX10_init_ kw_1490 (by omega) rfl (Nat.le_of_ble_eq_true rfl) hc11 hs11 dX10_withState_44 (fun E M9 hx => kz_Tout rfl hc11 hs11 hx) (kz_Cmono (fun v M12 h => ?_) (fun _ _ h => h) h)
    obtain ⟨rfl, h⟩ := h
    show kz_Z G (d + 3) mc ms mX10_withState Qr Qx 47 [(4, .null), (3, .ref ((M).2)), (0, .ref a0), (1, .int p1), (2, .int p2)] [.ref ((M7).2)] M12 (0 + 1 + 1) (0 + n3 + 4)
    exact kz_aret (pc := 47) (v := .ref ((M7).2)) rfl rfl (Or.inl ⟨_, rfl⟩) hc11 hs11 dX10_withState_47 h
  · replace h := h.2 y10 rfl
    refine kz_ifnull (pc := 20) (tgt := 38) rfl (by decide) dX10_withState_20 (fun hn => by cases hn) (fun _ => ?_)
    refine kz_iload_n (pc := 23) 3 (i := 1) rfl rfl dX10_withState_23 ?_
    refine kz_aload_n (pc := 24) 1 (v := .ref ((M).2)) (i := 3) rfl rfl rfl dX10_withState_24 ?_
    obtain ⟨ty16, A17, hM, h⟩ := h
    refine kz_alen (pc := 25) hM rfl dX10_withState_25 ?_
    refine kz_icmp_ge (pc := 26) (tgt := 38) (by decide) dX10_withState_26 (fun hb => ?_) (fun hb => ?_)
    · replace h := h.1 hb
      obtain ⟨hc18, hs18, h⟩ := h
      refine kz_newc (pc := 38) kcX10 rfl kw_1489 kw_1119 kw_31 hc18 hs18 dX10_withState_38 ?_
      refine kz_dup (pc := 41) rfl dX10_withState_41 ?_
      refine kz_aload_n (pc := 42) 2 (v := .ref a0) (i := 0) rfl rfl rfl dX10_withState_42 ?_
      refine kz_aload_n (pc := 43) 1 (v := .ref ((M).2)) (i := 3) rfl rfl rfl dX10_withState_43 ?_
      refine kz_callI (pc := 44) (μ' := mX10_init_) (b := (M7).2) (d' := d + 2) (mc' := 0) (ms' := 0) (As := [.ref a0, .ref ((M).2)]) (st := [.ref ((M7).2)]) (c := 0 + 1 + 1) (sl := 0 + n3 + 4) kmX10_init_ kw_1490 (by omega) rfl (Nat.le_of_ble_eq_true rfl) hc18 hs18 dX10_withState_44 (fun E M9 hx => kz_Tout rfl hc18 hs18 hx) (kz_Cmono (fun v M19 h => ?_) (fun _ _ h => h) h)
      obtain ⟨rfl, h⟩ := h
      show kz_Z G (d + 3) mc ms mX10_withState Qr Qx 47 [(4, .ref y10), (3, .ref ((M).2)), (0, .ref a0), (1, .int p1), (2, .int p2)] [.ref ((M7).2)] M19 (0 + 1 + 1) (0 + n3 + 4)
      exact kz_aret (pc := 47) (v := .ref ((M7).2)) rfl rfl (Or.inl ⟨_, rfl⟩) hc18 hs18 dX10_withState_47 h
    · replace h := h.2 hb
      refine kz_aload_n (pc := 29) 1 (v := .ref ((M).2)) (i := 3) rfl rfl rfl dX10_withState_29 ?_
      refine kz_iload_n (pc := 30) 3 (i := 1) rfl rfl dX10_withState_30 ?_
      refine kz_aload (pc := 31) 0 (v := .ref y10) (i := 4) rfl rfl dX10_withState_31 ?_
      refine kz_iload_n (pc := 33) 4 (i := 2) rfl rfl dX10_withState_33 ?_
      obtain ⟨⟨fs35, he⟩, h⟩ := h
      obtain ⟨mc25, ms25, hc25, hs25, h⟩ := h
      refine kz_callV (pc := 34) (μ' := mX3_withState) (ci := 3) (q := (RX3, TX3, 7)) (b := y10) (d' := d + 2) (mc' := mc25) (ms' := ms25) (As := [.int p2]) (st := [.int p1, .ref ((M).2)]) (c := 0 + 1) (sl := 0 + n3) kmX3_withState kw_1481 (by omega) rfl (Nat.le_of_ble_eq_true rfl) he rfl rfl hc25 hs25 dX10_withState_34 (fun E M9 hx => kz_Tout rfl hc25 hs25 hx) (kz_Cmono (fun v M23 h => ?_) (fun _ _ h => h) h)
      obtain ⟨r24, rfl, h⟩ := h
      show kz_Z G (d + 3) mc ms mX10_withState Qr Qx 37 [(4, .ref y10), (3, .ref ((M).2)), (0, .ref a0), (1, .int p1), (2, .int p2)] [.ref r24, .int p1, .ref ((M).2)] M23 (0 + 1 + mc25) (0 + n3 + ms25)
      obtain ⟨n26, f27, vs28, hM, hx, hi, h⟩ := h
      refine kz_aast (pc := 37) (ci := 3) (r := (RX3, TX3, 7)) rfl hM hx hi dX10_withState_37 ?_
      obtain ⟨hc29, hs29, h⟩ := h
      refine kz_newc (pc := 38) kcX10 rfl kw_1489 kw_1119 kw_31 hc29 hs29 dX10_withState_38 ?_
      refine kz_nameM (fun M30 e9 => ?_)
      replace h := h M30 e9
      refine kz_dup (pc := 41) rfl dX10_withState_41 ?_
      refine kz_aload_n (pc := 42) 2 (v := .ref a0) (i := 0) rfl rfl rfl dX10_withState_42 ?_
      refine kz_aload_n (pc := 43) 1 (v := .ref ((M).2)) (i := 3) rfl rfl rfl dX10_withState_43 ?_
      refine kz_callI (pc := 44) (μ' := mX10_init_) (b := (kz_up M23 ((M).2) (.inr (.object "LineOffice$Line", n26, .inr (.inr (.inr (.inr (va_up f27 (p1 : Int32).toNatClampNeg (some r24)))))))).2) (d' := d + 2) (mc' := 0) (ms' := 0) (As := [.ref a0, .ref ((M).2)]) (st := [.ref ((kz_up M23 ((M).2) (.inr (.object "LineOffice$Line", n26, .inr (.inr (.inr (.inr (va_up f27 (p1 : Int32).toNatClampNeg (some r24)))))))).2)]) (c := 0 + 1 + mc25 + 1) (sl := 0 + n3 + ms25 + 4) kmX10_init_ kw_1490 (by omega) rfl (Nat.le_of_ble_eq_true rfl) hc29 hs29 dX10_withState_44 (fun E M9 hx => kz_Tout rfl hc29 hs29 hx) (kz_Cmono (fun v M31 h => ?_) (fun _ _ h => h) h)
      obtain ⟨rfl, h⟩ := h
      show kz_Z G (d + 3) mc ms mX10_withState Qr Qx 47 [(4, .ref y10), (3, .ref ((M).2)), (0, .ref a0), (1, .int p1), (2, .int p2)] [.ref ((kz_up M23 ((M).2) (.inr (.object "LineOffice$Line", n26, .inr (.inr (.inr (.inr (va_up f27 (p1 : Int32).toNatClampNeg (some r24)))))))).2)] M31 (0 + 1 + mc25 + 1) (0 + n3 + ms25 + 4)
      exact kz_aret (pc := 47) (v := .ref ((kz_up M23 ((M).2) (.inr (.object "LineOffice$Line", n26, .inr (.inr (.inr (.inr (va_up f27 (p1 : Int32).toNatClampNeg (some r24)))))))).2)) rfl rfl (Or.inl ⟨_, rfl⟩) hc29 hs29 dX10_withState_47 h
theorem dX10_size_0 : decode cX10_size 0 = .ok (.aload_n 0, 1) := by decide +kernel
theorem dX10_size_1 : decode cX10_size 1 = .ok (.getfield 36, 3) := by decide +kernel
theorem dX10_size_4 : decode cX10_size 4 = .ok (.arraylength, 1) := by decide +kernel
theorem dX10_size_5 : decode cX10_size 5 = .ok (.ireturn, 1) := by decide +kernel
theorem rX10_size_0 {G : kz_G} {d : Nat} {Qr : Option Value → kz_M → Prop} {Qx : String → kz_M → Prop} {a0 : Nat}  {M : kz_M} (h : ∃ fs1 v2, (M).1 a0 = some (.inl (9, fs1)) ∧ fs1[3]? = some (.ref v2) ∧ (∃ ty3 A4, (M).1 v2 = some (.inr (ty3, A4)) ∧ (Qr (some (.int (Int32.ofNat A4.1))) M))) : kz_C G d 0 0 mX10_size [.ref a0] M Qr Qx := by
  refine kz_enter (n := 0) kmX10_size.1 (Nat.le_of_ble_eq_true rfl) (ls := [(0, .ref a0)]) rfl ?_
  refine kz_aload_n (pc := 0) 0 (v := .ref a0) (i := 0) rfl rfl rfl dX10_size_0 ?_
  obtain ⟨fs1, v2, hM, hv, h⟩ := h
  refine kz_getf (pc := 1) (k := 3) kcX10 hM hv (by decide) kw_1196 dX10_size_1 ?_
  obtain ⟨ty3, A4, hM, h⟩ := h
  refine kz_alen (pc := 4) hM rfl dX10_size_4 ?_
  exact kz_iret (pc := 5) rfl (Nat.le_refl _) (Nat.le_refl _) dX10_size_5 h
theorem dX10_lineAt_0 : decode cX10_lineAt 0 = .ok (.iload_n 1, 1) := by decide +kernel
theorem dX10_lineAt_1 : decode cX10_lineAt 1 = .ok (.ifCond .lt 21, 3) := by decide +kernel
theorem dX10_lineAt_4 : decode cX10_lineAt 4 = .ok (.iload_n 1, 1) := by decide +kernel
theorem dX10_lineAt_5 : decode cX10_lineAt 5 = .ok (.aload_n 0, 1) := by decide +kernel
theorem dX10_lineAt_6 : decode cX10_lineAt 6 = .ok (.getfield 36, 3) := by decide +kernel
theorem dX10_lineAt_9 : decode cX10_lineAt 9 = .ok (.arraylength, 1) := by decide +kernel
theorem dX10_lineAt_10 : decode cX10_lineAt 10 = .ok (.if_icmp .ge 12, 3) := by decide +kernel
theorem dX10_lineAt_13 : decode cX10_lineAt 13 = .ok (.aload_n 0, 1) := by decide +kernel
theorem dX10_lineAt_14 : decode cX10_lineAt 14 = .ok (.getfield 36, 3) := by decide +kernel
theorem dX10_lineAt_17 : decode cX10_lineAt 17 = .ok (.iload_n 1, 1) := by decide +kernel
theorem dX10_lineAt_18 : decode cX10_lineAt 18 = .ok (.aaload, 1) := by decide +kernel
theorem dX10_lineAt_19 : decode cX10_lineAt 19 = .ok (.goto 4, 3) := by decide +kernel
theorem dX10_lineAt_22 : decode cX10_lineAt 22 = .ok (.aconst_null, 1) := by decide +kernel
theorem dX10_lineAt_23 : decode cX10_lineAt 23 = .ok (.areturn, 1) := by decide +kernel
theorem rX10_lineAt_0 {G : kz_G} {d : Nat} {Qr : Option Value → kz_M → Prop} {Qx : String → kz_M → Prop} {a0 : Nat} {p1 : Int32}  {M : kz_M} (h : (p1 < 0 → Qr (some (.null)) M) ∧ (¬ p1 < 0 → ∃ fs1 v2, (M).1 a0 = some (.inl (9, fs1)) ∧ fs1[3]? = some (.ref v2) ∧ (∃ ty3 A4, (M).1 v2 = some (.inr (ty3, A4)) ∧ (((Int32.ofNat A4.1) ≤ p1 → Qr (some (.null)) M) ∧ (¬ (Int32.ofNat A4.1) ≤ p1 → ∃ fs5 v6, (M).1 a0 = some (.inl (9, fs5)) ∧ fs5[3]? = some (.ref v6) ∧ (∃ n7 f8, (M).1 v6 = some (.inr (.object "LineOffice$Line", n7, .inr (.inr (.inr (.inr f8))))) ∧ vp_in p1 n7 ∧ (∀ o9 : Option Nat, f8 p1.toNatClampNeg = o9 → Qr (some (kz_rf o9)) M))))))) : kz_C G d 0 0 mX10_lineAt [.ref a0, .int p1] M Qr Qx := by
  refine kz_enter (n := 1) kmX10_lineAt.1 (Nat.le_of_ble_eq_true rfl) (ls := [(0, .ref a0), (1, .int p1)]) rfl ?_
  refine kz_iload_n (pc := 0) 1 (i := 1) rfl rfl dX10_lineAt_0 ?_
  refine kz_if_lt (pc := 1) (tgt := 22) (by decide) dX10_lineAt_1 (fun hb => ?_) (fun hb => ?_)
  · replace h := h.1 hb
    refine kz_null (pc := 22) dX10_lineAt_22 ?_
    exact kz_aret (pc := 23) (v := .null) rfl rfl (Or.inl ⟨_, rfl⟩) (Nat.le_refl _) (Nat.le_refl _) dX10_lineAt_23 h
  · replace h := h.2 hb
    refine kz_iload_n (pc := 4) 1 (i := 1) rfl rfl dX10_lineAt_4 ?_
    refine kz_aload_n (pc := 5) 0 (v := .ref a0) (i := 0) rfl rfl rfl dX10_lineAt_5 ?_
    obtain ⟨fs1, v2, hM, hv, h⟩ := h
    refine kz_getf (pc := 6) (k := 3) kcX10 hM hv (by decide) kw_1196 dX10_lineAt_6 ?_
    obtain ⟨ty3, A4, hM, h⟩ := h
    refine kz_alen (pc := 9) hM rfl dX10_lineAt_9 ?_
    refine kz_icmp_ge (pc := 10) (tgt := 22) (by decide) dX10_lineAt_10 (fun hb => ?_) (fun hb => ?_)
    · replace h := h.1 hb
      refine kz_null (pc := 22) dX10_lineAt_22 ?_
      exact kz_aret (pc := 23) (v := .null) rfl rfl (Or.inl ⟨_, rfl⟩) (Nat.le_refl _) (Nat.le_refl _) dX10_lineAt_23 h
    · replace h := h.2 hb
      refine kz_aload_n (pc := 13) 0 (v := .ref a0) (i := 0) rfl rfl rfl dX10_lineAt_13 ?_
      obtain ⟨fs5, v6, hM, hv, h⟩ := h
      refine kz_getf (pc := 14) (k := 3) kcX10 hM hv (by decide) kw_1196 dX10_lineAt_14 ?_
      refine kz_iload_n (pc := 17) 1 (i := 1) rfl rfl dX10_lineAt_17 ?_
      obtain ⟨n7, f8, hM, hi, h⟩ := h
      refine kz_aald (pc := 18) hM hi dX10_lineAt_18 ?_
      generalize ho : f8 p1.toNatClampNeg = o9 at h ⊢
      replace h := h _ rfl
      refine kz_goto (pc := 19) (tgt := 23) (by decide) dX10_lineAt_19 ?_
      exact kz_aret (pc := 23) (v := kz_rf o9) (kz_isr_rf _) rfl (Or.inl ⟨_, rfl⟩) (Nat.le_refl _) (Nat.le_refl _) dX10_lineAt_23 h
theorem dX10_linesOf_0 : decode cX10_linesOf 0 = .ok (.iconst 0, 1) := by decide +kernel
theorem dX10_linesOf_1 : decode cX10_linesOf 1 = .ok (.istore_n 2, 1) := by decide +kernel
theorem dX10_linesOf_2 : decode cX10_linesOf 2 = .ok (.aload_n 0, 1) := by decide +kernel
theorem dX10_linesOf_3 : decode cX10_linesOf 3 = .ok (.getfield 36, 3) := by decide +kernel
theorem dX10_linesOf_6 : decode cX10_linesOf 6 = .ok (.astore_n 3, 1) := by decide +kernel
theorem dX10_linesOf_7 : decode cX10_linesOf 7 = .ok (.aload_n 3, 1) := by decide +kernel
theorem dX10_linesOf_8 : decode cX10_linesOf 8 = .ok (.arraylength, 1) := by decide +kernel
theorem dX10_linesOf_9 : decode cX10_linesOf 9 = .ok (.istore 4, 2) := by decide +kernel
theorem dX10_linesOf_11 : decode cX10_linesOf 11 = .ok (.iconst 0, 1) := by decide +kernel
theorem dX10_linesOf_12 : decode cX10_linesOf 12 = .ok (.istore 5, 2) := by decide +kernel
theorem dX10_linesOf_14 : decode cX10_linesOf 14 = .ok (.iload 5, 2) := by decide +kernel
theorem dX10_linesOf_16 : decode cX10_linesOf 16 = .ok (.iload 4, 2) := by decide +kernel
theorem dX10_linesOf_18 : decode cX10_linesOf 18 = .ok (.if_icmp .ge 37, 3) := by decide +kernel
theorem dX10_linesOf_21 : decode cX10_linesOf 21 = .ok (.aload_n 3, 1) := by decide +kernel
theorem dX10_linesOf_22 : decode cX10_linesOf 22 = .ok (.iload 5, 2) := by decide +kernel
theorem dX10_linesOf_24 : decode cX10_linesOf 24 = .ok (.aaload, 1) := by decide +kernel
theorem dX10_linesOf_25 : decode cX10_linesOf 25 = .ok (.astore 6, 2) := by decide +kernel
theorem dX10_linesOf_27 : decode cX10_linesOf 27 = .ok (.iload_n 2, 1) := by decide +kernel
theorem dX10_linesOf_28 : decode cX10_linesOf 28 = .ok (.aload 6, 2) := by decide +kernel
theorem dX10_linesOf_30 : decode cX10_linesOf 30 = .ok (.ifnull 16, 3) := by decide +kernel
theorem dX10_linesOf_33 : decode cX10_linesOf 33 = .ok (.aload 6, 2) := by decide +kernel
theorem dX10_linesOf_35 : decode cX10_linesOf 35 = .ok (.iload_n 1, 1) := by decide +kernel
theorem dX10_linesOf_36 : decode cX10_linesOf 36 = .ok (.invokevirtual 71, 3) := by decide +kernel
theorem dX10_linesOf_39 : decode cX10_linesOf 39 = .ok (.ifCond .eq 7, 3) := by decide +kernel
theorem dX10_linesOf_42 : decode cX10_linesOf 42 = .ok (.iconst 1, 1) := by decide +kernel
theorem dX10_linesOf_43 : decode cX10_linesOf 43 = .ok (.goto 4, 3) := by decide +kernel
theorem dX10_linesOf_46 : decode cX10_linesOf 46 = .ok (.iconst 0, 1) := by decide +kernel
theorem dX10_linesOf_47 : decode cX10_linesOf 47 = .ok (.iadd, 1) := by decide +kernel
theorem dX10_linesOf_48 : decode cX10_linesOf 48 = .ok (.istore_n 2, 1) := by decide +kernel
theorem dX10_linesOf_49 : decode cX10_linesOf 49 = .ok (.iinc 5 1, 3) := by decide +kernel
theorem dX10_linesOf_52 : decode cX10_linesOf 52 = .ok (.goto (-38), 3) := by decide +kernel
theorem dX10_linesOf_55 : decode cX10_linesOf 55 = .ok (.iload_n 2, 1) := by decide +kernel
theorem dX10_linesOf_56 : decode cX10_linesOf 56 = .ok (.ireturn, 1) := by decide +kernel
def zX10_linesOf_14 (G : kz_G) (d : Nat) (Qr : Option Value → kz_M → Prop) (Qx : String → kz_M → Prop) (x1 : Int32) (x2 : Int32) (x3 : Nat) (x4 : Int32) (x5 : Int32)  (M : kz_M) : Prop := kz_Z G (d + 2) 0 0 mX10_linesOf Qr Qx 14 [(1, .int x1), (2, .int x2), (3, .ref x3), (4, .int x4), (5, .int x5)] [] M 0 0
theorem rX10_linesOf_0 {G : kz_G} {d : Nat} {Qr : Option Value → kz_M → Prop} {Qx : String → kz_M → Prop} {a0 : Nat} {p1 : Int32}  {M : kz_M} (h : ∃ fs1 v2, (M).1 a0 = some (.inl (9, fs1)) ∧ fs1[3]? = some (.ref v2) ∧ (∃ ty3 A4, (M).1 v2 = some (.inr (ty3, A4)) ∧ (zX10_linesOf_14 G d Qr Qx p1 0 v2 (Int32.ofNat A4.1) 0 M))) : kz_C G (d + 2) 0 0 mX10_linesOf [.ref a0, .int p1] M Qr Qx := by
  refine kz_enter (n := 1) kmX10_linesOf.1 (Nat.le_of_ble_eq_true rfl) (ls := [(0, .ref a0), (1, .int p1)]) rfl ?_
  refine kz_iconst (pc := 0) (v := 0) (by decide) dX10_linesOf_0 ?_
  refine kz_istore_n (pc := 1) (i := 2) (ls' := [(0, .ref a0), (1, .int p1)]) rfl (by decide) rfl dX10_linesOf_1 ?_
  refine kz_aload_n (pc := 2) 1 (v := .ref a0) (i := 0) rfl rfl rfl dX10_linesOf_2 ?_
  obtain ⟨fs1, v2, hM, hv, h⟩ := h
  refine kz_getf (pc := 3) (k := 3) kcX10 hM hv (by decide) kw_1196 dX10_linesOf_3 ?_
  refine kz_astore_n (pc := 6) (i := 3) (v := .ref v2) (ls' := [(2, .int 0), (0, .ref a0), (1, .int p1)]) rfl rfl (by decide) rfl dX10_linesOf_6 ?_
  refine kz_aload_n (pc := 7) 0 (v := .ref v2) (i := 3) rfl rfl rfl dX10_linesOf_7 ?_
  obtain ⟨ty3, A4, hM, h⟩ := h
  refine kz_alen (pc := 8) hM rfl dX10_linesOf_8 ?_
  refine kz_istore (pc := 9) (i := 4) (ls' := [(3, .ref v2), (2, .int 0), (0, .ref a0), (1, .int p1)]) (by decide) rfl dX10_linesOf_9 ?_
  refine kz_iconst (pc := 11) (v := 0) (by decide) dX10_linesOf_11 ?_
  refine kz_istore (pc := 12) (i := 5) (ls' := [(4, .int (Int32.ofNat A4.1)), (3, .ref v2), (2, .int 0), (0, .ref a0), (1, .int p1)]) (by decide) rfl dX10_linesOf_12 ?_
  refine kz_sub [5, 3, 2, 1, 0] rfl ?_
  exact h
theorem rX10_linesOf_14 {G : kz_G} {d : Nat} {Qr : Option Value → kz_M → Prop} {Qx : String → kz_M → Prop} {x1 : Int32} {x2 : Int32} {x3 : Nat} {x4 : Int32} {x5 : Int32}  {M : kz_M} (h : (x4 ≤ x5 → Qr (some (.int x2)) M) ∧ (¬ x4 ≤ x5 → ∃ n1 f2, (M).1 x3 = some (.inr (.object "LineOffice$Line", n1, .inr (.inr (.inr (.inr f2))))) ∧ vp_in x5 n1 ∧ (∀ o3 : Option Nat, f2 x5.toNatClampNeg = o3 → (o3 = none → zX10_linesOf_14 G d Qr Qx x1 (x2 + 0) x3 x4 (x5 + 1) M) ∧ (∀ y4, o3 = some y4 → (∃ fs8, (M).1 y4 = some (.inl (3, fs8))) ∧ kz_C G (d + 1) 0 0 mX3_isOf [.ref y4, .int x1] M (fun v M5 => ∃ r6 : Int32, v = some (.int r6) ∧ ((r6 = 0 → zX10_linesOf_14 G d Qr Qx x1 (x2 + 0) x3 x4 (x5 + 1) M5) ∧ (¬ r6 = 0 → zX10_linesOf_14 G d Qr Qx x1 (x2 + 1) x3 x4 (x5 + 1) M5))) Qx)))) : zX10_linesOf_14 G d Qr Qx x1 x2 x3 x4 x5  M := by
  show kz_Z G (d + 2) 0 0 mX10_linesOf Qr Qx 14 [(1, .int x1), (2, .int x2), (3, .ref x3), (4, .int x4), (5, .int x5)] [] M 0 0
  refine kz_iload (pc := 14) 4 (i := 5) rfl dX10_linesOf_14 ?_
  refine kz_iload (pc := 16) 3 (i := 4) rfl dX10_linesOf_16 ?_
  refine kz_icmp_ge (pc := 18) (tgt := 55) (by decide) dX10_linesOf_18 (fun hb => ?_) (fun hb => ?_)
  · replace h := h.1 hb
    refine kz_iload_n (pc := 55) 1 (i := 2) rfl rfl dX10_linesOf_55 ?_
    exact kz_iret (pc := 56) rfl (Nat.le_refl _) (Nat.le_refl _) dX10_linesOf_56 h
  · replace h := h.2 hb
    refine kz_aload_n (pc := 21) 2 (v := .ref x3) (i := 3) rfl rfl rfl dX10_linesOf_21 ?_
    refine kz_iload (pc := 22) 4 (i := 5) rfl dX10_linesOf_22 ?_
    obtain ⟨n1, f2, hM, hi, h⟩ := h
    refine kz_aald (pc := 24) hM hi dX10_linesOf_24 ?_
    generalize ho : f2 x5.toNatClampNeg = o3 at h ⊢
    replace h := h _ rfl
    refine kz_astore (pc := 25) (i := 6) (v := kz_rf o3) (ls' := [(1, .int x1), (2, .int x2), (3, .ref x3), (4, .int x4), (5, .int x5)]) (kz_isr_rf _) (by decide) rfl dX10_linesOf_25 ?_
    refine kz_iload_n (pc := 27) 2 (i := 2) rfl rfl dX10_linesOf_27 ?_
    refine kz_aload (pc := 28) 0 (v := kz_rf o3) (i := 6) rfl (kz_isr_rf _) dX10_linesOf_28 ?_
    rcases o3 with _ | y4
    · replace h := h.1 rfl
      refine kz_ifnull (pc := 30) (tgt := 46) rfl (by decide) dX10_linesOf_30 (fun _ => ?_) (fun hn => absurd rfl hn)
      refine kz_iconst (pc := 46) (v := 0) (by decide) dX10_linesOf_46 ?_
      refine kz_iadd (pc := 47) dX10_linesOf_47 ?_
      refine kz_istore_n (pc := 48) (i := 2) (ls' := [(6, .null), (1, .int x1), (3, .ref x3), (4, .int x4), (5, .int x5)]) rfl (by decide) rfl dX10_linesOf_48 ?_
      refine kz_iinc (pc := 49) 5 (i := 5) (v := x5 + 1) (ls' := [(2, .int (x2 + 0)), (6, .null), (1, .int x1), (3, .ref x3), (4, .int x4)]) rfl (congrArg (fun z => x5 + z) (by decide)) (by decide) rfl dX10_linesOf_49 ?_
      refine kz_goto (pc := 52) (tgt := 14) (by decide) dX10_linesOf_52 ?_
      refine kz_sub [3, 1, 4, 5, 0] rfl ?_
      exact h
    · replace h := h.2 y4 rfl
      refine kz_ifnull (pc := 30) (tgt := 46) rfl (by decide) dX10_linesOf_30 (fun hn => by cases hn) (fun _ => ?_)
      refine kz_aload (pc := 33) 0 (v := .ref y4) (i := 6) rfl rfl dX10_linesOf_33 ?_
      refine kz_iload_n (pc := 35) 1 (i := 1) rfl rfl dX10_linesOf_35 ?_
      obtain ⟨⟨fs8, he⟩, h⟩ := h
      refine kz_callV (pc := 36) (μ' := mX3_isOf) (ci := 3) (q := (RX3, TX3, 7)) (b := y4) (d' := d + 1) (mc' := 0) (ms' := 0) (As := [.int x1]) (st := [.int x2]) (c := 0) (sl := 0) kmX3_isOf kw_726 (by omega) rfl (Nat.le_of_ble_eq_true rfl) he rfl rfl (Nat.le_refl _) (Nat.le_refl _) dX10_linesOf_36 (fun E M9 hx => kz_Tout rfl (Nat.le_refl _) (Nat.le_refl _) hx) (kz_Cmono (fun v M5 h => ?_) (fun _ _ h => h) h)
      obtain ⟨r6, rfl, h⟩ := h
      show kz_Z G (d + 2) 0 0 mX10_linesOf Qr Qx 39 [(6, .ref y4), (1, .int x1), (2, .int x2), (3, .ref x3), (4, .int x4), (5, .int x5)] [.int r6, .int x2] M5 0 0
      refine kz_if_eq (pc := 39) (tgt := 46) (by decide) dX10_linesOf_39 (fun hb => ?_) (fun hb => ?_)
      · replace h := h.1 hb
        refine kz_iconst (pc := 46) (v := 0) (by decide) dX10_linesOf_46 ?_
        refine kz_iadd (pc := 47) dX10_linesOf_47 ?_
        refine kz_istore_n (pc := 48) (i := 2) (ls' := [(6, .ref y4), (1, .int x1), (3, .ref x3), (4, .int x4), (5, .int x5)]) rfl (by decide) rfl dX10_linesOf_48 ?_
        refine kz_iinc (pc := 49) 5 (i := 5) (v := x5 + 1) (ls' := [(2, .int (x2 + 0)), (6, .ref y4), (1, .int x1), (3, .ref x3), (4, .int x4)]) rfl (congrArg (fun z => x5 + z) (by decide)) (by decide) rfl dX10_linesOf_49 ?_
        refine kz_goto (pc := 52) (tgt := 14) (by decide) dX10_linesOf_52 ?_
        refine kz_sub [3, 1, 4, 5, 0] rfl ?_
        exact h
      · replace h := h.2 hb
        refine kz_iconst (pc := 42) (v := 1) (by decide) dX10_linesOf_42 ?_
        refine kz_goto (pc := 43) (tgt := 47) (by decide) dX10_linesOf_43 ?_
        refine kz_iadd (pc := 47) dX10_linesOf_47 ?_
        refine kz_istore_n (pc := 48) (i := 2) (ls' := [(6, .ref y4), (1, .int x1), (3, .ref x3), (4, .int x4), (5, .int x5)]) rfl (by decide) rfl dX10_linesOf_48 ?_
        refine kz_iinc (pc := 49) 5 (i := 5) (v := x5 + 1) (ls' := [(2, .int (x2 + 1)), (6, .ref y4), (1, .int x1), (3, .ref x3), (4, .int x4)]) rfl (congrArg (fun z => x5 + z) (by decide)) (by decide) rfl dX10_linesOf_49 ?_
        refine kz_goto (pc := 52) (tgt := 14) (by decide) dX10_linesOf_52 ?_
        refine kz_sub [3, 1, 4, 5, 0] rfl ?_
        exact h
theorem dX10_payOfCounting_0 : decode cX10_payOfCounting 0 = .ok (.iconst 0, 1) := by decide +kernel
theorem dX10_payOfCounting_1 : decode cX10_payOfCounting 1 = .ok (.istore_n 1, 1) := by decide +kernel
theorem dX10_payOfCounting_2 : decode cX10_payOfCounting 2 = .ok (.aload_n 0, 1) := by decide +kernel
theorem dX10_payOfCounting_3 : decode cX10_payOfCounting 3 = .ok (.getfield 36, 3) := by decide +kernel
theorem dX10_payOfCounting_6 : decode cX10_payOfCounting 6 = .ok (.astore_n 2, 1) := by decide +kernel
theorem dX10_payOfCounting_7 : decode cX10_payOfCounting 7 = .ok (.aload_n 2, 1) := by decide +kernel
theorem dX10_payOfCounting_8 : decode cX10_payOfCounting 8 = .ok (.arraylength, 1) := by decide +kernel
theorem dX10_payOfCounting_9 : decode cX10_payOfCounting 9 = .ok (.istore_n 3, 1) := by decide +kernel
theorem dX10_payOfCounting_10 : decode cX10_payOfCounting 10 = .ok (.iconst 0, 1) := by decide +kernel
theorem dX10_payOfCounting_11 : decode cX10_payOfCounting 11 = .ok (.istore 4, 2) := by decide +kernel
theorem dX10_payOfCounting_13 : decode cX10_payOfCounting 13 = .ok (.iload 4, 2) := by decide +kernel
theorem dX10_payOfCounting_15 : decode cX10_payOfCounting 15 = .ok (.iload_n 3, 1) := by decide +kernel
theorem dX10_payOfCounting_16 : decode cX10_payOfCounting 16 = .ok (.if_icmp .ge 40, 3) := by decide +kernel
theorem dX10_payOfCounting_19 : decode cX10_payOfCounting 19 = .ok (.aload_n 2, 1) := by decide +kernel
theorem dX10_payOfCounting_20 : decode cX10_payOfCounting 20 = .ok (.iload 4, 2) := by decide +kernel
theorem dX10_payOfCounting_22 : decode cX10_payOfCounting 22 = .ok (.aaload, 1) := by decide +kernel
theorem dX10_payOfCounting_23 : decode cX10_payOfCounting 23 = .ok (.astore 5, 2) := by decide +kernel
theorem dX10_payOfCounting_25 : decode cX10_payOfCounting 25 = .ok (.iload_n 1, 1) := by decide +kernel
theorem dX10_payOfCounting_26 : decode cX10_payOfCounting 26 = .ok (.aload 5, 2) := by decide +kernel
theorem dX10_payOfCounting_28 : decode cX10_payOfCounting 28 = .ok (.ifnull 19, 3) := by decide +kernel
theorem dX10_payOfCounting_31 : decode cX10_payOfCounting 31 = .ok (.aload 5, 2) := by decide +kernel
theorem dX10_payOfCounting_33 : decode cX10_payOfCounting 33 = .ok (.invokevirtual 67, 3) := by decide +kernel
theorem dX10_payOfCounting_36 : decode cX10_payOfCounting 36 = .ok (.ifCond .eq 11, 3) := by decide +kernel
theorem dX10_payOfCounting_39 : decode cX10_payOfCounting 39 = .ok (.aload 5, 2) := by decide +kernel
theorem dX10_payOfCounting_41 : decode cX10_payOfCounting 41 = .ok (.getfield 75, 3) := by decide +kernel
theorem dX10_payOfCounting_44 : decode cX10_payOfCounting 44 = .ok (.goto 4, 3) := by decide +kernel
theorem dX10_payOfCounting_47 : decode cX10_payOfCounting 47 = .ok (.iconst 0, 1) := by decide +kernel
theorem dX10_payOfCounting_48 : decode cX10_payOfCounting 48 = .ok (.iadd, 1) := by decide +kernel
theorem dX10_payOfCounting_49 : decode cX10_payOfCounting 49 = .ok (.istore_n 1, 1) := by decide +kernel
theorem dX10_payOfCounting_50 : decode cX10_payOfCounting 50 = .ok (.iinc 4 1, 3) := by decide +kernel
theorem dX10_payOfCounting_53 : decode cX10_payOfCounting 53 = .ok (.goto (-40), 3) := by decide +kernel
theorem dX10_payOfCounting_56 : decode cX10_payOfCounting 56 = .ok (.iload_n 1, 1) := by decide +kernel
theorem dX10_payOfCounting_57 : decode cX10_payOfCounting 57 = .ok (.ireturn, 1) := by decide +kernel
def zX10_payOfCounting_13 (G : kz_G) (d : Nat) (Qr : Option Value → kz_M → Prop) (Qx : String → kz_M → Prop) (x1 : Int32) (x2 : Nat) (x3 : Int32) (x4 : Int32)  (M : kz_M) : Prop := kz_Z G (d + 1) 0 0 mX10_payOfCounting Qr Qx 13 [(1, .int x1), (2, .ref x2), (3, .int x3), (4, .int x4)] [] M 0 0
theorem rX10_payOfCounting_0 {G : kz_G} {d : Nat} {Qr : Option Value → kz_M → Prop} {Qx : String → kz_M → Prop} {a0 : Nat}  {M : kz_M} (h : ∃ fs1 v2, (M).1 a0 = some (.inl (9, fs1)) ∧ fs1[3]? = some (.ref v2) ∧ (∃ ty3 A4, (M).1 v2 = some (.inr (ty3, A4)) ∧ (zX10_payOfCounting_13 G d Qr Qx 0 v2 (Int32.ofNat A4.1) 0 M))) : kz_C G (d + 1) 0 0 mX10_payOfCounting [.ref a0] M Qr Qx := by
  refine kz_enter (n := 0) kmX10_payOfCounting.1 (Nat.le_of_ble_eq_true rfl) (ls := [(0, .ref a0)]) rfl ?_
  refine kz_iconst (pc := 0) (v := 0) (by decide) dX10_payOfCounting_0 ?_
  refine kz_istore_n (pc := 1) (i := 1) (ls' := [(0, .ref a0)]) rfl (by decide) rfl dX10_payOfCounting_1 ?_
  refine kz_aload_n (pc := 2) 1 (v := .ref a0) (i := 0) rfl rfl rfl dX10_payOfCounting_2 ?_
  obtain ⟨fs1, v2, hM, hv, h⟩ := h
  refine kz_getf (pc := 3) (k := 3) kcX10 hM hv (by decide) kw_1196 dX10_payOfCounting_3 ?_
  refine kz_astore_n (pc := 6) (i := 2) (v := .ref v2) (ls' := [(1, .int 0), (0, .ref a0)]) rfl rfl (by decide) rfl dX10_payOfCounting_6 ?_
  refine kz_aload_n (pc := 7) 0 (v := .ref v2) (i := 2) rfl rfl rfl dX10_payOfCounting_7 ?_
  obtain ⟨ty3, A4, hM, h⟩ := h
  refine kz_alen (pc := 8) hM rfl dX10_payOfCounting_8 ?_
  refine kz_istore_n (pc := 9) (i := 3) (ls' := [(2, .ref v2), (1, .int 0), (0, .ref a0)]) rfl (by decide) rfl dX10_payOfCounting_9 ?_
  refine kz_iconst (pc := 10) (v := 0) (by decide) dX10_payOfCounting_10 ?_
  refine kz_istore (pc := 11) (i := 4) (ls' := [(3, .int (Int32.ofNat A4.1)), (2, .ref v2), (1, .int 0), (0, .ref a0)]) (by decide) rfl dX10_payOfCounting_11 ?_
  refine kz_sub [3, 2, 1, 0] rfl ?_
  exact h
theorem rX10_payOfCounting_13 {G : kz_G} {d : Nat} {Qr : Option Value → kz_M → Prop} {Qx : String → kz_M → Prop} {x1 : Int32} {x2 : Nat} {x3 : Int32} {x4 : Int32}  {M : kz_M} (h : (x3 ≤ x4 → Qr (some (.int x1)) M) ∧ (¬ x3 ≤ x4 → ∃ n1 f2, (M).1 x2 = some (.inr (.object "LineOffice$Line", n1, .inr (.inr (.inr (.inr f2))))) ∧ vp_in x4 n1 ∧ (∀ o3 : Option Nat, f2 x4.toNatClampNeg = o3 → (o3 = none → zX10_payOfCounting_13 G d Qr Qx (x1 + 0) x2 x3 (x4 + 1) M) ∧ (∀ y4, o3 = some y4 → (∃ fs10, (M).1 y4 = some (.inl (3, fs10))) ∧ kz_C G (d + 0) 0 0 mX3_counts [.ref y4] M (fun v M5 => ∃ r6 : Int32, v = some (.int r6) ∧ ((r6 = 0 → zX10_payOfCounting_13 G d Qr Qx (x1 + 0) x2 x3 (x4 + 1) M5) ∧ (¬ r6 = 0 → ∃ fs8 v9, (M5).1 y4 = some (.inl (3, fs8)) ∧ fs8[4]? = some (.int v9) ∧ (zX10_payOfCounting_13 G d Qr Qx (x1 + v9) x2 x3 (x4 + 1) M5)))) Qx)))) : zX10_payOfCounting_13 G d Qr Qx x1 x2 x3 x4  M := by
  show kz_Z G (d + 1) 0 0 mX10_payOfCounting Qr Qx 13 [(1, .int x1), (2, .ref x2), (3, .int x3), (4, .int x4)] [] M 0 0
  refine kz_iload (pc := 13) 3 (i := 4) rfl dX10_payOfCounting_13 ?_
  refine kz_iload_n (pc := 15) 2 (i := 3) rfl rfl dX10_payOfCounting_15 ?_
  refine kz_icmp_ge (pc := 16) (tgt := 56) (by decide) dX10_payOfCounting_16 (fun hb => ?_) (fun hb => ?_)
  · replace h := h.1 hb
    refine kz_iload_n (pc := 56) 0 (i := 1) rfl rfl dX10_payOfCounting_56 ?_
    exact kz_iret (pc := 57) rfl (Nat.le_refl _) (Nat.le_refl _) dX10_payOfCounting_57 h
  · replace h := h.2 hb
    refine kz_aload_n (pc := 19) 1 (v := .ref x2) (i := 2) rfl rfl rfl dX10_payOfCounting_19 ?_
    refine kz_iload (pc := 20) 3 (i := 4) rfl dX10_payOfCounting_20 ?_
    obtain ⟨n1, f2, hM, hi, h⟩ := h
    refine kz_aald (pc := 22) hM hi dX10_payOfCounting_22 ?_
    generalize ho : f2 x4.toNatClampNeg = o3 at h ⊢
    replace h := h _ rfl
    refine kz_astore (pc := 23) (i := 5) (v := kz_rf o3) (ls' := [(1, .int x1), (2, .ref x2), (3, .int x3), (4, .int x4)]) (kz_isr_rf _) (by decide) rfl dX10_payOfCounting_23 ?_
    refine kz_iload_n (pc := 25) 1 (i := 1) rfl rfl dX10_payOfCounting_25 ?_
    refine kz_aload (pc := 26) 0 (v := kz_rf o3) (i := 5) rfl (kz_isr_rf _) dX10_payOfCounting_26 ?_
    rcases o3 with _ | y4
    · replace h := h.1 rfl
      refine kz_ifnull (pc := 28) (tgt := 47) rfl (by decide) dX10_payOfCounting_28 (fun _ => ?_) (fun hn => absurd rfl hn)
      refine kz_iconst (pc := 47) (v := 0) (by decide) dX10_payOfCounting_47 ?_
      refine kz_iadd (pc := 48) dX10_payOfCounting_48 ?_
      refine kz_istore_n (pc := 49) (i := 1) (ls' := [(5, .null), (2, .ref x2), (3, .int x3), (4, .int x4)]) rfl (by decide) rfl dX10_payOfCounting_49 ?_
      refine kz_iinc (pc := 50) 4 (i := 4) (v := x4 + 1) (ls' := [(1, .int (x1 + 0)), (5, .null), (2, .ref x2), (3, .int x3)]) rfl (congrArg (fun z => x4 + z) (by decide)) (by decide) rfl dX10_payOfCounting_50 ?_
      refine kz_goto (pc := 53) (tgt := 13) (by decide) dX10_payOfCounting_53 ?_
      refine kz_sub [1, 3, 4, 0] rfl ?_
      exact h
    · replace h := h.2 y4 rfl
      refine kz_ifnull (pc := 28) (tgt := 47) rfl (by decide) dX10_payOfCounting_28 (fun hn => by cases hn) (fun _ => ?_)
      refine kz_aload (pc := 31) 0 (v := .ref y4) (i := 5) rfl rfl dX10_payOfCounting_31 ?_
      obtain ⟨⟨fs10, he⟩, h⟩ := h
      refine kz_callV (pc := 33) (μ' := mX3_counts) (ci := 3) (q := (RX3, TX3, 7)) (b := y4) (d' := d + 0) (mc' := 0) (ms' := 0) (As := []) (st := [.int x1]) (c := 0) (sl := 0) kmX3_counts kw_971 (by omega) rfl (Nat.le_of_ble_eq_true rfl) he rfl rfl (Nat.le_refl _) (Nat.le_refl _) dX10_payOfCounting_33 (fun E M9 hx => kz_Tout rfl (Nat.le_refl _) (Nat.le_refl _) hx) (kz_Cmono (fun v M5 h => ?_) (fun _ _ h => h) h)
      obtain ⟨r6, rfl, h⟩ := h
      show kz_Z G (d + 1) 0 0 mX10_payOfCounting Qr Qx 36 [(5, .ref y4), (1, .int x1), (2, .ref x2), (3, .int x3), (4, .int x4)] [.int r6, .int x1] M5 0 0
      refine kz_if_eq (pc := 36) (tgt := 47) (by decide) dX10_payOfCounting_36 (fun hb => ?_) (fun hb => ?_)
      · replace h := h.1 hb
        refine kz_iconst (pc := 47) (v := 0) (by decide) dX10_payOfCounting_47 ?_
        refine kz_iadd (pc := 48) dX10_payOfCounting_48 ?_
        refine kz_istore_n (pc := 49) (i := 1) (ls' := [(5, .ref y4), (2, .ref x2), (3, .int x3), (4, .int x4)]) rfl (by decide) rfl dX10_payOfCounting_49 ?_
        refine kz_iinc (pc := 50) 4 (i := 4) (v := x4 + 1) (ls' := [(1, .int (x1 + 0)), (5, .ref y4), (2, .ref x2), (3, .int x3)]) rfl (congrArg (fun z => x4 + z) (by decide)) (by decide) rfl dX10_payOfCounting_50 ?_
        refine kz_goto (pc := 53) (tgt := 13) (by decide) dX10_payOfCounting_53 ?_
        refine kz_sub [1, 3, 4, 0] rfl ?_
        exact h
      · replace h := h.2 hb
        refine kz_aload (pc := 39) 0 (v := .ref y4) (i := 5) rfl rfl dX10_payOfCounting_39 ?_
        obtain ⟨fs8, v9, hM, hv, h⟩ := h
        refine kz_getf (pc := 41) (k := 4) kcX3 hM hv (by decide) kw_1165 dX10_payOfCounting_41 ?_
        refine kz_goto (pc := 44) (tgt := 48) (by decide) dX10_payOfCounting_44 ?_
        refine kz_iadd (pc := 48) dX10_payOfCounting_48 ?_
        refine kz_istore_n (pc := 49) (i := 1) (ls' := [(5, .ref y4), (2, .ref x2), (3, .int x3), (4, .int x4)]) rfl (by decide) rfl dX10_payOfCounting_49 ?_
        refine kz_iinc (pc := 50) 4 (i := 4) (v := x4 + 1) (ls' := [(1, .int (x1 + v9)), (5, .ref y4), (2, .ref x2), (3, .int x3)]) rfl (congrArg (fun z => x4 + z) (by decide)) (by decide) rfl dX10_payOfCounting_50 ?_
        refine kz_goto (pc := 53) (tgt := 13) (by decide) dX10_payOfCounting_53 ?_
        refine kz_sub [1, 3, 4, 0] rfl ?_
        exact h
