/-! The rules of 10.rinput: printed by program (wip/whole/rules.py) -/
theorem dX1_init_0 : decode cX1_init 0 = .ok (.aload_n 0, 1) := by decide +kernel
theorem dX1_init_1 : decode cX1_init 1 = .ok (.invokespecial 3, 3) := by decide +kernel
theorem dX1_init_4 : decode cX1_init 4 = .ok (.aload_n 0, 1) := by decide +kernel
theorem dX1_init_5 : decode cX1_init 5 = .ok (.sipush 600, 3) := by decide +kernel
theorem dX1_init_8 : decode cX1_init 8 = .ok (.newarray .byte, 2) := by decide +kernel
theorem dX1_init_10 : decode cX1_init 10 = .ok (.putfield 9, 3) := by decide +kernel
theorem dX1_init_13 : decode cX1_init 13 = .ok (.return_, 1) := by decide +kernel
theorem rX1_init_0 {G : kz_G} {d : Nat} {mc ms : Nat} {Qr : Option Value → kz_M → Prop} {Qx : String → kz_M → Prop} {a0 : Nat}  {M : kz_M} (h : ∃ N1, ¬ (600 : Int32) < 0 ∧ (600 : Int32).toNatClampNeg = N1 ∧ N1 ≤ 60000000 ∧ 0 + 1 ≤ mc ∧ 0 + N1 ≤ ms ∧ (∃ fs3, ((kz_nw M (.inr (.byte, N1, .inl (fun _ => 0))))).1 a0 = some (.inl (1, fs3)) ∧ 0 < fs3.length ∧ (Qr none (kz_up (kz_nw M (.inr (.byte, N1, .inl (fun _ => 0)))) a0 (.inl (1, fs3.set 0 (.ref ((M).2)))))))) : kz_C G (d + 1) mc ms mX1_init [.ref a0] M Qr Qx := by
  refine kz_enter (n := 0) kmX1_init.1 (Nat.le_of_ble_eq_true rfl) (ls := [(0, .ref a0)]) rfl ?_
  refine kz_aload_n (pc := 0) 0 (v := .ref a0) (i := 0) rfl rfl rfl dX1_init_0 ?_
  refine kz_objInit (pc := 1) kw_50 kw_43 kw_44 (by omega) (Nat.le_of_ble_eq_true rfl) dX1_init_1 ?_
  refine kz_aload_n (pc := 4) 0 (v := .ref a0) (i := 0) rfl rfl rfl dX1_init_4 ?_
  refine kz_sipush (pc := 5) (v := 600) (by decide) dX1_init_5 ?_
  obtain ⟨N1, hn, hN, hb8, hc2, hs2, h⟩ := h
  refine kz_newaB (pc := 8) N1 kw_60 hn hN hb8 hc2 hs2 dX1_init_8 ?_
  obtain ⟨fs3, hM, hlen, h⟩ := h
  refine kz_putF (pc := 10) (k := 0) kcX1 hM (by decide) hlen rfl rfl kw_51 rfl rfl rfl dX1_init_10 ?_
  exact kz_vret (pc := 13) rfl hc2 hs2 dX1_init_13 h
theorem dX1_hasRoomForTwenty_0 : decode cX1_hasRoomForTwenty 0 = .ok (.aload_n 0, 1) := by decide +kernel
theorem dX1_hasRoomForTwenty_1 : decode cX1_hasRoomForTwenty 1 = .ok (.getfield 15, 3) := by decide +kernel
theorem dX1_hasRoomForTwenty_4 : decode cX1_hasRoomForTwenty 4 = .ok (.bipush 20, 2) := by decide +kernel
theorem dX1_hasRoomForTwenty_6 : decode cX1_hasRoomForTwenty 6 = .ok (.iadd, 1) := by decide +kernel
theorem dX1_hasRoomForTwenty_7 : decode cX1_hasRoomForTwenty 7 = .ok (.aload_n 0, 1) := by decide +kernel
theorem dX1_hasRoomForTwenty_8 : decode cX1_hasRoomForTwenty 8 = .ok (.getfield 9, 3) := by decide +kernel
theorem dX1_hasRoomForTwenty_11 : decode cX1_hasRoomForTwenty 11 = .ok (.arraylength, 1) := by decide +kernel
theorem dX1_hasRoomForTwenty_12 : decode cX1_hasRoomForTwenty 12 = .ok (.if_icmp .gt 7, 3) := by decide +kernel
theorem dX1_hasRoomForTwenty_15 : decode cX1_hasRoomForTwenty 15 = .ok (.iconst 1, 1) := by decide +kernel
theorem dX1_hasRoomForTwenty_16 : decode cX1_hasRoomForTwenty 16 = .ok (.goto 4, 3) := by decide +kernel
theorem dX1_hasRoomForTwenty_19 : decode cX1_hasRoomForTwenty 19 = .ok (.iconst 0, 1) := by decide +kernel
theorem dX1_hasRoomForTwenty_20 : decode cX1_hasRoomForTwenty 20 = .ok (.ireturn, 1) := by decide +kernel
theorem rX1_hasRoomForTwenty_0 {G : kz_G} {d : Nat} {Qr : Option Value → kz_M → Prop} {Qx : String → kz_M → Prop} {a0 : Nat}  {M : kz_M} (h : ∃ fs1 v2, (M).1 a0 = some (.inl (1, fs1)) ∧ fs1[1]? = some (.int v2) ∧ (∃ fs3 v4, (M).1 a0 = some (.inl (1, fs3)) ∧ fs3[0]? = some (.ref v4) ∧ (∃ ty5 A6, (M).1 v4 = some (.inr (ty5, A6)) ∧ (((Int32.ofNat A6.1) < (v2 + 20) → Qr (some (.int 0)) M) ∧ (¬ (Int32.ofNat A6.1) < (v2 + 20) → Qr (some (.int 1)) M))))) : kz_C G d 0 0 mX1_hasRoomForTwenty [.ref a0] M Qr Qx := by
  refine kz_enter (n := 0) kmX1_hasRoomForTwenty.1 (Nat.le_of_ble_eq_true rfl) (ls := [(0, .ref a0)]) rfl ?_
  refine kz_aload_n (pc := 0) 0 (v := .ref a0) (i := 0) rfl rfl rfl dX1_hasRoomForTwenty_0 ?_
  obtain ⟨fs1, v2, hM, hv, h⟩ := h
  refine kz_getf (pc := 1) (k := 1) kcX1 hM hv (by decide) kw_52 dX1_hasRoomForTwenty_1 ?_
  refine kz_bipush (pc := 4) (v := 20) (by decide) dX1_hasRoomForTwenty_4 ?_
  refine kz_iadd (pc := 6) dX1_hasRoomForTwenty_6 ?_
  refine kz_aload_n (pc := 7) 0 (v := .ref a0) (i := 0) rfl rfl rfl dX1_hasRoomForTwenty_7 ?_
  obtain ⟨fs3, v4, hM, hv, h⟩ := h
  refine kz_getf (pc := 8) (k := 0) kcX1 hM hv (by decide) kw_51 dX1_hasRoomForTwenty_8 ?_
  obtain ⟨ty5, A6, hM, h⟩ := h
  refine kz_alen (pc := 11) hM rfl dX1_hasRoomForTwenty_11 ?_
  refine kz_icmp_gt (pc := 12) (tgt := 19) (by decide) dX1_hasRoomForTwenty_12 (fun hb => ?_) (fun hb => ?_)
  · replace h := h.1 hb
    refine kz_iconst (pc := 19) (v := 0) (by decide) dX1_hasRoomForTwenty_19 ?_
    exact kz_zret (pc := 20) (ty := .boolean) rfl (by decide) (Nat.le_refl _) (Nat.le_refl _) dX1_hasRoomForTwenty_20 h
  · replace h := h.2 hb
    refine kz_iconst (pc := 15) (v := 1) (by decide) dX1_hasRoomForTwenty_15 ?_
    refine kz_goto (pc := 16) (tgt := 20) (by decide) dX1_hasRoomForTwenty_16 ?_
    exact kz_zret (pc := 20) (ty := .boolean) rfl (by decide) (Nat.le_refl _) (Nat.le_refl _) dX1_hasRoomForTwenty_20 h
theorem dX1_appendFour_0 : decode cX1_appendFour 0 = .ok (.aload_n 0, 1) := by decide +kernel
theorem dX1_appendFour_1 : decode cX1_appendFour 1 = .ok (.iload_n 1, 1) := by decide +kernel
theorem dX1_appendFour_2 : decode cX1_appendFour 2 = .ok (.bipush 24, 2) := by decide +kernel
theorem dX1_appendFour_4 : decode cX1_appendFour 4 = .ok (.ishr, 1) := by decide +kernel
theorem dX1_appendFour_5 : decode cX1_appendFour 5 = .ok (.i2b, 1) := by decide +kernel
theorem dX1_appendFour_6 : decode cX1_appendFour 6 = .ok (.invokevirtual 19, 3) := by decide +kernel
theorem dX1_appendFour_9 : decode cX1_appendFour 9 = .ok (.aload_n 0, 1) := by decide +kernel
theorem dX1_appendFour_10 : decode cX1_appendFour 10 = .ok (.iload_n 1, 1) := by decide +kernel
theorem dX1_appendFour_11 : decode cX1_appendFour 11 = .ok (.bipush 16, 2) := by decide +kernel
theorem dX1_appendFour_13 : decode cX1_appendFour 13 = .ok (.ishr, 1) := by decide +kernel
theorem dX1_appendFour_14 : decode cX1_appendFour 14 = .ok (.i2b, 1) := by decide +kernel
theorem dX1_appendFour_15 : decode cX1_appendFour 15 = .ok (.invokevirtual 19, 3) := by decide +kernel
theorem dX1_appendFour_18 : decode cX1_appendFour 18 = .ok (.aload_n 0, 1) := by decide +kernel
theorem dX1_appendFour_19 : decode cX1_appendFour 19 = .ok (.iload_n 1, 1) := by decide +kernel
theorem dX1_appendFour_20 : decode cX1_appendFour 20 = .ok (.bipush 8, 2) := by decide +kernel
theorem dX1_appendFour_22 : decode cX1_appendFour 22 = .ok (.ishr, 1) := by decide +kernel
theorem dX1_appendFour_23 : decode cX1_appendFour 23 = .ok (.i2b, 1) := by decide +kernel
theorem dX1_appendFour_24 : decode cX1_appendFour 24 = .ok (.invokevirtual 19, 3) := by decide +kernel
theorem dX1_appendFour_27 : decode cX1_appendFour 27 = .ok (.aload_n 0, 1) := by decide +kernel
theorem dX1_appendFour_28 : decode cX1_appendFour 28 = .ok (.iload_n 1, 1) := by decide +kernel
theorem dX1_appendFour_29 : decode cX1_appendFour 29 = .ok (.i2b, 1) := by decide +kernel
theorem dX1_appendFour_30 : decode cX1_appendFour 30 = .ok (.invokevirtual 19, 3) := by decide +kernel
theorem dX1_appendFour_33 : decode cX1_appendFour 33 = .ok (.return_, 1) := by decide +kernel
theorem rX1_appendFour_0 {G : kz_G} {d : Nat} {Qr : Option Value → kz_M → Prop} {Qx : String → kz_M → Prop} {a0 : Nat} {p1 : Int32}  {M : kz_M} (h : (∃ fs16, (M).1 a0 = some (.inl (1, fs16))) ∧ kz_C G (d + 0) 0 0 mX1_appendByte [.ref a0, .int ((p1 >>> (24 &&& 31) : Int32).toInt8.toInt32)] M (fun v M1 => v = none ∧ ((∃ fs15, (M1).1 a0 = some (.inl (1, fs15))) ∧ kz_C G (d + 0) 0 0 mX1_appendByte [.ref a0, .int ((p1 >>> (16 &&& 31) : Int32).toInt8.toInt32)] M1 (fun v M4 => v = none ∧ ((∃ fs14, (M4).1 a0 = some (.inl (1, fs14))) ∧ kz_C G (d + 0) 0 0 mX1_appendByte [.ref a0, .int ((p1 >>> (8 &&& 31) : Int32).toInt8.toInt32)] M4 (fun v M7 => v = none ∧ ((∃ fs13, (M7).1 a0 = some (.inl (1, fs13))) ∧ kz_C G (d + 0) 0 0 mX1_appendByte [.ref a0, .int ((p1 : Int32).toInt8.toInt32)] M7 (fun v M10 => v = none ∧ (Qr none M10)) Qx)) Qx)) Qx)) Qx) : kz_C G (d + 1) 0 0 mX1_appendFour [.ref a0, .int p1] M Qr Qx := by
  refine kz_enter (n := 1) kmX1_appendFour.1 (Nat.le_of_ble_eq_true rfl) (ls := [(0, .ref a0), (1, .int p1)]) rfl ?_
  refine kz_aload_n (pc := 0) 0 (v := .ref a0) (i := 0) rfl rfl rfl dX1_appendFour_0 ?_
  refine kz_iload_n (pc := 1) 1 (i := 1) rfl rfl dX1_appendFour_1 ?_
  refine kz_bipush (pc := 2) (v := 24) (by decide) dX1_appendFour_2 ?_
  refine kz_ishr (pc := 4) dX1_appendFour_4 ?_
  refine kz_i2b (pc := 5) dX1_appendFour_5 ?_
  obtain ⟨⟨fs16, he⟩, h⟩ := h
  refine kz_callV (pc := 6) (μ' := mX1_appendByte) (ci := 1) (q := (RX1, TX1, 2)) (b := a0) (d' := d + 0) (mc' := 0) (ms' := 0) (As := [.int ((p1 >>> (24 &&& 31) : Int32).toInt8.toInt32)]) (st := []) (c := 0) (sl := 0) kmX1_appendByte kw_439 (by omega) rfl (Nat.le_of_ble_eq_true rfl) he rfl rfl (Nat.le_refl _) (Nat.le_refl _) dX1_appendFour_6 (fun E M9 hx => kz_Tout rfl (Nat.le_refl _) (Nat.le_refl _) hx) (kz_Cmono (fun v M1 h => ?_) (fun _ _ h => h) h)
  obtain ⟨rfl, h⟩ := h
  show kz_Z G (d + 1) 0 0 mX1_appendFour Qr Qx 9 [(0, .ref a0), (1, .int p1)] [] M1 0 0
  refine kz_aload_n (pc := 9) 0 (v := .ref a0) (i := 0) rfl rfl rfl dX1_appendFour_9 ?_
  refine kz_iload_n (pc := 10) 1 (i := 1) rfl rfl dX1_appendFour_10 ?_
  refine kz_bipush (pc := 11) (v := 16) (by decide) dX1_appendFour_11 ?_
  refine kz_ishr (pc := 13) dX1_appendFour_13 ?_
  refine kz_i2b (pc := 14) dX1_appendFour_14 ?_
  obtain ⟨⟨fs15, he⟩, h⟩ := h
  refine kz_callV (pc := 15) (μ' := mX1_appendByte) (ci := 1) (q := (RX1, TX1, 2)) (b := a0) (d' := d + 0) (mc' := 0) (ms' := 0) (As := [.int ((p1 >>> (16 &&& 31) : Int32).toInt8.toInt32)]) (st := []) (c := 0) (sl := 0) kmX1_appendByte kw_439 (by omega) rfl (Nat.le_of_ble_eq_true rfl) he rfl rfl (Nat.le_refl _) (Nat.le_refl _) dX1_appendFour_15 (fun E M9 hx => kz_Tout rfl (Nat.le_refl _) (Nat.le_refl _) hx) (kz_Cmono (fun v M4 h => ?_) (fun _ _ h => h) h)
  obtain ⟨rfl, h⟩ := h
  show kz_Z G (d + 1) 0 0 mX1_appendFour Qr Qx 18 [(0, .ref a0), (1, .int p1)] [] M4 0 0
  refine kz_aload_n (pc := 18) 0 (v := .ref a0) (i := 0) rfl rfl rfl dX1_appendFour_18 ?_
  refine kz_iload_n (pc := 19) 1 (i := 1) rfl rfl dX1_appendFour_19 ?_
  refine kz_bipush (pc := 20) (v := 8) (by decide) dX1_appendFour_20 ?_
  refine kz_ishr (pc := 22) dX1_appendFour_22 ?_
  refine kz_i2b (pc := 23) dX1_appendFour_23 ?_
  obtain ⟨⟨fs14, he⟩, h⟩ := h
  refine kz_callV (pc := 24) (μ' := mX1_appendByte) (ci := 1) (q := (RX1, TX1, 2)) (b := a0) (d' := d + 0) (mc' := 0) (ms' := 0) (As := [.int ((p1 >>> (8 &&& 31) : Int32).toInt8.toInt32)]) (st := []) (c := 0) (sl := 0) kmX1_appendByte kw_439 (by omega) rfl (Nat.le_of_ble_eq_true rfl) he rfl rfl (Nat.le_refl _) (Nat.le_refl _) dX1_appendFour_24 (fun E M9 hx => kz_Tout rfl (Nat.le_refl _) (Nat.le_refl _) hx) (kz_Cmono (fun v M7 h => ?_) (fun _ _ h => h) h)
  obtain ⟨rfl, h⟩ := h
  show kz_Z G (d + 1) 0 0 mX1_appendFour Qr Qx 27 [(0, .ref a0), (1, .int p1)] [] M7 0 0
  refine kz_aload_n (pc := 27) 0 (v := .ref a0) (i := 0) rfl rfl rfl dX1_appendFour_27 ?_
  refine kz_iload_n (pc := 28) 1 (i := 1) rfl rfl dX1_appendFour_28 ?_
  refine kz_i2b (pc := 29) dX1_appendFour_29 ?_
  obtain ⟨⟨fs13, he⟩, h⟩ := h
  refine kz_callV (pc := 30) (μ' := mX1_appendByte) (ci := 1) (q := (RX1, TX1, 2)) (b := a0) (d' := d + 0) (mc' := 0) (ms' := 0) (As := [.int ((p1 : Int32).toInt8.toInt32)]) (st := []) (c := 0) (sl := 0) kmX1_appendByte kw_439 (by omega) rfl (Nat.le_of_ble_eq_true rfl) he rfl rfl (Nat.le_refl _) (Nat.le_refl _) dX1_appendFour_30 (fun E M9 hx => kz_Tout rfl (Nat.le_refl _) (Nat.le_refl _) hx) (kz_Cmono (fun v M10 h => ?_) (fun _ _ h => h) h)
  obtain ⟨rfl, h⟩ := h
  show kz_Z G (d + 1) 0 0 mX1_appendFour Qr Qx 33 [(0, .ref a0), (1, .int p1)] [] M10 0 0
  exact kz_vret (pc := 33) rfl (Nat.le_refl _) (Nat.le_refl _) dX1_appendFour_33 h
theorem dX1_appendByte_0 : decode cX1_appendByte 0 = .ok (.aload_n 0, 1) := by decide +kernel
theorem dX1_appendByte_1 : decode cX1_appendByte 1 = .ok (.getfield 15, 3) := by decide +kernel
theorem dX1_appendByte_4 : decode cX1_appendByte 4 = .ok (.ifCond .lt 35, 3) := by decide +kernel
theorem dX1_appendByte_7 : decode cX1_appendByte 7 = .ok (.aload_n 0, 1) := by decide +kernel
theorem dX1_appendByte_8 : decode cX1_appendByte 8 = .ok (.getfield 15, 3) := by decide +kernel
theorem dX1_appendByte_11 : decode cX1_appendByte 11 = .ok (.aload_n 0, 1) := by decide +kernel
theorem dX1_appendByte_12 : decode cX1_appendByte 12 = .ok (.getfield 9, 3) := by decide +kernel
theorem dX1_appendByte_15 : decode cX1_appendByte 15 = .ok (.arraylength, 1) := by decide +kernel
theorem dX1_appendByte_16 : decode cX1_appendByte 16 = .ok (.if_icmp .ge 23, 3) := by decide +kernel
theorem dX1_appendByte_19 : decode cX1_appendByte 19 = .ok (.aload_n 0, 1) := by decide +kernel
theorem dX1_appendByte_20 : decode cX1_appendByte 20 = .ok (.getfield 9, 3) := by decide +kernel
theorem dX1_appendByte_23 : decode cX1_appendByte 23 = .ok (.aload_n 0, 1) := by decide +kernel
theorem dX1_appendByte_24 : decode cX1_appendByte 24 = .ok (.getfield 15, 3) := by decide +kernel
theorem dX1_appendByte_27 : decode cX1_appendByte 27 = .ok (.iload_n 1, 1) := by decide +kernel
theorem dX1_appendByte_28 : decode cX1_appendByte 28 = .ok (.bastore, 1) := by decide +kernel
theorem dX1_appendByte_29 : decode cX1_appendByte 29 = .ok (.aload_n 0, 1) := by decide +kernel
theorem dX1_appendByte_30 : decode cX1_appendByte 30 = .ok (.dup, 1) := by decide +kernel
theorem dX1_appendByte_31 : decode cX1_appendByte 31 = .ok (.getfield 15, 3) := by decide +kernel
theorem dX1_appendByte_34 : decode cX1_appendByte 34 = .ok (.iconst 1, 1) := by decide +kernel
theorem dX1_appendByte_35 : decode cX1_appendByte 35 = .ok (.iadd, 1) := by decide +kernel
theorem dX1_appendByte_36 : decode cX1_appendByte 36 = .ok (.putfield 15, 3) := by decide +kernel
theorem dX1_appendByte_39 : decode cX1_appendByte 39 = .ok (.return_, 1) := by decide +kernel
theorem rX1_appendByte_0 {G : kz_G} {d : Nat} {Qr : Option Value → kz_M → Prop} {Qx : String → kz_M → Prop} {a0 : Nat} {p1 : Int32}  {M : kz_M} (h : ∃ fs1 v2, (M).1 a0 = some (.inl (1, fs1)) ∧ fs1[1]? = some (.int v2) ∧ ((v2 < 0 → Qr none M) ∧ (¬ v2 < 0 → ∃ fs3 v4, (M).1 a0 = some (.inl (1, fs3)) ∧ fs3[1]? = some (.int v4) ∧ (∃ fs5 v6, (M).1 a0 = some (.inl (1, fs5)) ∧ fs5[0]? = some (.ref v6) ∧ (∃ ty7 A8, (M).1 v6 = some (.inr (ty7, A8)) ∧ (((Int32.ofNat A8.1) ≤ v4 → Qr none M) ∧ (¬ (Int32.ofNat A8.1) ≤ v4 → ∃ fs9 v10, (M).1 a0 = some (.inl (1, fs9)) ∧ fs9[0]? = some (.ref v10) ∧ (∃ fs11 v12, (M).1 a0 = some (.inl (1, fs11)) ∧ fs11[1]? = some (.int v12) ∧ (∃ n13 f14, (M).1 v10 = some (.inr (.byte, n13, .inl f14)) ∧ vp_in v12 n13 ∧ (∃ fs15 v16, ((kz_up M v10 (.inr (.byte, n13, .inl (upd f14 (v12 : Int32).toNatClampNeg (vp_nar .byte p1)))))).1 a0 = some (.inl (1, fs15)) ∧ fs15[1]? = some (.int v16) ∧ (∃ fs17, ((kz_up M v10 (.inr (.byte, n13, .inl (upd f14 (v12 : Int32).toNatClampNeg (vp_nar .byte p1)))))).1 a0 = some (.inl (1, fs17)) ∧ 1 < fs17.length ∧ (Qr none (kz_up (kz_up M v10 (.inr (.byte, n13, .inl (upd f14 (v12 : Int32).toNatClampNeg (vp_nar .byte p1))))) a0 (.inl (1, fs17.set 1 (.int (v16 + 1))))))))))))))))) : kz_C G d 0 0 mX1_appendByte [.ref a0, .int p1] M Qr Qx := by
  refine kz_enter (n := 1) kmX1_appendByte.1 (Nat.le_of_ble_eq_true rfl) (ls := [(0, .ref a0), (1, .int p1)]) rfl ?_
  refine kz_aload_n (pc := 0) 0 (v := .ref a0) (i := 0) rfl rfl rfl dX1_appendByte_0 ?_
  obtain ⟨fs1, v2, hM, hv, h⟩ := h
  refine kz_getf (pc := 1) (k := 1) kcX1 hM hv (by decide) kw_52 dX1_appendByte_1 ?_
  refine kz_if_lt (pc := 4) (tgt := 39) (by decide) dX1_appendByte_4 (fun hb => ?_) (fun hb => ?_)
  · replace h := h.1 hb
    exact kz_vret (pc := 39) rfl (Nat.le_refl _) (Nat.le_refl _) dX1_appendByte_39 h
  · replace h := h.2 hb
    refine kz_aload_n (pc := 7) 0 (v := .ref a0) (i := 0) rfl rfl rfl dX1_appendByte_7 ?_
    obtain ⟨fs3, v4, hM, hv, h⟩ := h
    refine kz_getf (pc := 8) (k := 1) kcX1 hM hv (by decide) kw_52 dX1_appendByte_8 ?_
    refine kz_aload_n (pc := 11) 0 (v := .ref a0) (i := 0) rfl rfl rfl dX1_appendByte_11 ?_
    obtain ⟨fs5, v6, hM, hv, h⟩ := h
    refine kz_getf (pc := 12) (k := 0) kcX1 hM hv (by decide) kw_51 dX1_appendByte_12 ?_
    obtain ⟨ty7, A8, hM, h⟩ := h
    refine kz_alen (pc := 15) hM rfl dX1_appendByte_15 ?_
    refine kz_icmp_ge (pc := 16) (tgt := 39) (by decide) dX1_appendByte_16 (fun hb => ?_) (fun hb => ?_)
    · replace h := h.1 hb
      exact kz_vret (pc := 39) rfl (Nat.le_refl _) (Nat.le_refl _) dX1_appendByte_39 h
    · replace h := h.2 hb
      refine kz_aload_n (pc := 19) 0 (v := .ref a0) (i := 0) rfl rfl rfl dX1_appendByte_19 ?_
      obtain ⟨fs9, v10, hM, hv, h⟩ := h
      refine kz_getf (pc := 20) (k := 0) kcX1 hM hv (by decide) kw_51 dX1_appendByte_20 ?_
      refine kz_aload_n (pc := 23) 0 (v := .ref a0) (i := 0) rfl rfl rfl dX1_appendByte_23 ?_
      obtain ⟨fs11, v12, hM, hv, h⟩ := h
      refine kz_getf (pc := 24) (k := 1) kcX1 hM hv (by decide) kw_52 dX1_appendByte_24 ?_
      refine kz_iload_n (pc := 27) 1 (i := 1) rfl rfl dX1_appendByte_27 ?_
      obtain ⟨n13, f14, hM, hi, h⟩ := h
      refine kz_bast (pc := 28) hM hi dX1_appendByte_28 ?_
      refine kz_aload_n (pc := 29) 0 (v := .ref a0) (i := 0) rfl rfl rfl dX1_appendByte_29 ?_
      refine kz_dup (pc := 30) rfl dX1_appendByte_30 ?_
      obtain ⟨fs15, v16, hM, hv, h⟩ := h
      refine kz_getf (pc := 31) (k := 1) kcX1 hM hv (by decide) kw_52 dX1_appendByte_31 ?_
      refine kz_iconst (pc := 34) (v := 1) (by decide) dX1_appendByte_34 ?_
      refine kz_iadd (pc := 35) dX1_appendByte_35 ?_
      obtain ⟨fs17, hM, hlen, h⟩ := h
      refine kz_putf (pc := 36) (k := 1) kcX1 hM (by decide) hlen kw_52 rfl rfl rfl dX1_appendByte_36 ?_
      exact kz_vret (pc := 39) rfl (Nat.le_refl _) (Nat.le_refl _) dX1_appendByte_39 h
theorem dX1_signAt_0 : decode cX1_signAt 0 = .ok (.iload_n 1, 1) := by decide +kernel
theorem dX1_signAt_1 : decode cX1_signAt 1 = .ok (.ifCond .lt 33, 3) := by decide +kernel
theorem dX1_signAt_4 : decode cX1_signAt 4 = .ok (.iload_n 1, 1) := by decide +kernel
theorem dX1_signAt_5 : decode cX1_signAt 5 = .ok (.aload_n 0, 1) := by decide +kernel
theorem dX1_signAt_6 : decode cX1_signAt 6 = .ok (.getfield 15, 3) := by decide +kernel
theorem dX1_signAt_9 : decode cX1_signAt 9 = .ok (.if_icmp .ge 25, 3) := by decide +kernel
theorem dX1_signAt_12 : decode cX1_signAt 12 = .ok (.iload_n 1, 1) := by decide +kernel
theorem dX1_signAt_13 : decode cX1_signAt 13 = .ok (.aload_n 0, 1) := by decide +kernel
theorem dX1_signAt_14 : decode cX1_signAt 14 = .ok (.getfield 9, 3) := by decide +kernel
theorem dX1_signAt_17 : decode cX1_signAt 17 = .ok (.arraylength, 1) := by decide +kernel
theorem dX1_signAt_18 : decode cX1_signAt 18 = .ok (.if_icmp .ge 16, 3) := by decide +kernel
theorem dX1_signAt_21 : decode cX1_signAt 21 = .ok (.aload_n 0, 1) := by decide +kernel
theorem dX1_signAt_22 : decode cX1_signAt 22 = .ok (.getfield 9, 3) := by decide +kernel
theorem dX1_signAt_25 : decode cX1_signAt 25 = .ok (.iload_n 1, 1) := by decide +kernel
theorem dX1_signAt_26 : decode cX1_signAt 26 = .ok (.baload, 1) := by decide +kernel
theorem dX1_signAt_27 : decode cX1_signAt 27 = .ok (.sipush 255, 3) := by decide +kernel
theorem dX1_signAt_30 : decode cX1_signAt 30 = .ok (.iand, 1) := by decide +kernel
theorem dX1_signAt_31 : decode cX1_signAt 31 = .ok (.goto 4, 3) := by decide +kernel
theorem dX1_signAt_34 : decode cX1_signAt 34 = .ok (.iconst (-1), 1) := by decide +kernel
theorem dX1_signAt_35 : decode cX1_signAt 35 = .ok (.ireturn, 1) := by decide +kernel
theorem rX1_signAt_0 {G : kz_G} {d : Nat} {Qr : Option Value → kz_M → Prop} {Qx : String → kz_M → Prop} {a0 : Nat} {p1 : Int32}  {M : kz_M} (h : (p1 < 0 → Qr (some (.int ((-1)))) M) ∧ (¬ p1 < 0 → ∃ fs1 v2, (M).1 a0 = some (.inl (1, fs1)) ∧ fs1[1]? = some (.int v2) ∧ ((v2 ≤ p1 → Qr (some (.int ((-1)))) M) ∧ (¬ v2 ≤ p1 → ∃ fs3 v4, (M).1 a0 = some (.inl (1, fs3)) ∧ fs3[0]? = some (.ref v4) ∧ (∃ ty5 A6, (M).1 v4 = some (.inr (ty5, A6)) ∧ (((Int32.ofNat A6.1) ≤ p1 → Qr (some (.int ((-1)))) M) ∧ (¬ (Int32.ofNat A6.1) ≤ p1 → ∃ fs7 v8, (M).1 a0 = some (.inl (1, fs7)) ∧ fs7[0]? = some (.ref v8) ∧ (∃ n9 f10, (M).1 v8 = some (.inr (.byte, n9, .inl f10)) ∧ vp_in p1 n9 ∧ (Qr (some (.int ((f10 p1.toNatClampNeg) &&& 255))) M))))))))) : kz_C G d 0 0 mX1_signAt [.ref a0, .int p1] M Qr Qx := by
  refine kz_enter (n := 1) kmX1_signAt.1 (Nat.le_of_ble_eq_true rfl) (ls := [(0, .ref a0), (1, .int p1)]) rfl ?_
  refine kz_iload_n (pc := 0) 1 (i := 1) rfl rfl dX1_signAt_0 ?_
  refine kz_if_lt (pc := 1) (tgt := 34) (by decide) dX1_signAt_1 (fun hb => ?_) (fun hb => ?_)
  · replace h := h.1 hb
    refine kz_iconst (pc := 34) (v := (-1)) (by decide) dX1_signAt_34 ?_
    exact kz_iret (pc := 35) rfl (Nat.le_refl _) (Nat.le_refl _) dX1_signAt_35 h
  · replace h := h.2 hb
    refine kz_iload_n (pc := 4) 1 (i := 1) rfl rfl dX1_signAt_4 ?_
    refine kz_aload_n (pc := 5) 0 (v := .ref a0) (i := 0) rfl rfl rfl dX1_signAt_5 ?_
    obtain ⟨fs1, v2, hM, hv, h⟩ := h
    refine kz_getf (pc := 6) (k := 1) kcX1 hM hv (by decide) kw_52 dX1_signAt_6 ?_
    refine kz_icmp_ge (pc := 9) (tgt := 34) (by decide) dX1_signAt_9 (fun hb => ?_) (fun hb => ?_)
    · replace h := h.1 hb
      refine kz_iconst (pc := 34) (v := (-1)) (by decide) dX1_signAt_34 ?_
      exact kz_iret (pc := 35) rfl (Nat.le_refl _) (Nat.le_refl _) dX1_signAt_35 h
    · replace h := h.2 hb
      refine kz_iload_n (pc := 12) 1 (i := 1) rfl rfl dX1_signAt_12 ?_
      refine kz_aload_n (pc := 13) 0 (v := .ref a0) (i := 0) rfl rfl rfl dX1_signAt_13 ?_
      obtain ⟨fs3, v4, hM, hv, h⟩ := h
      refine kz_getf (pc := 14) (k := 0) kcX1 hM hv (by decide) kw_51 dX1_signAt_14 ?_
      obtain ⟨ty5, A6, hM, h⟩ := h
      refine kz_alen (pc := 17) hM rfl dX1_signAt_17 ?_
      refine kz_icmp_ge (pc := 18) (tgt := 34) (by decide) dX1_signAt_18 (fun hb => ?_) (fun hb => ?_)
      · replace h := h.1 hb
        refine kz_iconst (pc := 34) (v := (-1)) (by decide) dX1_signAt_34 ?_
        exact kz_iret (pc := 35) rfl (Nat.le_refl _) (Nat.le_refl _) dX1_signAt_35 h
      · replace h := h.2 hb
        refine kz_aload_n (pc := 21) 0 (v := .ref a0) (i := 0) rfl rfl rfl dX1_signAt_21 ?_
        obtain ⟨fs7, v8, hM, hv, h⟩ := h
        refine kz_getf (pc := 22) (k := 0) kcX1 hM hv (by decide) kw_51 dX1_signAt_22 ?_
        refine kz_iload_n (pc := 25) 1 (i := 1) rfl rfl dX1_signAt_25 ?_
        obtain ⟨n9, f10, hM, hi, h⟩ := h
        refine kz_bald (pc := 26) hM hi dX1_signAt_26 ?_
        refine kz_sipush (pc := 27) (v := 255) (by decide) dX1_signAt_27 ?_
        refine kz_iand (pc := 30) dX1_signAt_30 ?_
        refine kz_goto (pc := 31) (tgt := 35) (by decide) dX1_signAt_31 ?_
        exact kz_iret (pc := 35) rfl (Nat.le_refl _) (Nat.le_refl _) dX1_signAt_35 h
