/-! The rules of 10.rinput: printed by program (wip/whole/rules.py) -/
theorem dX1_init_0 : decode cX1_init 0 = .ok (.aload_n 0, 1) := by decide +kernel
theorem dX1_init_1 : decode cX1_init 1 = .ok (.invokespecial 3, 3) := by decide +kernel
theorem dX1_init_4 : decode cX1_init 4 = .ok (.aload_n 0, 1) := by decide +kernel
theorem dX1_init_5 : decode cX1_init 5 = .ok (.sipush 600, 3) := by decide +kernel
theorem dX1_init_8 : decode cX1_init 8 = .ok (.newarray .byte, 2) := by decide +kernel
theorem dX1_init_10 : decode cX1_init 10 = .ok (.putfield 9, 3) := by decide +kernel
theorem dX1_init_13 : decode cX1_init 13 = .ok (.return_, 1) := by decide +kernel
theorem rX1_init_0 {G : kz_G} {d : Nat} {mc ms : Nat} {Qr : Option Value → kz_M → Prop} {Qx : String → kz_M → Prop} {a0 : Nat}  {M : kz_M} (h : ∃ N1, ¬ (600 : Int32) < 0 ∧ (600 : Int32).toNatClampNeg = N1 ∧ N1 ≤ 60000000 ∧ 0 + 1 ≤ mc ∧ 0 + N1 ≤ ms ∧ (∃ fs3, ((kz_nw M (.inr (.byte, N1, .inl (fun _ => 0))))).1 a0 = some (.inl (1, fs3)) ∧ 0 < fs3.length ∧ (Qr none (kz_up (kz_nw M (.inr (.byte, N1, .inl (fun _ => 0)))) a0 (.inl (1, fs3.set 0 (.ref ((M).2)))))))) : kz_C G (d + 1) mc ms mX1_init [.ref a0] M Qr Qx := by
  refine kz_enter (n := 0) kmX1_init.1 (Nat.le_of_ble_eq_true rfl) (ls := [(0, .ref a0)]) rfl ?_
  refine kz_aload_n (pc := 0) 0 (v := .ref a0) (i := 0) rfl rfl rfl dX1_init_0 ?_
  refine kz_objInit (pc := 1) kw_41 kw_34 kw_35 (by omega) (Nat.le_of_ble_eq_true rfl) dX1_init_1 ?_
  refine kz_aload_n (pc := 4) 0 (v := .ref a0) (i := 0) rfl rfl rfl dX1_init_4 ?_
  refine kz_sipush (pc := 5) (v := 600) (by decide) dX1_init_5 ?_
  obtain ⟨N1, hn, hN, hb8, hc2, hs2, h⟩ := h
  refine kz_newaB (pc := 8) N1 kw_51 hn hN hb8 hc2 hs2 dX1_init_8 ?_
  obtain ⟨fs3, hM, hlen, h⟩ := h
  refine kz_putF (pc := 10) (k := 0) kcX1 hM (by decide) hlen rfl rfl kw_42 rfl rfl rfl dX1_init_10 ?_
  exact kz_vret (pc := 13) rfl hc2 hs2 dX1_init_13 h
theorem dX1_hasRoomForTwenty_0 : decode cX1_hasRoomForTwenty 0 = .ok (.aload_n 0, 1) := by decide +kernel
theorem dX1_hasRoomForTwenty_1 : decode cX1_hasRoomForTwenty 1 = .ok (.getfield 15, 3) := by decide +kernel
theorem dX1_hasRoomForTwenty_4 : decode cX1_hasRoomForTwenty 4 = .ok (.bipush 20, 2) := by decide +kernel
theorem dX1_hasRoomForTwenty_6 : decode cX1_hasRoomForTwenty 6 = .ok (.iadd, 1) := by decide +kernel
theorem dX1_hasRoomForTwenty_7 : decode cX1_hasRoomForTwenty 7 = .ok (.aload_n 0, 1) := by decide +kernel
theorem dX1_hasRoomForTwenty_8 : decode cX1_hasRoomForTwenty 8 = .ok (.getfield 9, 3) := by decide +kernel
theorem dX1_hasRoomForTwenty_11 : decode cX1_hasRoomForTwenty 11 = .ok (.arraylength, 1) := by decide +kernel
theorem dX1_hasRoomForTwenty_12 : decode cX1_hasRoomForTwenty 12 = .ok (.if_icmp .gt 7, 3) := by decide +kernel
theorem dX1_hasRoomForTwenty_15 : decode cX1_hasRoomForTwenty 15 = .ok (.iconst 1, 1) := by decide +kernel
theorem dX1_hasRoomForTwenty_16 : decode cX1_hasRoomForTwenty 16 = .ok (.goto 4, 3) := by decide +kernel
theorem dX1_hasRoomForTwenty_19 : decode cX1_hasRoomForTwenty 19 = .ok (.iconst 0, 1) := by decide +kernel
theorem dX1_hasRoomForTwenty_20 : decode cX1_hasRoomForTwenty 20 = .ok (.ireturn, 1) := by decide +kernel
theorem rX1_hasRoomForTwenty_0 {G : kz_G} {d : Nat} {Qr : Option Value → kz_M → Prop} {Qx : String → kz_M → Prop} {a0 : Nat}  {M : kz_M} (h : ∃ fs1 v2, (M).1 a0 = some (.inl (1, fs1)) ∧ fs1[1]? = some (.int v2) ∧ (∃ fs3 v4, (M).1 a0 = some (.inl (1, fs3)) ∧ fs3[0]? = some (.ref v4) ∧ (∃ ty5 A6, (M).1 v4 = some (.inr (ty5, A6)) ∧ (((Int32.ofNat A6.1) < (v2 + 20) → Qr (some (.int 0)) M) ∧ (¬ (Int32.ofNat A6.1) < (v2 + 20) → Qr (some (.int 1)) M))))) : kz_C G d 0 0 mX1_hasRoomForTwenty [.ref a0] M Qr Qx := by
  refine kz_enter (n := 0) kmX1_hasRoomForTwenty.1 (Nat.le_of_ble_eq_true rfl) (ls := [(0, .ref a0)]) rfl ?_
  refine kz_aload_n (pc := 0) 0 (v := .ref a0) (i := 0) rfl rfl rfl dX1_hasRoomForTwenty_0 ?_
  obtain ⟨fs1, v2, hM, hv, h⟩ := h
  refine kz_getf (pc := 1) (k := 1) kcX1 hM hv (by decide) kw_43 dX1_hasRoomForTwenty_1 ?_
  refine kz_bipush (pc := 4) (v := 20) (by decide) dX1_hasRoomForTwenty_4 ?_
  refine kz_iadd (pc := 6) dX1_hasRoomForTwenty_6 ?_
  refine kz_aload_n (pc := 7) 0 (v := .ref a0) (i := 0) rfl rfl rfl dX1_hasRoomForTwenty_7 ?_
  obtain ⟨fs3, v4, hM, hv, h⟩ := h
  refine kz_getf (pc := 8) (k := 0) kcX1 hM hv (by decide) kw_42 dX1_hasRoomForTwenty_8 ?_
  obtain ⟨ty5, A6, hM, h⟩ := h
  refine kz_alen (pc := 11) hM rfl dX1_hasRoomForTwenty_11 ?_
  refine kz_icmp_gt (pc := 12) (tgt := 19) (by decide) dX1_hasRoomForTwenty_12 (fun hb => ?_) (fun hb => ?_)
  · replace h := h.1 hb
    refine kz_iconst (pc := 19) (v := 0) (by decide) dX1_hasRoomForTwenty_19 ?_
    exact kz_zret (pc := 20) (ty := .boolean) rfl (by decide) (Nat.le_refl _) (Nat.le_refl _) dX1_hasRoomForTwenty_20 h
  · replace h := h.2 hb
    refine kz_iconst (pc := 15) (v := 1) (by decide) dX1_hasRoomForTwenty_15 ?_
    refine kz_goto (pc := 16) (tgt := 20) (by decide) dX1_hasRoomForTwenty_16 ?_
    exact kz_zret (pc := 20) (ty := .boolean) rfl (by decide) (Nat.le_refl _) (Nat.le_refl _) dX1_hasRoomForTwenty_20 h
theorem dX1_appendFour_0 : decode cX1_appendFour 0 = .ok (.aload_n 0, 1) := by decide +kernel
theorem dX1_appendFour_1 : decode cX1_appendFour 1 = .ok (.iload_n 1, 1) := by decide +kernel
theorem dX1_appendFour_2 : decode cX1_appendFour 2 = .ok (.bipush 24, 2) := by decide +kernel
theorem dX1_appendFour_4 : decode cX1_appendFour 4 = .ok (.ishr, 1) := by decide +kernel
theorem dX1_appendFour_5 : decode cX1_appendFour 5 = .ok (.i2b, 1) := by decide +kernel
theorem dX1_appendFour_6 : decode cX1_appendFour 6 = .ok (.invokevirtual 19, 3) := by decide +kernel
theorem dX1_appendFour_9 : decode cX1_appendFour 9 = .ok (.aload_n 0, 1) := by decide +kernel
theorem dX1_appendFour_10 : decode cX1_appendFour 10 = .ok (.iload_n 1, 1) := by decide +kernel
theorem dX1_appendFour_11 : decode cX1_appendFour 11 = .ok (.bipush 16, 2) := by decide +kernel
theorem dX1_appendFour_13 : decode cX1_appendFour 13 = .ok (.ishr, 1) := by decide +kernel
theorem dX1_appendFour_14 : decode cX1_appendFour 14 = .ok (.i2b, 1) := by decide +kernel
theorem dX1_appendFour_15 : decode cX1_appendFour 15 = .ok (.invokevirtual 19, 3) := by decide +kernel
theorem dX1_appendFour_18 : decode cX1_appendFour 18 = .ok (.aload_n 0, 1) := by decide +kernel
theorem dX1_appendFour_19 : decode cX1_appendFour 19 = .ok (.iload_n 1, 1) := by decide +kernel
theorem dX1_appendFour_20 : decode cX1_appendFour 20 = .ok (.bipush 8, 2) := by decide +kernel
theorem dX1_appendFour_22 : decode cX1_appendFour 22 = .ok (.ishr, 1) := by decide +kernel
theorem dX1_appendFour_23 : decode cX1_appendFour 23 = .ok (.i2b, 1) := by decide +kernel
theorem dX1_appendFour_24 : decode cX1_appendFour 24 = .ok (.invokevirtual 19, 3) := by decide +kernel
theorem dX1_appendFour_27 : decode cX1_appendFour 27 = .ok (.aload_n 0, 1) := by decide +kernel
theorem dX1_appendFour_28 : decode cX1_appendFour 28 = .ok (.iload_n 1, 1) := by decide +kernel
theorem dX1_appendFour_29 : decode cX1_appendFour 29 = .ok (.i2b, 1) := by decide +kernel
theorem dX1_appendFour_30 : decode cX1_appendFour 30 = .ok (.invokevirtual 19, 3) := by decide +kernel
theorem dX1_appendFour_33 : decode cX1_appendFour 33 = .ok (.return_, 1) := by decide +kernel
theorem rX1_appendFour_0 {G : kz_G} {d : Nat} {Qr : Option Value → kz_M → Prop} {Qx : String → kz_M → Prop} {a0 : Nat} {p1 : Int32}  {M : kz_M} (h : (∃ fs16, (M).1 a0 = some (.inl (1, fs16))) ∧ kz_C G (d + 0) 0 0 mX1_appendByte [.ref a0, .int ((p1 >>> (24 &&& 31) : Int32).toInt8.toInt32)] M (fun v M1 => v = none ∧ ((∃ fs15, (M1).1 a0 = some (.inl (1, fs15))) ∧ kz_C G (d + 0) 0 0 mX1_appendByte [.ref a0, .int ((p1 >>> (16 &&& 31) : Int32).toInt8.toInt32)] M1 (fun v M4 => v = none ∧ ((∃ fs14, (M4).1 a0 = some (.inl (1, fs14))) ∧ kz_C G (d + 0) 0 0 mX1_appendByte [.ref a0, .int ((p1 >>> (8 &&& 31) : Int32).toInt8.toInt32)] M4 (fun v M7 => v = none ∧ ((∃ fs13, (M7).1 a0 = some (.inl (1, fs13))) ∧ kz_C G (d + 0) 0 0 mX1_appendByte [.ref a0, .int ((p1 : Int32).toInt8.toInt32)] M7 (fun v M10 => v = none ∧ (Qr none M10)) Qx)) Qx)) Qx)) Qx) : kz_C G (d + 1) 0 0 mX1_appendFour [.ref a0, .int p1] M Qr Qx := by
  refine kz_enter (n := 1) kmX1_appendFour.1 (Nat.le_of_ble_eq_true rfl) (ls := [(0, .ref a0), (1, .int p1)]) rfl ?_
  refine kz_aload_n (pc := 0) 0 (v := .ref a0) (i := 0) rfl rfl rfl dX1_appendFour_0 ?_
  refine kz_iload_n (pc := 1) 1 (i := 1) rfl rfl dX1_appendFour_1 ?_
  refine kz_bipush (pc := 2) (v := 24) (by decide) dX1_appendFour_2 ?_
  refine kz_ishr (pc := 4) dX1_appendFour_4 ?_
  refine kz_i2b (pc := 5) dX1_appendFour_5 ?_
  obtain ⟨⟨fs16, he⟩, h⟩ := h
  refine kz_callV (pc := 6) (μ' := mX1_appendByte) (ci := 1) (q := (RX1, TX1, 2)) (b := a0) (d' := d + 0) (mc' := 0) (ms' := 0) (As := [.int ((p1 >>> (24 &&& 31) : Int32).toInt8.toInt32)]) (st := []) (c := 0) (sl := 0) kmX1_appendByte kw_318 (by omega) rfl (Nat.le_of_ble_eq_true rfl) he rfl rfl (Nat.le_refl _) (Nat.le_refl _) dX1_appendFour_6 (fun E M9 hx => kz_Tout rfl (Nat.le_refl _) (Nat.le_refl _) hx) (kz_Cmono (fun v M1 h => ?_) (fun _ _ h => h) h)
  obtain ⟨rfl, h⟩ := h
  show kz_Z G (d + 1) 0 0 mX1_appendFour Qr Qx 9 [(0, .ref a0), (1, .int p1)] [] M1 0 0
  refine kz_aload_n (pc := 9) 0 (v := .ref a0) (i := 0) rfl rfl rfl dX1_appendFour_9 ?_
  refine kz_iload_n (pc := 10) 1 (i := 1) rfl rfl dX1_appendFour_10 ?_
  refine kz_bipush (pc := 11) (v := 16) (by decide) dX1_appendFour_11 ?_
  refine kz_ishr (pc := 13) dX1_appendFour_13 ?_
  refine kz_i2b (pc := 14) dX1_appendFour_14 ?_
  obtain ⟨⟨fs15, he⟩, h⟩ := h
  refine kz_callV (pc := 15) (μ' := mX1_appendByte) (ci := 1) (q := (RX1, TX1, 2)) (b := a0) (d' := d + 0) (mc' := 0) (ms' := 0) (As := [.int ((p1 >>> (16 &&& 31) : Int32).toInt8.toInt32)]) (st := []) (c := 0) (sl := 0) kmX1_appendByte kw_318 (by omega) rfl (Nat.le_of_ble_eq_true rfl) he rfl rfl (Nat.le_refl _) (Nat.le_refl _) dX1_appendFour_15 (fun E M9 hx => kz_Tout rfl (Nat.le_refl _) (Nat.le_refl _) hx) (kz_Cmono (fun v M4 h => ?_) (fun _ _ h => h) h)
  obtain ⟨rfl, h⟩ := h
  show kz_Z G (d + 1) 0 0 mX1_appendFour Qr Qx 18 [(0, .ref a0), (1, .int p1)] [] M4 0 0
  refine kz_aload_n (pc := 18) 0 (v := .ref a0) (i := 0) rfl rfl rfl dX1_appendFour_18 ?_
  refine kz_iload_n (pc := 19) 1 (i := 1) rfl rfl dX1_appendFour_19 ?_
  refine kz_bipush (pc := 20) (v := 8) (by decide) dX1_appendFour_20 ?_
  refine kz_ishr (pc := 22) dX1_appendFour_22 ?_
  refine kz_i2b (pc := 23) dX1_appendFour_23 ?_
  obtain ⟨⟨fs14, he⟩, h⟩ := h
  refine kz_callV (pc := 24) (μ' := mX1_appendByte) (ci := 1) (q := (RX1, TX1, 2)) (b := a0) (d' := d + 0) (mc' := 0) (ms' := 0) (As := [.int ((p1 >>> (8 &&& 31) : Int32).toInt8.toInt32)]) (st := []) (c := 0) (sl := 0) kmX1_appendByte kw_318 (by omega) rfl (Nat.le_of_ble_eq_true rfl) he rfl rfl (Nat.le_refl _) (Nat.le_refl _) dX1_appendFour_24 (fun E M9 hx => kz_Tout rfl (Nat.le_refl _) (Nat.le_refl _) hx) (kz_Cmono (fun v M7 h => ?_) (fun _ _ h => h) h)
  obtain ⟨rfl, h⟩ := h
  show kz_Z G (d + 1) 0 0 mX1_appendFour Qr Qx 27 [(0, .ref a0), (1, .int p1)] [] M7 0 0
  refine kz_aload_n (pc := 27) 0 (v := .ref a0) (i := 0) rfl rfl rfl dX1_appendFour_27 ?_
  refine kz_iload_n (pc := 28) 1 (i := 1) rfl rfl dX1_appendFour_28 ?_
  refine kz_i2b (pc := 29) dX1_appendFour_29 ?_
  obtain ⟨⟨fs13, he⟩, h⟩ := h
  refine kz_callV (pc := 30) (μ' := mX1_appendByte) (ci := 1) (q := (RX1, TX1, 2)) (b := a0) (d' := d + 0) (mc' := 0) (ms' := 0) (As := [.int ((p1 : Int32).toInt8.toInt32)]) (st := []) (c := 0) (sl := 0) kmX1_appendByte kw_318 (by omega) rfl (Nat.le_of_ble_eq_true rfl) he rfl rfl (Nat.le_refl _) (Nat.le_refl _) dX1_appendFour_30 (fun E M9 hx => kz_Tout rfl (Nat.le_refl _) (Nat.le_refl _) hx) (kz_Cmono (fun v M10 h => ?_) (fun _ _ h => h) h)
  obtain ⟨rfl, h⟩ := h
  show kz_Z G (d + 1) 0 0 mX1_appendFour Qr Qx 33 [(0, .ref a0), (1, .int p1)] [] M10 0 0
  exact kz_vret (pc := 33) rfl (Nat.le_refl _) (Nat.le_refl _) dX1_appendFour_33 h
theorem dX1_appendByte_0 : decode cX1_appendByte 0 = .ok (.aload_n 0, 1) := by decide +kernel
theorem dX1_appendByte_1 : decode cX1_appendByte 1 = .ok (.getfield 15, 3) := by decide +kernel
theorem dX1_appendByte_4 : decode cX1_appendByte 4 = .ok (.ifCond .lt 35, 3) := by decide +kernel
theorem dX1_appendByte_7 : decode cX1_appendByte 7 = .ok (.aload_n 0, 1) := by decide +kernel
theorem dX1_appendByte_8 : decode cX1_appendByte 8 = .ok (.getfield 15, 3) := by decide +kernel
theorem dX1_appendByte_11 : decode cX1_appendByte 11 = .ok (.aload_n 0, 1) := by decide +kernel
theorem dX1_appendByte_12 : decode cX1_appendByte 12 = .ok (.getfield 9, 3) := by decide +kernel
theorem dX1_appendByte_15 : decode cX1_appendByte 15 = .ok (.arraylength, 1) := by decide +kernel
theorem dX1_appendByte_16 : decode cX1_appendByte 16 = .ok (.if_icmp .ge 23, 3) := by decide +kernel
theorem dX1_appendByte_19 : decode cX1_appendByte 19 = .ok (.aload_n 0, 1) := by decide +kernel
theorem dX1_appendByte_20 : decode cX1_appendByte 20 = .ok (.getfield 9, 3) := by decide +kernel
theorem dX1_appendByte_23 : decode cX1_appendByte 23 = .ok (.aload_n 0, 1) := by decide +kernel
theorem dX1_appendByte_24 : decode cX1_appendByte 24 = .ok (.getfield 15, 3) := by decide +kernel
theorem dX1_appendByte_27 : decode cX1_appendByte 27 = .ok (.iload_n 1, 1) := by decide +kernel
theorem dX1_appendByte_28 : decode cX1_appendByte 28 = .ok (.bastore, 1) := by decide +kernel
theorem dX1_appendByte_29 : decode cX1_appendByte 29 = .ok (.aload_n 0, 1) := by decide +kernel
theorem dX1_appendByte_30 : decode cX1_appendByte 30 = .ok (.dup, 1) := by decide +kernel
theorem dX1_appendByte_31 : decode cX1_appendByte 31 = .ok (.getfield 15, 3) := by decide +kernel
theorem dX1_appendByte_34 : decode cX1_appendByte 34 = .ok (.iconst 1, 1) := by decide +kernel
theorem dX1_appendByte_35 : decode cX1_appendByte 35 = .ok (.iadd, 1) := by decide +kernel
theorem dX1_appendByte_36 : decode cX1_appendByte 36 = .ok (.putfield 15, 3) := by decide +kernel
theorem dX1_appendByte_39 : decode cX1_appendByte 39 = .ok (.return_, 1) := by decide +kernel
theorem rX1_appendByte_0 {G : kz_G} {d : Nat} {Qr : Option Value → kz_M → Prop} {Qx : String → kz_M → Prop} {a0 : Nat} {p1 : Int32}  {M : kz_M} (h : ∃ fs1 v2, (M).1 a0 = some (.inl (1, fs1)) ∧ fs1[1]? = some (.int v2) ∧ ((v2 < 0 → Qr none M) ∧ (¬ v2 < 0 → ∃ fs3 v4, (M).1 a0 = some (.inl (1, fs3)) ∧ fs3[1]? = some (.int v4) ∧ (∃ fs5 v6, (M).1 a0 = some (.inl (1, fs5)) ∧ fs5[0]? = some (.ref v6) ∧ (∃ ty7 A8, (M).1 v6 = some (.inr (ty7, A8)) ∧ (((Int32.ofNat A8.1) ≤ v4 → Qr none M) ∧ (¬ (Int32.ofNat A8.1) ≤ v4 → ∃ fs9 v10, (M).1 a0 = some (.inl (1, fs9)) ∧ fs9[0]? = some (.ref v10) ∧ (∃ fs11 v12, (M).1 a0 = some (.inl (1, fs11)) ∧ fs11[1]? = some (.int v12) ∧ (∃ n13 f14, (M).1 v10 = some (.inr (.byte, n13, .inl f14)) ∧ vp_in v12 n13 ∧ (∃ fs15 v16, ((kz_up M v10 (.inr (.byte, n13, .inl (upd f14 (v12 : Int32).toNatClampNeg (vp_nar .byte p1)))))).1 a0 = some (.inl (1, fs15)) ∧ fs15[1]? = some (.int v16) ∧ (∃ fs17, ((kz_up M v10 (.inr (.byte, n13, .inl (upd f14 (v12 : Int32).toNatClampNeg (vp_nar .byte p1)))))).1 a0 = some (.inl (1, fs17)) ∧ 1 < fs17.length ∧ (Qr none (kz_up (kz_up M v10 (.inr (.byte, n13, .inl (upd f14 (v12 : Int32).toNatClampNeg (vp_nar .byte p1))))) a0 (.inl (1, fs17.set 1 (.int (v16 + 1))))))))))))))))) : kz_C G d 0 0 mX1_appendByte [.ref a0, .int p1] M Qr Qx := by
  refine kz_enter (n := 1) kmX1_appendByte.1 (Nat.le_of_ble_eq_true rfl) (ls := [(0, .ref a0), (1, .int p1)]) rfl ?_
  refine kz_aload_n (pc := 0) 0 (v := .ref a0) (i := 0) rfl rfl rfl dX1_appendByte_0 ?_
  obtain ⟨fs1, v2, hM, hv, h⟩ := h
  refine kz_getf (pc := 1) (k := 1) kcX1 hM hv (by decide) kw_43 dX1_appendByte_1 ?_
  refine kz_if_lt (pc := 4) (tgt := 39) (by decide) dX1_appendByte_4 (fun hb => ?_) (fun hb => ?_)
  · replace h := h.1 hb
    exact kz_vret (pc := 39) rfl (Nat.le_refl _) (Nat.le_refl _) dX1_appendByte_39 h
  · replace h := h.2 hb
    refine kz_aload_n (pc := 7) 0 (v := .ref a0) (i := 0) rfl rfl rfl dX1_appendByte_7 ?_
    obtain ⟨fs3, v4, hM, hv, h⟩ := h
    refine kz_getf (pc := 8) (k := 1) kcX1 hM hv (by decide) kw_43 dX1_appendByte_8 ?_
    refine kz_aload_n (pc := 11) 0 (v := .ref a0) (i := 0) rfl rfl rfl dX1_appendByte_11 ?_
    obtain ⟨fs5, v6, hM, hv, h⟩ := h
    refine kz_getf (pc := 12) (k := 0) kcX1 hM hv (by decide) kw_42 dX1_appendByte_12 ?_
    obtain ⟨ty7, A8, hM, h⟩ := h
    refine kz_alen (pc := 15) hM rfl dX1_appendByte_15 ?_
    refine kz_icmp_ge (pc := 16) (tgt := 39) (by decide) dX1_appendByte_16 (fun hb => ?_) (fun hb => ?_)
    · replace h := h.1 hb
      exact kz_vret (pc := 39) rfl (Nat.le_refl _) (Nat.le_refl _) dX1_appendByte_39 h
    · replace h := h.2 hb
      refine kz_aload_n (pc := 19) 0 (v := .ref a0) (i := 0) rfl rfl rfl dX1_appendByte_19 ?_
      obtain ⟨fs9, v10, hM, hv, h⟩ := h
      refine kz_getf (pc := 20) (k := 0) kcX1 hM hv (by decide) kw_42 dX1_appendByte_20 ?_
      refine kz_aload_n (pc := 23) 0 (v := .ref a0) (i := 0) rfl rfl rfl dX1_appendByte_23 ?_
      obtain ⟨fs11, v12, hM, hv, h⟩ := h
      refine kz_getf (pc := 24) (k := 1) kcX1 hM hv (by decide) kw_43 dX1_appendByte_24 ?_
      refine kz_iload_n (pc := 27) 1 (i := 1) rfl rfl dX1_appendByte_27 ?_
      obtain ⟨n13, f14, hM, hi, h⟩ := h
      refine kz_bast (pc := 28) hM hi dX1_appendByte_28 ?_
      refine kz_aload_n (pc := 29) 0 (v := .ref a0) (i := 0) rfl rfl rfl dX1_appendByte_29 ?_
      refine kz_dup (pc := 30) rfl dX1_appendByte_30 ?_
      obtain ⟨fs15, v16, hM, hv, h⟩ := h
      refine kz_getf (pc := 31) (k := 1) kcX1 hM hv (by decide) kw_43 dX1_appendByte_31 ?_
      refine kz_iconst (pc := 34) (v := 1) (by decide) dX1_appendByte_34 ?_
      refine kz_iadd (pc := 35) dX1_appendByte_35 ?_
      obtain ⟨fs17, hM, hlen, h⟩ := h
      refine kz_putf (pc := 36) (k := 1) kcX1 hM (by decide) hlen kw_43 rfl rfl rfl dX1_appendByte_36 ?_
      exact kz_vret (pc := 39) rfl (Nat.le_refl _) (Nat.le_refl _) dX1_appendByte_39 h
theorem dX1_signAt_0 : decode cX1_signAt 0 = .ok (.iload_n 1, 1) := by decide +kernel
theorem dX1_signAt_1 : decode cX1_signAt 1 = .ok (.ifCond .lt 33, 3) := by decide +kernel
theorem dX1_signAt_4 : decode cX1_signAt 4 = .ok (.iload_n 1, 1) := by decide +kernel
theorem dX1_signAt_5 : decode cX1_signAt 5 = .ok (.aload_n 0, 1) := by decide +kernel
theorem dX1_signAt_6 : decode cX1_signAt 6 = .ok (.getfield 15, 3) := by decide +kernel
theorem dX1_signAt_9 : decode cX1_signAt 9 = .ok (.if_icmp .ge 25, 3) := by decide +kernel
theorem dX1_signAt_12 : decode cX1_signAt 12 = .ok (.iload_n 1, 1) := by decide +kernel
theorem dX1_signAt_13 : decode cX1_signAt 13 = .ok (.aload_n 0, 1) := by decide +kernel
theorem dX1_signAt_14 : decode cX1_signAt 14 = .ok (.getfield 9, 3) := by decide +kernel
theorem dX1_signAt_17 : decode cX1_signAt 17 = .ok (.arraylength, 1) := by decide +kernel
theorem dX1_signAt_18 : decode cX1_signAt 18 = .ok (.if_icmp .ge 16, 3) := by decide +kernel
theorem dX1_signAt_21 : decode cX1_signAt 21 = .ok (.aload_n 0, 1) := by decide +kernel
theorem dX1_signAt_22 : decode cX1_signAt 22 = .ok (.getfield 9, 3) := by decide +kernel
theorem dX1_signAt_25 : decode cX1_signAt 25 = .ok (.iload_n 1, 1) := by decide +kernel
theorem dX1_signAt_26 : decode cX1_signAt 26 = .ok (.baload, 1) := by decide +kernel
theorem dX1_signAt_27 : decode cX1_signAt 27 = .ok (.sipush 255, 3) := by decide +kernel
theorem dX1_signAt_30 : decode cX1_signAt 30 = .ok (.iand, 1) := by decide +kernel
theorem dX1_signAt_31 : decode cX1_signAt 31 = .ok (.goto 4, 3) := by decide +kernel
theorem dX1_signAt_34 : decode cX1_signAt 34 = .ok (.iconst (-1), 1) := by decide +kernel
theorem dX1_signAt_35 : decode cX1_signAt 35 = .ok (.ireturn, 1) := by decide +kernel
theorem rX1_signAt_0 {G : kz_G} {d : Nat} {Qr : Option Value → kz_M → Prop} {Qx : String → kz_M → Prop} {a0 : Nat} {p1 : Int32}  {M : kz_M} (h : (p1 < 0 → Qr (some (.int ((-1)))) M) ∧ (¬ p1 < 0 → ∃ fs1 v2, (M).1 a0 = some (.inl (1, fs1)) ∧ fs1[1]? = some (.int v2) ∧ ((v2 ≤ p1 → Qr (some (.int ((-1)))) M) ∧ (¬ v2 ≤ p1 → ∃ fs3 v4, (M).1 a0 = some (.inl (1, fs3)) ∧ fs3[0]? = some (.ref v4) ∧ (∃ ty5 A6, (M).1 v4 = some (.inr (ty5, A6)) ∧ (((Int32.ofNat A6.1) ≤ p1 → Qr (some (.int ((-1)))) M) ∧ (¬ (Int32.ofNat A6.1) ≤ p1 → ∃ fs7 v8, (M).1 a0 = some (.inl (1, fs7)) ∧ fs7[0]? = some (.ref v8) ∧ (∃ n9 f10, (M).1 v8 = some (.inr (.byte, n9, .inl f10)) ∧ vp_in p1 n9 ∧ (Qr (some (.int ((f10 p1.toNatClampNeg) &&& 255))) M))))))))) : kz_C G d 0 0 mX1_signAt [.ref a0, .int p1] M Qr Qx := by
  refine kz_enter (n := 1) kmX1_signAt.1 (Nat.le_of_ble_eq_true rfl) (ls := [(0, .ref a0), (1, .int p1)]) rfl ?_
  refine kz_iload_n (pc := 0) 1 (i := 1) rfl rfl dX1_signAt_0 ?_
  refine kz_if_lt (pc := 1) (tgt := 34) (by decide) dX1_signAt_1 (fun hb => ?_) (fun hb => ?_)
  · replace h := h.1 hb
    refine kz_iconst (pc := 34) (v := (-1)) (by decide) dX1_signAt_34 ?_
    exact kz_iret (pc := 35) rfl (Nat.le_refl _) (Nat.le_refl _) dX1_signAt_35 h
  · replace h := h.2 hb
    refine kz_iload_n (pc := 4) 1 (i := 1) rfl rfl dX1_signAt_4 ?_
    refine kz_aload_n (pc := 5) 0 (v := .ref a0) (i := 0) rfl rfl rfl dX1_signAt_5 ?_
    obtain ⟨fs1, v2, hM, hv, h⟩ := h
    refine kz_getf (pc := 6) (k := 1) kcX1 hM hv (by decide) kw_43 dX1_signAt_6 ?_
    refine kz_icmp_ge (pc := 9) (tgt := 34) (by decide) dX1_signAt_9 (fun hb => ?_) (fun hb => ?_)
    · replace h := h.1 hb
      refine kz_iconst (pc := 34) (v := (-1)) (by decide) dX1_signAt_34 ?_
      exact kz_iret (pc := 35) rfl (Nat.le_refl _) (Nat.le_refl _) dX1_signAt_35 h
    · replace h := h.2 hb
      refine kz_iload_n (pc := 12) 1 (i := 1) rfl rfl dX1_signAt_12 ?_
      refine kz_aload_n (pc := 13) 0 (v := .ref a0) (i := 0) rfl rfl rfl dX1_signAt_13 ?_
      obtain ⟨fs3, v4, hM, hv, h⟩ := h
      refine kz_getf (pc := 14) (k := 0) kcX1 hM hv (by decide) kw_42 dX1_signAt_14 ?_
      obtain ⟨ty5, A6, hM, h⟩ := h
      refine kz_alen (pc := 17) hM rfl dX1_signAt_17 ?_
      refine kz_icmp_ge (pc := 18) (tgt := 34) (by decide) dX1_signAt_18 (fun hb => ?_) (fun hb => ?_)
      · replace h := h.1 hb
        refine kz_iconst (pc := 34) (v := (-1)) (by decide) dX1_signAt_34 ?_
        exact kz_iret (pc := 35) rfl (Nat.le_refl _) (Nat.le_refl _) dX1_signAt_35 h
      · replace h := h.2 hb
        refine kz_aload_n (pc := 21) 0 (v := .ref a0) (i := 0) rfl rfl rfl dX1_signAt_21 ?_
        obtain ⟨fs7, v8, hM, hv, h⟩ := h
        refine kz_getf (pc := 22) (k := 0) kcX1 hM hv (by decide) kw_42 dX1_signAt_22 ?_
        refine kz_iload_n (pc := 25) 1 (i := 1) rfl rfl dX1_signAt_25 ?_
        obtain ⟨n9, f10, hM, hi, h⟩ := h
        refine kz_bald (pc := 26) hM hi dX1_signAt_26 ?_
        refine kz_sipush (pc := 27) (v := 255) (by decide) dX1_signAt_27 ?_
        refine kz_iand (pc := 30) dX1_signAt_30 ?_
        refine kz_goto (pc := 31) (tgt := 35) (by decide) dX1_signAt_31 ?_
        exact kz_iret (pc := 35) rfl (Nat.le_refl _) (Nat.le_refl _) dX1_signAt_35 h
theorem dX1_wholeWord_0 : decode cX1_wholeWord 0 = .ok (.aload_n 0, 1) := by decide +kernel
theorem dX1_wholeWord_1 : decode cX1_wholeWord 1 = .ok (.getfield 15, 3) := by decide +kernel
theorem dX1_wholeWord_4 : decode cX1_wholeWord 4 = .ok (.bipush 12, 2) := by decide +kernel
theorem dX1_wholeWord_6 : decode cX1_wholeWord 6 = .ok (.if_icmp .le 5, 3) := by decide +kernel
theorem dX1_wholeWord_9 : decode cX1_wholeWord 9 = .ok (.lconst 0, 1) := by decide +kernel
theorem dX1_wholeWord_10 : decode cX1_wholeWord 10 = .ok (.lreturn, 1) := by decide +kernel
theorem dX1_wholeWord_11 : decode cX1_wholeWord 11 = .ok (.lconst 0, 1) := by decide +kernel
theorem dX1_wholeWord_12 : decode cX1_wholeWord 12 = .ok (.lstore_n 1, 1) := by decide +kernel
theorem dX1_wholeWord_13 : decode cX1_wholeWord 13 = .ok (.iconst 0, 1) := by decide +kernel
theorem dX1_wholeWord_14 : decode cX1_wholeWord 14 = .ok (.istore_n 3, 1) := by decide +kernel
theorem dX1_wholeWord_15 : decode cX1_wholeWord 15 = .ok (.iload_n 3, 1) := by decide +kernel
theorem dX1_wholeWord_16 : decode cX1_wholeWord 16 = .ok (.aload_n 0, 1) := by decide +kernel
theorem dX1_wholeWord_17 : decode cX1_wholeWord 17 = .ok (.getfield 15, 3) := by decide +kernel
theorem dX1_wholeWord_20 : decode cX1_wholeWord 20 = .ok (.if_icmp .ge 32, 3) := by decide +kernel
theorem dX1_wholeWord_23 : decode cX1_wholeWord 23 = .ok (.aload_n 0, 1) := by decide +kernel
theorem dX1_wholeWord_24 : decode cX1_wholeWord 24 = .ok (.iload_n 3, 1) := by decide +kernel
theorem dX1_wholeWord_25 : decode cX1_wholeWord 25 = .ok (.invokevirtual 23, 3) := by decide +kernel
theorem dX1_wholeWord_28 : decode cX1_wholeWord 28 = .ok (.invokestatic 27, 3) := by decide +kernel
theorem dX1_wholeWord_31 : decode cX1_wholeWord 31 = .ok (.ifCond .ne 5, 3) := by decide +kernel
theorem dX1_wholeWord_34 : decode cX1_wholeWord 34 = .ok (.lconst 0, 1) := by decide +kernel
theorem dX1_wholeWord_35 : decode cX1_wholeWord 35 = .ok (.lreturn, 1) := by decide +kernel
theorem dX1_wholeWord_36 : decode cX1_wholeWord 36 = .ok (.lload_n 1, 1) := by decide +kernel
theorem dX1_wholeWord_37 : decode cX1_wholeWord 37 = .ok (.aload_n 0, 1) := by decide +kernel
theorem dX1_wholeWord_38 : decode cX1_wholeWord 38 = .ok (.iload_n 3, 1) := by decide +kernel
theorem dX1_wholeWord_39 : decode cX1_wholeWord 39 = .ok (.invokevirtual 23, 3) := by decide +kernel
theorem dX1_wholeWord_42 : decode cX1_wholeWord 42 = .ok (.invokestatic 31, 3) := by decide +kernel
theorem dX1_wholeWord_45 : decode cX1_wholeWord 45 = .ok (.lstore_n 1, 1) := by decide +kernel
theorem dX1_wholeWord_46 : decode cX1_wholeWord 46 = .ok (.iinc 3 1, 3) := by decide +kernel
theorem dX1_wholeWord_49 : decode cX1_wholeWord 49 = .ok (.goto (-34), 3) := by decide +kernel
theorem dX1_wholeWord_52 : decode cX1_wholeWord 52 = .ok (.lload_n 1, 1) := by decide +kernel
theorem dX1_wholeWord_53 : decode cX1_wholeWord 53 = .ok (.lreturn, 1) := by decide +kernel
def zX1_wholeWord_15 (G : kz_G) (d : Nat) (Qr : Option Value → kz_M → Prop) (Qx : String → kz_M → Prop) (x0 : Nat) (x1 : Int64) (x3 : Int32)  (M : kz_M) : Prop := kz_Z G (d + 1) 0 0 mX1_wholeWord Qr Qx 15 [(0, .ref x0), (1, .long x1), (3, .int x3)] [] M 0 0
theorem rX1_wholeWord_0 {G : kz_G} {d : Nat} {Qr : Option Value → kz_M → Prop} {Qx : String → kz_M → Prop} {a0 : Nat}  {M : kz_M} (h : ∃ fs1 v2, (M).1 a0 = some (.inl (1, fs1)) ∧ fs1[1]? = some (.int v2) ∧ ((v2 ≤ (12 : Int32) → zX1_wholeWord_15 G d Qr Qx a0 0 0 M) ∧ (¬ v2 ≤ (12 : Int32) → Qr (some (.long 0)) M))) : kz_C G (d + 1) 0 0 mX1_wholeWord [.ref a0] M Qr Qx := by
  refine kz_enter (n := 0) kmX1_wholeWord.1 (Nat.le_of_ble_eq_true rfl) (ls := [(0, .ref a0)]) rfl ?_
  refine kz_aload_n (pc := 0) 0 (v := .ref a0) (i := 0) rfl rfl rfl dX1_wholeWord_0 ?_
  obtain ⟨fs1, v2, hM, hv, h⟩ := h
  refine kz_getf (pc := 1) (k := 1) kcX1 hM hv (by decide) kw_43 dX1_wholeWord_1 ?_
  refine kz_bipush (pc := 4) (v := 12) (by decide) dX1_wholeWord_4 ?_
  refine kz_icmp_le (pc := 6) (tgt := 11) (by decide) dX1_wholeWord_6 (fun hb => ?_) (fun hb => ?_)
  · replace h := h.1 hb
    refine kz_lconst (pc := 11) (v := 0) (by decide) dX1_wholeWord_11 ?_
    refine kz_lstore_n (pc := 12) (i := 1) (ls' := [(0, .ref a0)]) rfl (by decide) rfl dX1_wholeWord_12 ?_
    refine kz_iconst (pc := 13) (v := 0) (by decide) dX1_wholeWord_13 ?_
    refine kz_istore_n (pc := 14) (i := 3) (ls' := [(1, .long 0), (0, .ref a0)]) rfl (by decide) rfl dX1_wholeWord_14 ?_
    refine kz_sub [2, 1, 0] rfl ?_
    exact h
  · replace h := h.2 hb
    refine kz_lconst (pc := 9) (v := 0) (by decide) dX1_wholeWord_9 ?_
    exact kz_lret (pc := 10) rfl (Nat.le_refl _) (Nat.le_refl _) dX1_wholeWord_10 h
theorem rX1_wholeWord_15 {G : kz_G} {d : Nat} {Qr : Option Value → kz_M → Prop} {Qx : String → kz_M → Prop} {x0 : Nat} {x1 : Int64} {x3 : Int32}  {M : kz_M} (h : ∃ fs1 v2, (M).1 x0 = some (.inl (1, fs1)) ∧ fs1[1]? = some (.int v2) ∧ ((v2 ≤ x3 → Qr (some (.long x1)) M) ∧ (¬ v2 ≤ x3 → (∃ fs18, (M).1 x0 = some (.inl (1, fs18))) ∧ kz_C G (d + 0) 0 0 mX1_signAt [.ref x0, .int x3] M (fun v M3 => ∃ r4 : Int32, v = some (.int r4) ∧ (kz_C G (d + 0) 0 0 mX11_isLetter [.int r4] M3 (fun v M6 => ∃ r7 : Int32, v = some (.int r7) ∧ ((¬ r7 = 0 → (∃ fs16, (M6).1 x0 = some (.inl (1, fs16))) ∧ kz_C G (d + 0) 0 0 mX1_signAt [.ref x0, .int x3] M6 (fun v M9 => ∃ r10 : Int32, v = some (.int r10) ∧ (kz_C G (d + 0) 0 0 mX11_withLetter [.long x1, .int r10] M9 (fun v M12 => ∃ r13 : Int64, v = some (.long r13) ∧ (zX1_wholeWord_15 G d Qr Qx x0 r13 (x3 + 1) M12)) Qx)) Qx) ∧ (r7 = 0 → Qr (some (.long 0)) M6))) Qx)) Qx))) : zX1_wholeWord_15 G d Qr Qx x0 x1 x3  M := by
  show kz_Z G (d + 1) 0 0 mX1_wholeWord Qr Qx 15 [(0, .ref x0), (1, .long x1), (3, .int x3)] [] M 0 0
  refine kz_iload_n (pc := 15) 2 (i := 3) rfl rfl dX1_wholeWord_15 ?_
  refine kz_aload_n (pc := 16) 0 (v := .ref x0) (i := 0) rfl rfl rfl dX1_wholeWord_16 ?_
  obtain ⟨fs1, v2, hM, hv, h⟩ := h
  refine kz_getf (pc := 17) (k := 1) kcX1 hM hv (by decide) kw_43 dX1_wholeWord_17 ?_
  refine kz_icmp_ge (pc := 20) (tgt := 52) (by decide) dX1_wholeWord_20 (fun hb => ?_) (fun hb => ?_)
  · replace h := h.1 hb
    refine kz_lload_n (pc := 52) 1 (i := 1) rfl rfl dX1_wholeWord_52 ?_
    exact kz_lret (pc := 53) rfl (Nat.le_refl _) (Nat.le_refl _) dX1_wholeWord_53 h
  · replace h := h.2 hb
    refine kz_aload_n (pc := 23) 0 (v := .ref x0) (i := 0) rfl rfl rfl dX1_wholeWord_23 ?_
    refine kz_iload_n (pc := 24) 2 (i := 3) rfl rfl dX1_wholeWord_24 ?_
    obtain ⟨⟨fs18, he⟩, h⟩ := h
    refine kz_callV (pc := 25) (μ' := mX1_signAt) (ci := 1) (q := (RX1, TX1, 2)) (b := x0) (d' := d + 0) (mc' := 0) (ms' := 0) (As := [.int x3]) (st := []) (c := 0) (sl := 0) kmX1_signAt kw_459 (by omega) rfl (Nat.le_of_ble_eq_true rfl) he rfl rfl (Nat.le_refl _) (Nat.le_refl _) dX1_wholeWord_25 (fun E M9 hx => kz_Tout rfl (Nat.le_refl _) (Nat.le_refl _) hx) (kz_Cmono (fun v M3 h => ?_) (fun _ _ h => h) h)
    obtain ⟨r4, rfl, h⟩ := h
    show kz_Z G (d + 1) 0 0 mX1_wholeWord Qr Qx 28 [(0, .ref x0), (1, .long x1), (3, .int x3)] [.int r4] M3 0 0
    refine kz_callSN (pc := 28) (μ' := mX11_isLetter) (d' := d + 0) (mc' := 0) (ms' := 0) (As := [.int r4]) (st := []) (c := 0) (sl := 0) kmX11_isLetter kw_460 (by omega) rfl (Nat.le_of_ble_eq_true rfl) (Nat.le_refl _) (Nat.le_refl _) dX1_wholeWord_28 (fun E M9 hx => kz_Tout rfl (Nat.le_refl _) (Nat.le_refl _) hx) (kz_Cmono (fun v M6 h => ?_) (fun _ _ h => h) h)
    obtain ⟨r7, rfl, h⟩ := h
    show kz_Z G (d + 1) 0 0 mX1_wholeWord Qr Qx 31 [(0, .ref x0), (1, .long x1), (3, .int x3)] [.int r7] M6 0 0
    refine kz_if_ne (pc := 31) (tgt := 36) (by decide) dX1_wholeWord_31 (fun hb => ?_) (fun hb => ?_)
    · replace h := h.1 hb
      refine kz_lload_n (pc := 36) 1 (i := 1) rfl rfl dX1_wholeWord_36 ?_
      refine kz_aload_n (pc := 37) 0 (v := .ref x0) (i := 0) rfl rfl rfl dX1_wholeWord_37 ?_
      refine kz_iload_n (pc := 38) 2 (i := 3) rfl rfl dX1_wholeWord_38 ?_
      obtain ⟨⟨fs16, he⟩, h⟩ := h
      refine kz_callV (pc := 39) (μ' := mX1_signAt) (ci := 1) (q := (RX1, TX1, 2)) (b := x0) (d' := d + 0) (mc' := 0) (ms' := 0) (As := [.int x3]) (st := [.long x1]) (c := 0) (sl := 0) kmX1_signAt kw_459 (by omega) rfl (Nat.le_of_ble_eq_true rfl) he rfl rfl (Nat.le_refl _) (Nat.le_refl _) dX1_wholeWord_39 (fun E M9 hx => kz_Tout rfl (Nat.le_refl _) (Nat.le_refl _) hx) (kz_Cmono (fun v M9 h => ?_) (fun _ _ h => h) h)
      obtain ⟨r10, rfl, h⟩ := h
      show kz_Z G (d + 1) 0 0 mX1_wholeWord Qr Qx 42 [(0, .ref x0), (1, .long x1), (3, .int x3)] [.int r10, .long x1] M9 0 0
      refine kz_callSN (pc := 42) (μ' := mX11_withLetter) (d' := d + 0) (mc' := 0) (ms' := 0) (As := [.long x1, .int r10]) (st := []) (c := 0) (sl := 0) kmX11_withLetter kw_461 (by omega) rfl (Nat.le_of_ble_eq_true rfl) (Nat.le_refl _) (Nat.le_refl _) dX1_wholeWord_42 (fun E M9 hx => kz_Tout rfl (Nat.le_refl _) (Nat.le_refl _) hx) (kz_Cmono (fun v M12 h => ?_) (fun _ _ h => h) h)
      obtain ⟨r13, rfl, h⟩ := h
      show kz_Z G (d + 1) 0 0 mX1_wholeWord Qr Qx 45 [(0, .ref x0), (1, .long x1), (3, .int x3)] [.long r13] M12 0 0
      refine kz_lstore_n (pc := 45) (i := 1) (ls' := [(0, .ref x0), (3, .int x3)]) rfl (by decide) rfl dX1_wholeWord_45 ?_
      refine kz_iinc (pc := 46) 2 (i := 3) (v := x3 + 1) (ls' := [(1, .long r13), (0, .ref x0)]) rfl (congrArg (fun z => x3 + z) (by decide)) (by decide) rfl dX1_wholeWord_46 ?_
      refine kz_goto (pc := 49) (tgt := 15) (by decide) dX1_wholeWord_49 ?_
      refine kz_sub [2, 1, 0] rfl ?_
      exact h
    · replace h := h.2 hb
      refine kz_lconst (pc := 34) (v := 0) (by decide) dX1_wholeWord_34 ?_
      exact kz_lret (pc := 35) rfl (Nat.le_refl _) (Nat.le_refl _) dX1_wholeWord_35 h
