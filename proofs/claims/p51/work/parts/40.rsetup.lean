/-! The rules of 40.rsetup: printed by program (wip/whole/rules.py) -/
theorem dX8_init_0 : decode cX8_init 0 = .ok (.aload_n 0, 1) := by decide +kernel
theorem dX8_init_1 : decode cX8_init 1 = .ok (.invokespecial 3, 3) := by decide +kernel
theorem dX8_init_4 : decode cX8_init 4 = .ok (.aload_n 0, 1) := by decide +kernel
theorem dX8_init_5 : decode cX8_init 5 = .ok (.new 9, 3) := by decide +kernel
theorem dX8_init_8 : decode cX8_init 8 = .ok (.dup, 1) := by decide +kernel
theorem dX8_init_9 : decode cX8_init 9 = .ok (.invokespecial 11, 3) := by decide +kernel
theorem dX8_init_12 : decode cX8_init 12 = .ok (.putfield 12, 3) := by decide +kernel
theorem dX8_init_15 : decode cX8_init 15 = .ok (.aload_n 0, 1) := by decide +kernel
theorem dX8_init_16 : decode cX8_init 16 = .ok (.getstatic 18, 3) := by decide +kernel
theorem dX8_init_19 : decode cX8_init 19 = .ok (.arraylength, 1) := by decide +kernel
theorem dX8_init_20 : decode cX8_init 20 = .ok (.newarray .boolean, 2) := by decide +kernel
theorem dX8_init_22 : decode cX8_init 22 = .ok (.putfield 22, 3) := by decide +kernel
theorem dX8_init_25 : decode cX8_init 25 = .ok (.return_, 1) := by decide +kernel
theorem rX8_init_0 {G : kz_G} {d : Nat} {mc ms : Nat} {Qr : Option Value → kz_M → Prop} {Qx : String → kz_M → Prop} {a0 : Nat}  {M : kz_M} (hG : kz_stat G) (h : 0 + 1 ≤ mc ∧ 0 + 10 ≤ ms ∧ (∃ mc4 ms4, 0 + 1 + mc4 ≤ mc ∧ 0 + 10 + ms4 ≤ ms ∧ kz_C G (d + 2) mc4 ms4 mX9_init [.ref ((M).2)] (kz_nw M (.inl (8, [.int 0, .int 0, .int 0, .int 0, .null, .null, .null, .null, .null, .null]))) (fun v M2 => v = none ∧ (∃ fs5, (M2).1 a0 = some (.inl (7, fs5)) ∧ 0 < fs5.length ∧ (∃ N6, ¬ (10 : Int32) < 0 ∧ (10 : Int32).toNatClampNeg = N6 ∧ N6 ≤ 60000000 ∧ 0 + 1 + mc4 + 1 ≤ mc ∧ 0 + 10 + ms4 + N6 ≤ ms ∧ (∃ fs8, ((kz_nw (kz_up M2 a0 (.inl (7, fs5.set 0 (.ref ((M).2))))) (.inr (.boolean, N6, .inl (fun _ => 0))))).1 a0 = some (.inl (7, fs8)) ∧ 1 < fs8.length ∧ (∀ M9, M9 = kz_up (kz_nw (kz_up M2 a0 (.inl (7, fs5.set 0 (.ref ((M).2))))) (.inr (.boolean, N6, .inl (fun _ => 0)))) a0 (.inl (7, fs8.set 1 (.ref ((kz_up M2 a0 (.inl (7, fs5.set 0 (.ref ((M).2))))).2)))) → Qr none M9))))) Qx)) : kz_C G (d + 3) mc ms mX8_init [.ref a0] M Qr Qx := by
  refine kz_enter (n := 0) kmX8_init.1 (Nat.le_of_ble_eq_true rfl) (ls := [(0, .ref a0)]) rfl ?_
  refine kz_aload_n (pc := 0) 0 (v := .ref a0) (i := 0) rfl rfl rfl dX8_init_0 ?_
  refine kz_objInit (pc := 1) kw_172 kw_43 kw_44 (by omega) (Nat.le_of_ble_eq_true rfl) dX8_init_1 ?_
  refine kz_aload_n (pc := 4) 0 (v := .ref a0) (i := 0) rfl rfl rfl dX8_init_4 ?_
  obtain ⟨hc1, hs1, h⟩ := h
  refine kz_newc (pc := 5) kcX9 rfl kw_173 kw_74 kw_19 hc1 hs1 dX8_init_5 ?_
  refine kz_dup (pc := 8) rfl dX8_init_8 ?_
  obtain ⟨mc4, ms4, hc4, hs4, h⟩ := h
  refine kz_callI (pc := 9) (μ' := mX9_init) (b := (M).2) (d' := d + 2) (mc' := mc4) (ms' := ms4) (As := []) (st := [.ref ((M).2), .ref a0]) (c := 0 + 1) (sl := 0 + 10) kmX9_init kw_174 (by omega) rfl (Nat.le_of_ble_eq_true rfl) hc4 hs4 dX8_init_9 (fun E M9 hx => kz_Tout rfl hc4 hs4 hx) (kz_Cmono (fun v M2 h => ?_) (fun _ _ h => h) h)
  obtain ⟨rfl, h⟩ := h
  show kz_Z G (d + 3) mc ms mX8_init Qr Qx 12 [(0, .ref a0)] [.ref ((M).2), .ref a0] M2 (0 + 1 + mc4) (0 + 10 + ms4)
  obtain ⟨fs5, hM, hlen, h⟩ := h
  refine kz_putF (pc := 12) (k := 0) kcX8 hM (by decide) hlen rfl rfl kw_176 rfl rfl rfl dX8_init_12 ?_
  refine kz_aload_n (pc := 15) 0 (v := .ref a0) (i := 0) rfl rfl rfl dX8_init_15 ?_
  refine kz_getsN (pc := 16) (v := .retAddr 0) hG.2.2.2.1 kw_175 dX8_init_16 ?_
  refine kz_salen (pc := 19) (v := 10) hG.2.2.2.2.1 (by decide) dX8_init_19 ?_
  obtain ⟨N6, hn, hN, hb8, hc7, hs7, h⟩ := h
  refine kz_newaZ (pc := 20) N6 kw_207 hn hN hb8 hc7 hs7 dX8_init_20 ?_
  obtain ⟨fs8, hM, hlen, h⟩ := h
  refine kz_putF (pc := 22) (k := 1) kcX8 hM (by decide) hlen rfl rfl kw_178 rfl rfl rfl dX8_init_22 ?_
  refine kz_nameM (fun M9 e9 => ?_)
  replace h := h M9 e9
  exact kz_vret (pc := 25) rfl hc7 hs7 dX8_init_25 h
theorem dX8_read_0 : decode cX8_read 0 = .ok (.aload_n 0, 1) := by decide +kernel
theorem dX8_read_1 : decode cX8_read 1 = .ok (.invokevirtual 26, 3) := by decide +kernel
theorem dX8_read_4 : decode cX8_read 4 = .ok (.aload_n 0, 1) := by decide +kernel
theorem dX8_read_5 : decode cX8_read 5 = .ok (.aload_n 1, 1) := by decide +kernel
theorem dX8_read_6 : decode cX8_read 6 = .ok (.invokevirtual 29, 3) := by decide +kernel
theorem dX8_read_9 : decode cX8_read 9 = .ok (.ifCond .ne 5, 3) := by decide +kernel
theorem dX8_read_12 : decode cX8_read 12 = .ok (.iconst 0, 1) := by decide +kernel
theorem dX8_read_13 : decode cX8_read 13 = .ok (.ireturn, 1) := by decide +kernel
theorem dX8_read_14 : decode cX8_read 14 = .ok (.iconst 0, 1) := by decide +kernel
theorem dX8_read_15 : decode cX8_read 15 = .ok (.istore_n 2, 1) := by decide +kernel
theorem dX8_read_16 : decode cX8_read 16 = .ok (.iload_n 2, 1) := by decide +kernel
theorem dX8_read_17 : decode cX8_read 17 = .ok (.aload_n 1, 1) := by decide +kernel
theorem dX8_read_18 : decode cX8_read 18 = .ok (.getfield 33, 3) := by decide +kernel
theorem dX8_read_21 : decode cX8_read 21 = .ok (.if_icmp .gt 97, 3) := by decide +kernel
theorem dX8_read_24 : decode cX8_read 24 = .ok (.aload_n 0, 1) := by decide +kernel
theorem dX8_read_25 : decode cX8_read 25 = .ok (.aload_n 1, 1) := by decide +kernel
theorem dX8_read_26 : decode cX8_read 26 = .ok (.invokevirtual 39, 3) := by decide +kernel
theorem dX8_read_29 : decode cX8_read 29 = .ok (.aload_n 0, 1) := by decide +kernel
theorem dX8_read_30 : decode cX8_read 30 = .ok (.getfield 43, 3) := by decide +kernel
theorem dX8_read_33 : decode cX8_read 33 = .ok (.ifCond .ne 27, 3) := by decide +kernel
theorem dX8_read_36 : decode cX8_read 36 = .ok (.aload_n 0, 1) := by decide +kernel
theorem dX8_read_37 : decode cX8_read 37 = .ok (.getfield 12, 3) := by decide +kernel
theorem dX8_read_40 : decode cX8_read 40 = .ok (.getfield 46, 3) := by decide +kernel
theorem dX8_read_43 : decode cX8_read 43 = .ok (.ifCond .gt 11, 3) := by decide +kernel
theorem dX8_read_46 : decode cX8_read 46 = .ok (.aload_n 0, 1) := by decide +kernel
theorem dX8_read_47 : decode cX8_read 47 = .ok (.iconst 4, 1) := by decide +kernel
theorem dX8_read_48 : decode cX8_read 48 = .ok (.invokevirtual 49, 3) := by decide +kernel
theorem dX8_read_51 : decode cX8_read 51 = .ok (.ifCond .eq 7, 3) := by decide +kernel
theorem dX8_read_54 : decode cX8_read 54 = .ok (.iconst 1, 1) := by decide +kernel
theorem dX8_read_55 : decode cX8_read 55 = .ok (.goto 4, 3) := by decide +kernel
theorem dX8_read_58 : decode cX8_read 58 = .ok (.iconst 0, 1) := by decide +kernel
theorem dX8_read_59 : decode cX8_read 59 = .ok (.ireturn, 1) := by decide +kernel
theorem dX8_read_60 : decode cX8_read 60 = .ok (.aload_n 0, 1) := by decide +kernel
theorem dX8_read_61 : decode cX8_read 61 = .ok (.getfield 43, 3) := by decide +kernel
theorem dX8_read_64 : decode cX8_read 64 = .ok (.iconst 1, 1) := by decide +kernel
theorem dX8_read_65 : decode cX8_read 65 = .ok (.if_icmp .ne 20, 3) := by decide +kernel
theorem dX8_read_68 : decode cX8_read 68 = .ok (.aload_n 0, 1) := by decide +kernel
theorem dX8_read_69 : decode cX8_read 69 = .ok (.getfield 53, 3) := by decide +kernel
theorem dX8_read_72 : decode cX8_read 72 = .ok (.ldc 57, 2) := by decide +kernel
theorem dX8_read_74 : decode cX8_read 74 = .ok (.invokestatic 59, 3) := by decide +kernel
theorem dX8_read_77 : decode cX8_read 77 = .ok (.lcmp, 1) := by decide +kernel
theorem dX8_read_78 : decode cX8_read 78 = .ok (.ifCond .ne 7, 3) := by decide +kernel
theorem dX8_read_81 : decode cX8_read 81 = .ok (.iconst 1, 1) := by decide +kernel
theorem dX8_read_82 : decode cX8_read 82 = .ok (.goto 4, 3) := by decide +kernel
theorem dX8_read_85 : decode cX8_read 85 = .ok (.iconst 0, 1) := by decide +kernel
theorem dX8_read_86 : decode cX8_read 86 = .ok (.istore_n 3, 1) := by decide +kernel
theorem dX8_read_87 : decode cX8_read 87 = .ok (.iload_n 3, 1) := by decide +kernel
theorem dX8_read_88 : decode cX8_read 88 = .ok (.ifCond .eq 14, 3) := by decide +kernel
theorem dX8_read_91 : decode cX8_read 91 = .ok (.aload_n 0, 1) := by decide +kernel
theorem dX8_read_92 : decode cX8_read 92 = .ok (.aload_n 1, 1) := by decide +kernel
theorem dX8_read_93 : decode cX8_read 93 = .ok (.invokevirtual 63, 3) := by decide +kernel
theorem dX8_read_96 : decode cX8_read 96 = .ok (.ifCond .eq 14, 3) := by decide +kernel
theorem dX8_read_99 : decode cX8_read 99 = .ok (.goto 13, 3) := by decide +kernel
theorem dX8_read_102 : decode cX8_read 102 = .ok (.aload_n 0, 1) := by decide +kernel
theorem dX8_read_103 : decode cX8_read 103 = .ok (.aload_n 1, 1) := by decide +kernel
theorem dX8_read_104 : decode cX8_read 104 = .ok (.invokevirtual 66, 3) := by decide +kernel
theorem dX8_read_107 : decode cX8_read 107 = .ok (.ifCond .ne 5, 3) := by decide +kernel
theorem dX8_read_110 : decode cX8_read 110 = .ok (.iconst 0, 1) := by decide +kernel
theorem dX8_read_111 : decode cX8_read 111 = .ok (.ireturn, 1) := by decide +kernel
theorem dX8_read_112 : decode cX8_read 112 = .ok (.iinc 2 1, 3) := by decide +kernel
theorem dX8_read_115 : decode cX8_read 115 = .ok (.goto (-99), 3) := by decide +kernel
theorem dX8_read_118 : decode cX8_read 118 = .ok (.aload_n 0, 1) := by decide +kernel
theorem dX8_read_119 : decode cX8_read 119 = .ok (.iconst 1, 1) := by decide +kernel
theorem dX8_read_120 : decode cX8_read 120 = .ok (.invokevirtual 49, 3) := by decide +kernel
theorem dX8_read_123 : decode cX8_read 123 = .ok (.ireturn, 1) := by decide +kernel
def zX8_read_16 (G : kz_G) (d : Nat) (Qr : Option Value → kz_M → Prop) (Qx : String → kz_M → Prop) (x0 : Nat) (x1 : Nat) (x2 : Int32)  (M : kz_M) : Prop := kz_Z G (d + 8) 0 0 mX8_read Qr Qx 16 [(0, .ref x0), (1, .ref x1), (2, .int x2)] [] M 0 0
theorem rX8_read_0 {G : kz_G} {d : Nat} {Qr : Option Value → kz_M → Prop} {Qx : String → kz_M → Prop} {a0 : Nat} {p1 : Nat}  {M : kz_M} (h : (∃ fs8, (M).1 a0 = some (.inl (7, fs8))) ∧ kz_C G (d + 7) 0 0 mX8_begin [.ref a0] M (fun v M1 => v = none ∧ ((∃ fs7, (M1).1 a0 = some (.inl (7, fs7))) ∧ kz_C G (d + 7) 0 0 mX8_readOffice [.ref a0, .ref p1] M1 (fun v M4 => ∃ r5 : Int32, v = some (.int r5) ∧ ((¬ r5 = 0 → zX8_read_16 G d Qr Qx a0 p1 0 M4) ∧ (r5 = 0 → Qr (some (.int 0)) M4))) Qx)) Qx) : kz_C G (d + 8) 0 0 mX8_read [.ref a0, .ref p1] M Qr Qx := by
  refine kz_enter (n := 1) kmX8_read.1 (Nat.le_of_ble_eq_true rfl) (ls := [(0, .ref a0), (1, .ref p1)]) rfl ?_
  refine kz_aload_n (pc := 0) 0 (v := .ref a0) (i := 0) rfl rfl rfl dX8_read_0 ?_
  obtain ⟨⟨fs8, he⟩, h⟩ := h
  refine kz_callV (pc := 1) (μ' := mX8_begin) (ci := 7) (q := (RX8, TX8, 9)) (b := a0) (d' := d + 7) (mc' := 0) (ms' := 0) (As := []) (st := []) (c := 0) (sl := 0) kmX8_begin kw_321 (by omega) rfl (Nat.le_of_ble_eq_true rfl) he rfl rfl (Nat.le_refl _) (Nat.le_refl _) dX8_read_1 (fun E M9 hx => kz_Tout rfl (Nat.le_refl _) (Nat.le_refl _) hx) (kz_Cmono (fun v M1 h => ?_) (fun _ _ h => h) h)
  obtain ⟨rfl, h⟩ := h
  show kz_Z G (d + 8) 0 0 mX8_read Qr Qx 4 [(0, .ref a0), (1, .ref p1)] [] M1 0 0
  refine kz_aload_n (pc := 4) 0 (v := .ref a0) (i := 0) rfl rfl rfl dX8_read_4 ?_
  refine kz_aload_n (pc := 5) 1 (v := .ref p1) (i := 1) rfl rfl rfl dX8_read_5 ?_
  obtain ⟨⟨fs7, he⟩, h⟩ := h
  refine kz_callV (pc := 6) (μ' := mX8_readOffice) (ci := 7) (q := (RX8, TX8, 9)) (b := a0) (d' := d + 7) (mc' := 0) (ms' := 0) (As := [.ref p1]) (st := []) (c := 0) (sl := 0) kmX8_readOffice kw_326 (by omega) rfl (Nat.le_of_ble_eq_true rfl) he rfl rfl (Nat.le_refl _) (Nat.le_refl _) dX8_read_6 (fun E M9 hx => kz_Tout rfl (Nat.le_refl _) (Nat.le_refl _) hx) (kz_Cmono (fun v M4 h => ?_) (fun _ _ h => h) h)
  obtain ⟨r5, rfl, h⟩ := h
  show kz_Z G (d + 8) 0 0 mX8_read Qr Qx 9 [(0, .ref a0), (1, .ref p1)] [.int r5] M4 0 0
  refine kz_if_ne (pc := 9) (tgt := 14) (by decide) dX8_read_9 (fun hb => ?_) (fun hb => ?_)
  · replace h := h.1 hb
    refine kz_iconst (pc := 14) (v := 0) (by decide) dX8_read_14 ?_
    refine kz_istore_n (pc := 15) (i := 2) (ls' := [(0, .ref a0), (1, .ref p1)]) rfl (by decide) rfl dX8_read_15 ?_
    refine kz_sub [1, 2, 0] rfl ?_
    exact h
  · replace h := h.2 hb
    refine kz_iconst (pc := 12) (v := 0) (by decide) dX8_read_12 ?_
    exact kz_zret (pc := 13) (ty := .boolean) rfl (by decide) (Nat.le_refl _) (Nat.le_refl _) dX8_read_13 h
theorem rX8_read_16 {G : kz_G} {d : Nat} {Qr : Option Value → kz_M → Prop} {Qx : String → kz_M → Prop} {x0 : Nat} {x1 : Nat} {x2 : Int32}  {M : kz_M} (h : ∃ fs1 v2, (M).1 x1 = some (.inl (1, fs1)) ∧ fs1[1]? = some (.int v2) ∧ ((v2 < x2 → (∃ fs6, (M).1 x0 = some (.inl (7, fs6))) ∧ kz_C G (d + 7) 0 0 mX8_fail [.ref x0, .int 1] M (fun v M3 => ∃ r4 : Int32, v = some (.int r4) ∧ (narrow .boolean (.int r4) = .int r4 ∧ Qr (some (.int r4)) M3)) Qx) ∧ (¬ v2 < x2 → (∃ fs52, (M).1 x0 = some (.inl (7, fs52))) ∧ kz_C G (d + 7) 0 0 mX8_next [.ref x0, .ref x1] M (fun v M7 => v = none ∧ (∃ fs10 v11, (M7).1 x0 = some (.inl (7, fs10)) ∧ fs10[2]? = some (.int v11) ∧ ((¬ v11 = 0 → ∃ fs12 v13, (M7).1 x0 = some (.inl (7, fs12)) ∧ fs12[2]? = some (.int v13) ∧ ((¬ v13 = (1 : Int32) → ((0 : Int32) = 0 → (∃ fs17, (M7).1 x0 = some (.inl (7, fs17))) ∧ kz_C G (d + 7) 0 0 mX8_readSetting [.ref x0, .ref x1] M7 (fun v M14 => ∃ r15 : Int32, v = some (.int r15) ∧ ((¬ r15 = 0 → zX8_read_16 G d Qr Qx x0 x1 (x2 + 1) M14) ∧ (r15 = 0 → Qr (some (.int 0)) M14))) Qx) ∧ (¬ (0 : Int32) = 0 → (∃ fs21, (M7).1 x0 = some (.inl (7, fs21))) ∧ kz_C G (d + 7) 0 0 mX8_readWriter [.ref x0, .ref x1] M7 (fun v M18 => ∃ r19 : Int32, v = some (.int r19) ∧ ((r19 = 0 → Qr (some (.int 0)) M18) ∧ (¬ r19 = 0 → zX8_read_16 G d Qr Qx x0 x1 (x2 + 1) M18))) Qx)) ∧ (v13 = (1 : Int32) → ∃ fs22 v23, (M7).1 x0 = some (.inl (7, fs22)) ∧ fs22[5]? = some (.long v23) ∧ (kz_C G (d + 7) 0 0 mX11_coded [.retAddr 1034] M7 (fun v M24 => ∃ r25 : Int64, v = some (.long r25) ∧ ((¬ v23 = r25 → ((0 : Int32) = 0 → (∃ fs30, (M24).1 x0 = some (.inl (7, fs30))) ∧ kz_C G (d + 7) 0 0 mX8_readSetting [.ref x0, .ref x1] M24 (fun v M27 => ∃ r28 : Int32, v = some (.int r28) ∧ ((¬ r28 = 0 → zX8_read_16 G d Qr Qx x0 x1 (x2 + 1) M27) ∧ (r28 = 0 → Qr (some (.int 0)) M27))) Qx) ∧ (¬ (0 : Int32) = 0 → (∃ fs34, (M24).1 x0 = some (.inl (7, fs34))) ∧ kz_C G (d + 7) 0 0 mX8_readWriter [.ref x0, .ref x1] M24 (fun v M31 => ∃ r32 : Int32, v = some (.int r32) ∧ ((r32 = 0 → Qr (some (.int 0)) M31) ∧ (¬ r32 = 0 → zX8_read_16 G d Qr Qx x0 x1 (x2 + 1) M31))) Qx)) ∧ (v23 = r25 → ((1 : Int32) = 0 → (∃ fs38, (M24).1 x0 = some (.inl (7, fs38))) ∧ kz_C G (d + 7) 0 0 mX8_readSetting [.ref x0, .ref x1] M24 (fun v M35 => ∃ r36 : Int32, v = some (.int r36) ∧ ((¬ r36 = 0 → zX8_read_16 G d Qr Qx x0 x1 (x2 + 1) M35) ∧ (r36 = 0 → Qr (some (.int 0)) M35))) Qx) ∧ (¬ (1 : Int32) = 0 → (∃ fs42, (M24).1 x0 = some (.inl (7, fs42))) ∧ kz_C G (d + 7) 0 0 mX8_readWriter [.ref x0, .ref x1] M24 (fun v M39 => ∃ r40 : Int32, v = some (.int r40) ∧ ((r40 = 0 → Qr (some (.int 0)) M39) ∧ (¬ r40 = 0 → zX8_read_16 G d Qr Qx x0 x1 (x2 + 1) M39))) Qx)))) Qx)))) ∧ (v11 = 0 → ∃ fs44 v45, (M7).1 x0 = some (.inl (7, fs44)) ∧ fs44[0]? = some (.ref v45) ∧ (∃ fs46 v47, (M7).1 v45 = some (.inl (8, fs46)) ∧ fs46[2]? = some (.int v47) ∧ ((0 < v47 → Qr (some (.int 1)) M7) ∧ (¬ 0 < v47 → (∃ fs51, (M7).1 x0 = some (.inl (7, fs51))) ∧ kz_C G (d + 7) 0 0 mX8_fail [.ref x0, .int 4] M7 (fun v M48 => ∃ r49 : Int32, v = some (.int r49) ∧ ((r49 = 0 → Qr (some (.int 0)) M48) ∧ (¬ r49 = 0 → Qr (some (.int 1)) M48))) Qx))))))) Qx))) : zX8_read_16 G d Qr Qx x0 x1 x2  M := by
  show kz_Z G (d + 8) 0 0 mX8_read Qr Qx 16 [(0, .ref x0), (1, .ref x1), (2, .int x2)] [] M 0 0
  refine kz_iload_n (pc := 16) 2 (i := 2) rfl rfl dX8_read_16 ?_
  refine kz_aload_n (pc := 17) 1 (v := .ref x1) (i := 1) rfl rfl rfl dX8_read_17 ?_
  obtain ⟨fs1, v2, hM, hv, h⟩ := h
  refine kz_getf (pc := 18) (k := 1) kcX1 hM hv (by decide) kw_53 dX8_read_18 ?_
  refine kz_icmp_gt (pc := 21) (tgt := 118) (by decide) dX8_read_21 (fun hb => ?_) (fun hb => ?_)
  · replace h := h.1 hb
    refine kz_aload_n (pc := 118) 0 (v := .ref x0) (i := 0) rfl rfl rfl dX8_read_118 ?_
    refine kz_iconst (pc := 119) (v := 1) (by decide) dX8_read_119 ?_
    obtain ⟨⟨fs6, he⟩, h⟩ := h
    refine kz_callV (pc := 120) (μ' := mX8_fail) (ci := 7) (q := (RX8, TX8, 9)) (b := x0) (d' := d + 7) (mc' := 0) (ms' := 0) (As := [.int 1]) (st := []) (c := 0) (sl := 0) kmX8_fail kw_358 (by omega) rfl (Nat.le_of_ble_eq_true rfl) he rfl rfl (Nat.le_refl _) (Nat.le_refl _) dX8_read_120 (fun E M9 hx => kz_Tout rfl (Nat.le_refl _) (Nat.le_refl _) hx) (kz_Cmono (fun v M3 h => ?_) (fun _ _ h => h) h)
    obtain ⟨r4, rfl, h⟩ := h
    show kz_Z G (d + 8) 0 0 mX8_read Qr Qx 123 [(0, .ref x0), (1, .ref x1), (2, .int x2)] [.int r4] M3 0 0
    exact kz_zret (pc := 123) (ty := .boolean) rfl h.1 (Nat.le_refl _) (Nat.le_refl _) dX8_read_123 h.2
  · replace h := h.2 hb
    refine kz_aload_n (pc := 24) 0 (v := .ref x0) (i := 0) rfl rfl rfl dX8_read_24 ?_
    refine kz_aload_n (pc := 25) 1 (v := .ref x1) (i := 1) rfl rfl rfl dX8_read_25 ?_
    obtain ⟨⟨fs52, he⟩, h⟩ := h
    refine kz_callV (pc := 26) (μ' := mX8_next) (ci := 7) (q := (RX8, TX8, 9)) (b := x0) (d' := d + 7) (mc' := 0) (ms' := 0) (As := [.ref x1]) (st := []) (c := 0) (sl := 0) kmX8_next kw_330 (by omega) rfl (Nat.le_of_ble_eq_true rfl) he rfl rfl (Nat.le_refl _) (Nat.le_refl _) dX8_read_26 (fun E M9 hx => kz_Tout rfl (Nat.le_refl _) (Nat.le_refl _) hx) (kz_Cmono (fun v M7 h => ?_) (fun _ _ h => h) h)
    obtain ⟨rfl, h⟩ := h
    show kz_Z G (d + 8) 0 0 mX8_read Qr Qx 29 [(0, .ref x0), (1, .ref x1), (2, .int x2)] [] M7 0 0
    refine kz_aload_n (pc := 29) 0 (v := .ref x0) (i := 0) rfl rfl rfl dX8_read_29 ?_
    obtain ⟨fs10, v11, hM, hv, h⟩ := h
    refine kz_getf (pc := 30) (k := 2) kcX8 hM hv (by decide) kw_179 dX8_read_30 ?_
    refine kz_if_ne (pc := 33) (tgt := 60) (by decide) dX8_read_33 (fun hb => ?_) (fun hb => ?_)
    · replace h := h.1 hb
      refine kz_aload_n (pc := 60) 0 (v := .ref x0) (i := 0) rfl rfl rfl dX8_read_60 ?_
      obtain ⟨fs12, v13, hM, hv, h⟩ := h
      refine kz_getf (pc := 61) (k := 2) kcX8 hM hv (by decide) kw_179 dX8_read_61 ?_
      refine kz_iconst (pc := 64) (v := 1) (by decide) dX8_read_64 ?_
      refine kz_icmp_ne (pc := 65) (tgt := 85) (by decide) dX8_read_65 (fun hb => ?_) (fun hb => ?_)
      · replace h := h.1 hb
        refine kz_iconst (pc := 85) (v := 0) (by decide) dX8_read_85 ?_
        refine kz_istore_n (pc := 86) (i := 3) (ls' := [(0, .ref x0), (1, .ref x1), (2, .int x2)]) rfl (by decide) rfl dX8_read_86 ?_
        refine kz_iload_n (pc := 87) 0 (i := 3) rfl rfl dX8_read_87 ?_
        refine kz_if_eq (pc := 88) (tgt := 102) (by decide) dX8_read_88 (fun hb => ?_) (fun hb => ?_)
        · replace h := h.1 hb
          refine kz_aload_n (pc := 102) 1 (v := .ref x0) (i := 0) rfl rfl rfl dX8_read_102 ?_
          refine kz_aload_n (pc := 103) 2 (v := .ref x1) (i := 1) rfl rfl rfl dX8_read_103 ?_
          obtain ⟨⟨fs17, he⟩, h⟩ := h
          refine kz_callV (pc := 104) (μ' := mX8_readSetting) (ci := 7) (q := (RX8, TX8, 9)) (b := x0) (d' := d + 7) (mc' := 0) (ms' := 0) (As := [.ref x1]) (st := []) (c := 0) (sl := 0) kmX8_readSetting kw_397 (by omega) rfl (Nat.le_of_ble_eq_true rfl) he rfl rfl (Nat.le_refl _) (Nat.le_refl _) dX8_read_104 (fun E M9 hx => kz_Tout rfl (Nat.le_refl _) (Nat.le_refl _) hx) (kz_Cmono (fun v M14 h => ?_) (fun _ _ h => h) h)
          obtain ⟨r15, rfl, h⟩ := h
          show kz_Z G (d + 8) 0 0 mX8_read Qr Qx 107 [(3, .int 0), (0, .ref x0), (1, .ref x1), (2, .int x2)] [.int r15] M14 0 0
          refine kz_if_ne (pc := 107) (tgt := 112) (by decide) dX8_read_107 (fun hb => ?_) (fun hb => ?_)
          · replace h := h.1 hb
            refine kz_iinc (pc := 112) 3 (i := 2) (v := x2 + 1) (ls' := [(3, .int 0), (0, .ref x0), (1, .ref x1)]) rfl (congrArg (fun z => x2 + z) (by decide)) (by decide) rfl dX8_read_112 ?_
            refine kz_goto (pc := 115) (tgt := 16) (by decide) dX8_read_115 ?_
            refine kz_sub [2, 3, 0] rfl ?_
            exact h
          · replace h := h.2 hb
            refine kz_iconst (pc := 110) (v := 0) (by decide) dX8_read_110 ?_
            exact kz_zret (pc := 111) (ty := .boolean) rfl (by decide) (Nat.le_refl _) (Nat.le_refl _) dX8_read_111 h
        · replace h := h.2 hb
          refine kz_aload_n (pc := 91) 1 (v := .ref x0) (i := 0) rfl rfl rfl dX8_read_91 ?_
          refine kz_aload_n (pc := 92) 2 (v := .ref x1) (i := 1) rfl rfl rfl dX8_read_92 ?_
          obtain ⟨⟨fs21, he⟩, h⟩ := h
          refine kz_callV (pc := 93) (μ' := mX8_readWriter) (ci := 7) (q := (RX8, TX8, 9)) (b := x0) (d' := d + 7) (mc' := 0) (ms' := 0) (As := [.ref x1]) (st := []) (c := 0) (sl := 0) kmX8_readWriter kw_372 (by omega) rfl (Nat.le_of_ble_eq_true rfl) he rfl rfl (Nat.le_refl _) (Nat.le_refl _) dX8_read_93 (fun E M9 hx => kz_Tout rfl (Nat.le_refl _) (Nat.le_refl _) hx) (kz_Cmono (fun v M18 h => ?_) (fun _ _ h => h) h)
          obtain ⟨r19, rfl, h⟩ := h
          show kz_Z G (d + 8) 0 0 mX8_read Qr Qx 96 [(3, .int 0), (0, .ref x0), (1, .ref x1), (2, .int x2)] [.int r19] M18 0 0
          refine kz_if_eq (pc := 96) (tgt := 110) (by decide) dX8_read_96 (fun hb => ?_) (fun hb => ?_)
          · replace h := h.1 hb
            refine kz_iconst (pc := 110) (v := 0) (by decide) dX8_read_110 ?_
            exact kz_zret (pc := 111) (ty := .boolean) rfl (by decide) (Nat.le_refl _) (Nat.le_refl _) dX8_read_111 h
          · replace h := h.2 hb
            refine kz_goto (pc := 99) (tgt := 112) (by decide) dX8_read_99 ?_
            refine kz_iinc (pc := 112) 3 (i := 2) (v := x2 + 1) (ls' := [(3, .int 0), (0, .ref x0), (1, .ref x1)]) rfl (congrArg (fun z => x2 + z) (by decide)) (by decide) rfl dX8_read_112 ?_
            refine kz_goto (pc := 115) (tgt := 16) (by decide) dX8_read_115 ?_
            refine kz_sub [2, 3, 0] rfl ?_
            exact h
      · replace h := h.2 hb
        refine kz_aload_n (pc := 68) 0 (v := .ref x0) (i := 0) rfl rfl rfl dX8_read_68 ?_
        obtain ⟨fs22, v23, hM, hv, h⟩ := h
        refine kz_getf (pc := 69) (k := 5) kcX8 hM hv (by decide) kw_182 dX8_read_69 ?_
        refine kz_ldcS (pc := 72) (j := 1034) (tx := "writer") (List.mem_of_getElem? (i := 34) rfl) dX8_read_72 ?_
        refine kz_callSN (pc := 74) (μ' := mX11_coded) (d' := d + 7) (mc' := 0) (ms' := 0) (As := [.retAddr 1034]) (st := [.long v23]) (c := 0) (sl := 0) kmX11_coded kw_357 (by omega) rfl (Nat.le_of_ble_eq_true rfl) (Nat.le_refl _) (Nat.le_refl _) dX8_read_74 (fun E M9 hx => kz_Tout rfl (Nat.le_refl _) (Nat.le_refl _) hx) (kz_Cmono (fun v M24 h => ?_) (fun _ _ h => h) h)
        obtain ⟨r25, rfl, h⟩ := h
        show kz_Z G (d + 8) 0 0 mX8_read Qr Qx 77 [(0, .ref x0), (1, .ref x1), (2, .int x2)] [.long r25, .long v23] M24 0 0
        refine kz_lcmp_ne (pc := 77) (tgt := 85) (by decide) dX8_read_77 dX8_read_78 (fun hb => ?_) (fun hb => ?_)
        · replace h := h.1 hb
          refine kz_iconst (pc := 85) (v := 0) (by decide) dX8_read_85 ?_
          refine kz_istore_n (pc := 86) (i := 3) (ls' := [(0, .ref x0), (1, .ref x1), (2, .int x2)]) rfl (by decide) rfl dX8_read_86 ?_
          refine kz_iload_n (pc := 87) 0 (i := 3) rfl rfl dX8_read_87 ?_
          refine kz_if_eq (pc := 88) (tgt := 102) (by decide) dX8_read_88 (fun hb => ?_) (fun hb => ?_)
          · replace h := h.1 hb
            refine kz_aload_n (pc := 102) 1 (v := .ref x0) (i := 0) rfl rfl rfl dX8_read_102 ?_
            refine kz_aload_n (pc := 103) 2 (v := .ref x1) (i := 1) rfl rfl rfl dX8_read_103 ?_
            obtain ⟨⟨fs30, he⟩, h⟩ := h
            refine kz_callV (pc := 104) (μ' := mX8_readSetting) (ci := 7) (q := (RX8, TX8, 9)) (b := x0) (d' := d + 7) (mc' := 0) (ms' := 0) (As := [.ref x1]) (st := []) (c := 0) (sl := 0) kmX8_readSetting kw_397 (by omega) rfl (Nat.le_of_ble_eq_true rfl) he rfl rfl (Nat.le_refl _) (Nat.le_refl _) dX8_read_104 (fun E M9 hx => kz_Tout rfl (Nat.le_refl _) (Nat.le_refl _) hx) (kz_Cmono (fun v M27 h => ?_) (fun _ _ h => h) h)
            obtain ⟨r28, rfl, h⟩ := h
            show kz_Z G (d + 8) 0 0 mX8_read Qr Qx 107 [(3, .int 0), (0, .ref x0), (1, .ref x1), (2, .int x2)] [.int r28] M27 0 0
            refine kz_if_ne (pc := 107) (tgt := 112) (by decide) dX8_read_107 (fun hb => ?_) (fun hb => ?_)
            · replace h := h.1 hb
              refine kz_iinc (pc := 112) 3 (i := 2) (v := x2 + 1) (ls' := [(3, .int 0), (0, .ref x0), (1, .ref x1)]) rfl (congrArg (fun z => x2 + z) (by decide)) (by decide) rfl dX8_read_112 ?_
              refine kz_goto (pc := 115) (tgt := 16) (by decide) dX8_read_115 ?_
              refine kz_sub [2, 3, 0] rfl ?_
              exact h
            · replace h := h.2 hb
              refine kz_iconst (pc := 110) (v := 0) (by decide) dX8_read_110 ?_
              exact kz_zret (pc := 111) (ty := .boolean) rfl (by decide) (Nat.le_refl _) (Nat.le_refl _) dX8_read_111 h
          · replace h := h.2 hb
            refine kz_aload_n (pc := 91) 1 (v := .ref x0) (i := 0) rfl rfl rfl dX8_read_91 ?_
            refine kz_aload_n (pc := 92) 2 (v := .ref x1) (i := 1) rfl rfl rfl dX8_read_92 ?_
            obtain ⟨⟨fs34, he⟩, h⟩ := h
            refine kz_callV (pc := 93) (μ' := mX8_readWriter) (ci := 7) (q := (RX8, TX8, 9)) (b := x0) (d' := d + 7) (mc' := 0) (ms' := 0) (As := [.ref x1]) (st := []) (c := 0) (sl := 0) kmX8_readWriter kw_372 (by omega) rfl (Nat.le_of_ble_eq_true rfl) he rfl rfl (Nat.le_refl _) (Nat.le_refl _) dX8_read_93 (fun E M9 hx => kz_Tout rfl (Nat.le_refl _) (Nat.le_refl _) hx) (kz_Cmono (fun v M31 h => ?_) (fun _ _ h => h) h)
            obtain ⟨r32, rfl, h⟩ := h
            show kz_Z G (d + 8) 0 0 mX8_read Qr Qx 96 [(3, .int 0), (0, .ref x0), (1, .ref x1), (2, .int x2)] [.int r32] M31 0 0
            refine kz_if_eq (pc := 96) (tgt := 110) (by decide) dX8_read_96 (fun hb => ?_) (fun hb => ?_)
            · replace h := h.1 hb
              refine kz_iconst (pc := 110) (v := 0) (by decide) dX8_read_110 ?_
              exact kz_zret (pc := 111) (ty := .boolean) rfl (by decide) (Nat.le_refl _) (Nat.le_refl _) dX8_read_111 h
            · replace h := h.2 hb
              refine kz_goto (pc := 99) (tgt := 112) (by decide) dX8_read_99 ?_
              refine kz_iinc (pc := 112) 3 (i := 2) (v := x2 + 1) (ls' := [(3, .int 0), (0, .ref x0), (1, .ref x1)]) rfl (congrArg (fun z => x2 + z) (by decide)) (by decide) rfl dX8_read_112 ?_
              refine kz_goto (pc := 115) (tgt := 16) (by decide) dX8_read_115 ?_
              refine kz_sub [2, 3, 0] rfl ?_
              exact h
        · replace h := h.2 hb
          refine kz_iconst (pc := 81) (v := 1) (by decide) dX8_read_81 ?_
          refine kz_goto (pc := 82) (tgt := 86) (by decide) dX8_read_82 ?_
          refine kz_istore_n (pc := 86) (i := 3) (ls' := [(0, .ref x0), (1, .ref x1), (2, .int x2)]) rfl (by decide) rfl dX8_read_86 ?_
          refine kz_iload_n (pc := 87) 0 (i := 3) rfl rfl dX8_read_87 ?_
          refine kz_if_eq (pc := 88) (tgt := 102) (by decide) dX8_read_88 (fun hb => ?_) (fun hb => ?_)
          · replace h := h.1 hb
            refine kz_aload_n (pc := 102) 1 (v := .ref x0) (i := 0) rfl rfl rfl dX8_read_102 ?_
            refine kz_aload_n (pc := 103) 2 (v := .ref x1) (i := 1) rfl rfl rfl dX8_read_103 ?_
            obtain ⟨⟨fs38, he⟩, h⟩ := h
            refine kz_callV (pc := 104) (μ' := mX8_readSetting) (ci := 7) (q := (RX8, TX8, 9)) (b := x0) (d' := d + 7) (mc' := 0) (ms' := 0) (As := [.ref x1]) (st := []) (c := 0) (sl := 0) kmX8_readSetting kw_397 (by omega) rfl (Nat.le_of_ble_eq_true rfl) he rfl rfl (Nat.le_refl _) (Nat.le_refl _) dX8_read_104 (fun E M9 hx => kz_Tout rfl (Nat.le_refl _) (Nat.le_refl _) hx) (kz_Cmono (fun v M35 h => ?_) (fun _ _ h => h) h)
            obtain ⟨r36, rfl, h⟩ := h
            show kz_Z G (d + 8) 0 0 mX8_read Qr Qx 107 [(3, .int 1), (0, .ref x0), (1, .ref x1), (2, .int x2)] [.int r36] M35 0 0
            refine kz_if_ne (pc := 107) (tgt := 112) (by decide) dX8_read_107 (fun hb => ?_) (fun hb => ?_)
            · replace h := h.1 hb
              refine kz_iinc (pc := 112) 3 (i := 2) (v := x2 + 1) (ls' := [(3, .int 1), (0, .ref x0), (1, .ref x1)]) rfl (congrArg (fun z => x2 + z) (by decide)) (by decide) rfl dX8_read_112 ?_
              refine kz_goto (pc := 115) (tgt := 16) (by decide) dX8_read_115 ?_
              refine kz_sub [2, 3, 0] rfl ?_
              exact h
            · replace h := h.2 hb
              refine kz_iconst (pc := 110) (v := 0) (by decide) dX8_read_110 ?_
              exact kz_zret (pc := 111) (ty := .boolean) rfl (by decide) (Nat.le_refl _) (Nat.le_refl _) dX8_read_111 h
          · replace h := h.2 hb
            refine kz_aload_n (pc := 91) 1 (v := .ref x0) (i := 0) rfl rfl rfl dX8_read_91 ?_
            refine kz_aload_n (pc := 92) 2 (v := .ref x1) (i := 1) rfl rfl rfl dX8_read_92 ?_
            obtain ⟨⟨fs42, he⟩, h⟩ := h
            refine kz_callV (pc := 93) (μ' := mX8_readWriter) (ci := 7) (q := (RX8, TX8, 9)) (b := x0) (d' := d + 7) (mc' := 0) (ms' := 0) (As := [.ref x1]) (st := []) (c := 0) (sl := 0) kmX8_readWriter kw_372 (by omega) rfl (Nat.le_of_ble_eq_true rfl) he rfl rfl (Nat.le_refl _) (Nat.le_refl _) dX8_read_93 (fun E M9 hx => kz_Tout rfl (Nat.le_refl _) (Nat.le_refl _) hx) (kz_Cmono (fun v M39 h => ?_) (fun _ _ h => h) h)
            obtain ⟨r40, rfl, h⟩ := h
            show kz_Z G (d + 8) 0 0 mX8_read Qr Qx 96 [(3, .int 1), (0, .ref x0), (1, .ref x1), (2, .int x2)] [.int r40] M39 0 0
            refine kz_if_eq (pc := 96) (tgt := 110) (by decide) dX8_read_96 (fun hb => ?_) (fun hb => ?_)
            · replace h := h.1 hb
              refine kz_iconst (pc := 110) (v := 0) (by decide) dX8_read_110 ?_
              exact kz_zret (pc := 111) (ty := .boolean) rfl (by decide) (Nat.le_refl _) (Nat.le_refl _) dX8_read_111 h
            · replace h := h.2 hb
              refine kz_goto (pc := 99) (tgt := 112) (by decide) dX8_read_99 ?_
              refine kz_iinc (pc := 112) 3 (i := 2) (v := x2 + 1) (ls' := [(3, .int 1), (0, .ref x0), (1, .ref x1)]) rfl (congrArg (fun z => x2 + z) (by decide)) (by decide) rfl dX8_read_112 ?_
              refine kz_goto (pc := 115) (tgt := 16) (by decide) dX8_read_115 ?_
              refine kz_sub [2, 3, 0] rfl ?_
              exact h
    · replace h := h.2 hb
      refine kz_aload_n (pc := 36) 0 (v := .ref x0) (i := 0) rfl rfl rfl dX8_read_36 ?_
      obtain ⟨fs44, v45, hM, hv, h⟩ := h
      refine kz_getf (pc := 37) (k := 0) kcX8 hM hv (by decide) kw_176 dX8_read_37 ?_
      obtain ⟨fs46, v47, hM, hv, h⟩ := h
      refine kz_getf (pc := 40) (k := 2) kcX9 hM hv (by decide) kw_113 dX8_read_40 ?_
      refine kz_if_gt (pc := 43) (tgt := 54) (by decide) dX8_read_43 (fun hb => ?_) (fun hb => ?_)
      · replace h := h.1 hb
        refine kz_iconst (pc := 54) (v := 1) (by decide) dX8_read_54 ?_
        refine kz_goto (pc := 55) (tgt := 59) (by decide) dX8_read_55 ?_
        exact kz_zret (pc := 59) (ty := .boolean) rfl (by decide) (Nat.le_refl _) (Nat.le_refl _) dX8_read_59 h
      · replace h := h.2 hb
        refine kz_aload_n (pc := 46) 0 (v := .ref x0) (i := 0) rfl rfl rfl dX8_read_46 ?_
        refine kz_iconst (pc := 47) (v := 4) (by decide) dX8_read_47 ?_
        obtain ⟨⟨fs51, he⟩, h⟩ := h
        refine kz_callV (pc := 48) (μ' := mX8_fail) (ci := 7) (q := (RX8, TX8, 9)) (b := x0) (d' := d + 7) (mc' := 0) (ms' := 0) (As := [.int 4]) (st := []) (c := 0) (sl := 0) kmX8_fail kw_358 (by omega) rfl (Nat.le_of_ble_eq_true rfl) he rfl rfl (Nat.le_refl _) (Nat.le_refl _) dX8_read_48 (fun E M9 hx => kz_Tout rfl (Nat.le_refl _) (Nat.le_refl _) hx) (kz_Cmono (fun v M48 h => ?_) (fun _ _ h => h) h)
        obtain ⟨r49, rfl, h⟩ := h
        show kz_Z G (d + 8) 0 0 mX8_read Qr Qx 51 [(0, .ref x0), (1, .ref x1), (2, .int x2)] [.int r49] M48 0 0
        refine kz_if_eq (pc := 51) (tgt := 58) (by decide) dX8_read_51 (fun hb => ?_) (fun hb => ?_)
        · replace h := h.1 hb
          refine kz_iconst (pc := 58) (v := 0) (by decide) dX8_read_58 ?_
          exact kz_zret (pc := 59) (ty := .boolean) rfl (by decide) (Nat.le_refl _) (Nat.le_refl _) dX8_read_59 h
        · replace h := h.2 hb
          refine kz_iconst (pc := 54) (v := 1) (by decide) dX8_read_54 ?_
          refine kz_goto (pc := 55) (tgt := 59) (by decide) dX8_read_55 ?_
          exact kz_zret (pc := 59) (ty := .boolean) rfl (by decide) (Nat.le_refl _) (Nat.le_refl _) dX8_read_59 h
theorem dX8_begin_0 : decode cX8_begin 0 = .ok (.aload_n 0, 1) := by decide +kernel
theorem dX8_begin_1 : decode cX8_begin 1 = .ok (.getfield 12, 3) := by decide +kernel
theorem dX8_begin_4 : decode cX8_begin 4 = .ok (.invokevirtual 69, 3) := by decide +kernel
theorem dX8_begin_7 : decode cX8_begin 7 = .ok (.iconst 0, 1) := by decide +kernel
theorem dX8_begin_8 : decode cX8_begin 8 = .ok (.istore_n 1, 1) := by decide +kernel
theorem dX8_begin_9 : decode cX8_begin 9 = .ok (.iload_n 1, 1) := by decide +kernel
theorem dX8_begin_10 : decode cX8_begin 10 = .ok (.aload_n 0, 1) := by decide +kernel
theorem dX8_begin_11 : decode cX8_begin 11 = .ok (.getfield 22, 3) := by decide +kernel
theorem dX8_begin_14 : decode cX8_begin 14 = .ok (.arraylength, 1) := by decide +kernel
theorem dX8_begin_15 : decode cX8_begin 15 = .ok (.if_icmp .ge 16, 3) := by decide +kernel
theorem dX8_begin_18 : decode cX8_begin 18 = .ok (.aload_n 0, 1) := by decide +kernel
theorem dX8_begin_19 : decode cX8_begin 19 = .ok (.getfield 22, 3) := by decide +kernel
theorem dX8_begin_22 : decode cX8_begin 22 = .ok (.iload_n 1, 1) := by decide +kernel
theorem dX8_begin_23 : decode cX8_begin 23 = .ok (.iconst 0, 1) := by decide +kernel
theorem dX8_begin_24 : decode cX8_begin 24 = .ok (.bastore, 1) := by decide +kernel
theorem dX8_begin_25 : decode cX8_begin 25 = .ok (.iinc 1 1, 3) := by decide +kernel
theorem dX8_begin_28 : decode cX8_begin 28 = .ok (.goto (-19), 3) := by decide +kernel
theorem dX8_begin_31 : decode cX8_begin 31 = .ok (.aload_n 0, 1) := by decide +kernel
theorem dX8_begin_32 : decode cX8_begin 32 = .ok (.iconst 0, 1) := by decide +kernel
theorem dX8_begin_33 : decode cX8_begin 33 = .ok (.putfield 70, 3) := by decide +kernel
theorem dX8_begin_36 : decode cX8_begin 36 = .ok (.aload_n 0, 1) := by decide +kernel
theorem dX8_begin_37 : decode cX8_begin 37 = .ok (.iconst 0, 1) := by decide +kernel
theorem dX8_begin_38 : decode cX8_begin 38 = .ok (.putfield 73, 3) := by decide +kernel
theorem dX8_begin_41 : decode cX8_begin 41 = .ok (.aload_n 0, 1) := by decide +kernel
theorem dX8_begin_42 : decode cX8_begin 42 = .ok (.iconst (-1), 1) := by decide +kernel
theorem dX8_begin_43 : decode cX8_begin 43 = .ok (.putfield 76, 3) := by decide +kernel
theorem dX8_begin_46 : decode cX8_begin 46 = .ok (.return_, 1) := by decide +kernel
def zX8_begin_9 (G : kz_G) (d : Nat) (Qr : Option Value → kz_M → Prop) (Qx : String → kz_M → Prop) (x0 : Nat) (x1 : Int32)  (M : kz_M) : Prop := kz_Z G (d + 2) 0 0 mX8_begin Qr Qx 9 [(0, .ref x0), (1, .int x1)] [] M 0 0
theorem rX8_begin_0 {G : kz_G} {d : Nat} {Qr : Option Value → kz_M → Prop} {Qx : String → kz_M → Prop} {a0 : Nat}  {M : kz_M} (h : ∃ fs1 v2, (M).1 a0 = some (.inl (7, fs1)) ∧ fs1[0]? = some (.ref v2) ∧ ((∃ fs6, (M).1 v2 = some (.inl (8, fs6))) ∧ kz_C G (d + 1) 0 0 mX9_begin [.ref v2] M (fun v M3 => v = none ∧ (zX8_begin_9 G d Qr Qx a0 0 M3)) Qx)) : kz_C G (d + 2) 0 0 mX8_begin [.ref a0] M Qr Qx := by
  refine kz_enter (n := 0) kmX8_begin.1 (Nat.le_of_ble_eq_true rfl) (ls := [(0, .ref a0)]) rfl ?_
  refine kz_aload_n (pc := 0) 0 (v := .ref a0) (i := 0) rfl rfl rfl dX8_begin_0 ?_
  obtain ⟨fs1, v2, hM, hv, h⟩ := h
  refine kz_getf (pc := 1) (k := 0) kcX8 hM hv (by decide) kw_176 dX8_begin_1 ?_
  obtain ⟨⟨fs6, he⟩, h⟩ := h
  refine kz_callV (pc := 4) (μ' := mX9_begin) (ci := 8) (q := (RX9, TX9, 10)) (b := v2) (d' := d + 1) (mc' := 0) (ms' := 0) (As := []) (st := []) (c := 0) (sl := 0) kmX9_begin kw_325 (by omega) rfl (Nat.le_of_ble_eq_true rfl) he rfl rfl (Nat.le_refl _) (Nat.le_refl _) dX8_begin_4 (fun E M9 hx => kz_Tout rfl (Nat.le_refl _) (Nat.le_refl _) hx) (kz_Cmono (fun v M3 h => ?_) (fun _ _ h => h) h)
  obtain ⟨rfl, h⟩ := h
  show kz_Z G (d + 2) 0 0 mX8_begin Qr Qx 7 [(0, .ref a0)] [] M3 0 0
  refine kz_iconst (pc := 7) (v := 0) (by decide) dX8_begin_7 ?_
  refine kz_istore_n (pc := 8) (i := 1) (ls' := [(0, .ref a0)]) rfl (by decide) rfl dX8_begin_8 ?_
  refine kz_sub [1, 0] rfl ?_
  exact h
theorem rX8_begin_9 {G : kz_G} {d : Nat} {Qr : Option Value → kz_M → Prop} {Qx : String → kz_M → Prop} {x0 : Nat} {x1 : Int32}  {M : kz_M} (h : ∃ fs1 v2, (M).1 x0 = some (.inl (7, fs1)) ∧ fs1[1]? = some (.ref v2) ∧ (∃ ty3 A4, (M).1 v2 = some (.inr (ty3, A4)) ∧ (((Int32.ofNat A4.1) ≤ x1 → ∃ fs5, (M).1 x0 = some (.inl (7, fs5)) ∧ 4 < fs5.length ∧ (∃ fs6, ((kz_up M x0 (.inl (7, fs5.set 4 (.int 0))))).1 x0 = some (.inl (7, fs6)) ∧ 7 < fs6.length ∧ (∃ fs7, ((kz_up (kz_up M x0 (.inl (7, fs5.set 4 (.int 0)))) x0 (.inl (7, fs6.set 7 (.int 0))))).1 x0 = some (.inl (7, fs7)) ∧ 8 < fs7.length ∧ (Qr none (kz_up (kz_up (kz_up M x0 (.inl (7, fs5.set 4 (.int 0)))) x0 (.inl (7, fs6.set 7 (.int 0)))) x0 (.inl (7, fs7.set 8 (.int ((-1)))))))))) ∧ (¬ (Int32.ofNat A4.1) ≤ x1 → ∃ fs8 v9, (M).1 x0 = some (.inl (7, fs8)) ∧ fs8[1]? = some (.ref v9) ∧ (∃ n10 f11, (M).1 v9 = some (.inr (.boolean, n10, .inl f11)) ∧ vp_in x1 n10 ∧ (zX8_begin_9 G d Qr Qx x0 (x1 + 1) (kz_up M v9 (.inr (.boolean, n10, .inl (upd f11 (x1 : Int32).toNatClampNeg (vp_nar .boolean 0))))))))))) : zX8_begin_9 G d Qr Qx x0 x1  M := by
  show kz_Z G (d + 2) 0 0 mX8_begin Qr Qx 9 [(0, .ref x0), (1, .int x1)] [] M 0 0
  refine kz_iload_n (pc := 9) 1 (i := 1) rfl rfl dX8_begin_9 ?_
  refine kz_aload_n (pc := 10) 0 (v := .ref x0) (i := 0) rfl rfl rfl dX8_begin_10 ?_
  obtain ⟨fs1, v2, hM, hv, h⟩ := h
  refine kz_getf (pc := 11) (k := 1) kcX8 hM hv (by decide) kw_178 dX8_begin_11 ?_
  obtain ⟨ty3, A4, hM, h⟩ := h
  refine kz_alen (pc := 14) hM rfl dX8_begin_14 ?_
  refine kz_icmp_ge (pc := 15) (tgt := 31) (by decide) dX8_begin_15 (fun hb => ?_) (fun hb => ?_)
  · replace h := h.1 hb
    refine kz_aload_n (pc := 31) 0 (v := .ref x0) (i := 0) rfl rfl rfl dX8_begin_31 ?_
    refine kz_iconst (pc := 32) (v := 0) (by decide) dX8_begin_32 ?_
    obtain ⟨fs5, hM, hlen, h⟩ := h
    refine kz_putf (pc := 33) (k := 4) kcX8 hM (by decide) hlen kw_181 rfl rfl rfl dX8_begin_33 ?_
    refine kz_aload_n (pc := 36) 0 (v := .ref x0) (i := 0) rfl rfl rfl dX8_begin_36 ?_
    refine kz_iconst (pc := 37) (v := 0) (by decide) dX8_begin_37 ?_
    obtain ⟨fs6, hM, hlen, h⟩ := h
    refine kz_putf (pc := 38) (k := 7) kcX8 hM (by decide) hlen kw_184 rfl rfl rfl dX8_begin_38 ?_
    refine kz_aload_n (pc := 41) 0 (v := .ref x0) (i := 0) rfl rfl rfl dX8_begin_41 ?_
    refine kz_iconst (pc := 42) (v := (-1)) (by decide) dX8_begin_42 ?_
    obtain ⟨fs7, hM, hlen, h⟩ := h
    refine kz_putf (pc := 43) (k := 8) kcX8 hM (by decide) hlen kw_186 rfl rfl rfl dX8_begin_43 ?_
    exact kz_vret (pc := 46) rfl (Nat.le_refl _) (Nat.le_refl _) dX8_begin_46 h
  · replace h := h.2 hb
    refine kz_aload_n (pc := 18) 0 (v := .ref x0) (i := 0) rfl rfl rfl dX8_begin_18 ?_
    obtain ⟨fs8, v9, hM, hv, h⟩ := h
    refine kz_getf (pc := 19) (k := 1) kcX8 hM hv (by decide) kw_178 dX8_begin_19 ?_
    refine kz_iload_n (pc := 22) 1 (i := 1) rfl rfl dX8_begin_22 ?_
    refine kz_iconst (pc := 23) (v := 0) (by decide) dX8_begin_23 ?_
    obtain ⟨n10, f11, hM, hi, h⟩ := h
    refine kz_zast (pc := 24) hM hi dX8_begin_24 ?_
    refine kz_iinc (pc := 25) 1 (i := 1) (v := x1 + 1) (ls' := [(0, .ref x0)]) rfl (congrArg (fun z => x1 + z) (by decide)) (by decide) rfl dX8_begin_25 ?_
    refine kz_goto (pc := 28) (tgt := 9) (by decide) dX8_begin_28 ?_
    refine kz_sub [1, 0] rfl ?_
    exact h
theorem dX8_fail_0 : decode cX8_fail 0 = .ok (.aload_n 0, 1) := by decide +kernel
theorem dX8_fail_1 : decode cX8_fail 1 = .ok (.iload_n 1, 1) := by decide +kernel
theorem dX8_fail_2 : decode cX8_fail 2 = .ok (.putfield 73, 3) := by decide +kernel
theorem dX8_fail_5 : decode cX8_fail 5 = .ok (.aload_n 0, 1) := by decide +kernel
theorem dX8_fail_6 : decode cX8_fail 6 = .ok (.aload_n 0, 1) := by decide +kernel
theorem dX8_fail_7 : decode cX8_fail 7 = .ok (.getfield 79, 3) := by decide +kernel
theorem dX8_fail_10 : decode cX8_fail 10 = .ok (.putfield 76, 3) := by decide +kernel
theorem dX8_fail_13 : decode cX8_fail 13 = .ok (.iconst 0, 1) := by decide +kernel
theorem dX8_fail_14 : decode cX8_fail 14 = .ok (.ireturn, 1) := by decide +kernel
theorem rX8_fail_0 {G : kz_G} {d : Nat} {Qr : Option Value → kz_M → Prop} {Qx : String → kz_M → Prop} {a0 : Nat} {p1 : Int32}  {M : kz_M} (h : ∃ fs1, (M).1 a0 = some (.inl (7, fs1)) ∧ 7 < fs1.length ∧ (∃ fs2 v3, ((kz_up M a0 (.inl (7, fs1.set 7 (.int p1))))).1 a0 = some (.inl (7, fs2)) ∧ fs2[3]? = some (.int v3) ∧ (∃ fs4, ((kz_up M a0 (.inl (7, fs1.set 7 (.int p1))))).1 a0 = some (.inl (7, fs4)) ∧ 8 < fs4.length ∧ (Qr (some (.int 0)) (kz_up (kz_up M a0 (.inl (7, fs1.set 7 (.int p1)))) a0 (.inl (7, fs4.set 8 (.int v3)))))))) : kz_C G d 0 0 mX8_fail [.ref a0, .int p1] M Qr Qx := by
  refine kz_enter (n := 1) kmX8_fail.1 (Nat.le_of_ble_eq_true rfl) (ls := [(0, .ref a0), (1, .int p1)]) rfl ?_
  refine kz_aload_n (pc := 0) 0 (v := .ref a0) (i := 0) rfl rfl rfl dX8_fail_0 ?_
  refine kz_iload_n (pc := 1) 1 (i := 1) rfl rfl dX8_fail_1 ?_
  obtain ⟨fs1, hM, hlen, h⟩ := h
  refine kz_putf (pc := 2) (k := 7) kcX8 hM (by decide) hlen kw_184 rfl rfl rfl dX8_fail_2 ?_
  refine kz_aload_n (pc := 5) 0 (v := .ref a0) (i := 0) rfl rfl rfl dX8_fail_5 ?_
  refine kz_aload_n (pc := 6) 0 (v := .ref a0) (i := 0) rfl rfl rfl dX8_fail_6 ?_
  obtain ⟨fs2, v3, hM, hv, h⟩ := h
  refine kz_getf (pc := 7) (k := 3) kcX8 hM hv (by decide) kw_180 dX8_fail_7 ?_
  obtain ⟨fs4, hM, hlen, h⟩ := h
  refine kz_putf (pc := 10) (k := 8) kcX8 hM (by decide) hlen kw_186 rfl rfl rfl dX8_fail_10 ?_
  refine kz_iconst (pc := 13) (v := 0) (by decide) dX8_fail_13 ?_
  exact kz_zret (pc := 14) (ty := .boolean) rfl (by decide) (Nat.le_refl _) (Nat.le_refl _) dX8_fail_14 h
theorem dX8_readOffice_0 : decode cX8_readOffice 0 = .ok (.aload_n 0, 1) := by decide +kernel
theorem dX8_readOffice_1 : decode cX8_readOffice 1 = .ok (.aload_n 1, 1) := by decide +kernel
theorem dX8_readOffice_2 : decode cX8_readOffice 2 = .ok (.invokevirtual 39, 3) := by decide +kernel
theorem dX8_readOffice_5 : decode cX8_readOffice 5 = .ok (.aload_n 0, 1) := by decide +kernel
theorem dX8_readOffice_6 : decode cX8_readOffice 6 = .ok (.getfield 43, 3) := by decide +kernel
theorem dX8_readOffice_9 : decode cX8_readOffice 9 = .ok (.iconst 1, 1) := by decide +kernel
theorem dX8_readOffice_10 : decode cX8_readOffice 10 = .ok (.if_icmp .ne 16, 3) := by decide +kernel
theorem dX8_readOffice_13 : decode cX8_readOffice 13 = .ok (.aload_n 0, 1) := by decide +kernel
theorem dX8_readOffice_14 : decode cX8_readOffice 14 = .ok (.getfield 53, 3) := by decide +kernel
theorem dX8_readOffice_17 : decode cX8_readOffice 17 = .ok (.ldc 82, 2) := by decide +kernel
theorem dX8_readOffice_19 : decode cX8_readOffice 19 = .ok (.invokestatic 59, 3) := by decide +kernel
theorem dX8_readOffice_22 : decode cX8_readOffice 22 = .ok (.lcmp, 1) := by decide +kernel
theorem dX8_readOffice_23 : decode cX8_readOffice 23 = .ok (.ifCond .eq 9, 3) := by decide +kernel
theorem dX8_readOffice_26 : decode cX8_readOffice 26 = .ok (.aload_n 0, 1) := by decide +kernel
theorem dX8_readOffice_27 : decode cX8_readOffice 27 = .ok (.iconst 1, 1) := by decide +kernel
theorem dX8_readOffice_28 : decode cX8_readOffice 28 = .ok (.invokevirtual 49, 3) := by decide +kernel
theorem dX8_readOffice_31 : decode cX8_readOffice 31 = .ok (.ireturn, 1) := by decide +kernel
theorem dX8_readOffice_32 : decode cX8_readOffice 32 = .ok (.aload_n 0, 1) := by decide +kernel
theorem dX8_readOffice_33 : decode cX8_readOffice 33 = .ok (.aload_n 1, 1) := by decide +kernel
theorem dX8_readOffice_34 : decode cX8_readOffice 34 = .ok (.iconst 0, 1) := by decide +kernel
theorem dX8_readOffice_35 : decode cX8_readOffice 35 = .ok (.ldc 84, 2) := by decide +kernel
theorem dX8_readOffice_37 : decode cX8_readOffice 37 = .ok (.invokevirtual 85, 3) := by decide +kernel
theorem dX8_readOffice_40 : decode cX8_readOffice 40 = .ok (.ifCond .ne 5, 3) := by decide +kernel
theorem dX8_readOffice_43 : decode cX8_readOffice 43 = .ok (.iconst 0, 1) := by decide +kernel
theorem dX8_readOffice_44 : decode cX8_readOffice 44 = .ok (.ireturn, 1) := by decide +kernel
theorem dX8_readOffice_45 : decode cX8_readOffice 45 = .ok (.aload_n 0, 1) := by decide +kernel
theorem dX8_readOffice_46 : decode cX8_readOffice 46 = .ok (.getfield 12, 3) := by decide +kernel
theorem dX8_readOffice_49 : decode cX8_readOffice 49 = .ok (.aload_n 0, 1) := by decide +kernel
theorem dX8_readOffice_50 : decode cX8_readOffice 50 = .ok (.getfield 89, 3) := by decide +kernel
theorem dX8_readOffice_53 : decode cX8_readOffice 53 = .ok (.putfield 92, 3) := by decide +kernel
theorem dX8_readOffice_56 : decode cX8_readOffice 56 = .ok (.aload_n 0, 1) := by decide +kernel
theorem dX8_readOffice_57 : decode cX8_readOffice 57 = .ok (.aload_n 1, 1) := by decide +kernel
theorem dX8_readOffice_58 : decode cX8_readOffice 58 = .ok (.invokevirtual 95, 3) := by decide +kernel
theorem dX8_readOffice_61 : decode cX8_readOffice 61 = .ok (.ireturn, 1) := by decide +kernel
theorem rX8_readOffice_0 {G : kz_G} {d : Nat} {Qr : Option Value → kz_M → Prop} {Qx : String → kz_M → Prop} {a0 : Nat} {p1 : Nat}  {M : kz_M} (h : (∃ fs33, (M).1 a0 = some (.inl (7, fs33))) ∧ kz_C G (d + 4) 0 0 mX8_next [.ref a0, .ref p1] M (fun v M1 => v = none ∧ (∃ fs4 v5, (M1).1 a0 = some (.inl (7, fs4)) ∧ fs4[2]? = some (.int v5) ∧ ((¬ v5 = (1 : Int32) → (∃ fs9, (M1).1 a0 = some (.inl (7, fs9))) ∧ kz_C G (d + 4) 0 0 mX8_fail [.ref a0, .int 1] M1 (fun v M6 => ∃ r7 : Int32, v = some (.int r7) ∧ (narrow .boolean (.int r7) = .int r7 ∧ Qr (some (.int r7)) M6)) Qx) ∧ (v5 = (1 : Int32) → ∃ fs10 v11, (M1).1 a0 = some (.inl (7, fs10)) ∧ fs10[5]? = some (.long v11) ∧ (kz_C G (d + 4) 0 0 mX11_coded [.retAddr 1035] M1 (fun v M12 => ∃ r13 : Int64, v = some (.long r13) ∧ ((v11 = r13 → (∃ fs27, (M12).1 a0 = some (.inl (7, fs27))) ∧ kz_C G (d + 4) 0 0 mX8_readNumber [.ref a0, .ref p1, .int 0, .int 99999] M12 (fun v M15 => ∃ r16 : Int32, v = some (.int r16) ∧ ((¬ r16 = 0 → ∃ fs18 v19, (M15).1 a0 = some (.inl (7, fs18)) ∧ fs18[0]? = some (.ref v19) ∧ (∃ fs20 v21, (M15).1 a0 = some (.inl (7, fs20)) ∧ fs20[6]? = some (.int v21) ∧ (∃ fs22, (M15).1 v19 = some (.inl (8, fs22)) ∧ 1 < fs22.length ∧ ((∃ fs26, ((kz_up M15 v19 (.inl (8, fs22.set 1 (.int v21))))).1 a0 = some (.inl (7, fs26))) ∧ kz_C G (d + 4) 0 0 mX8_readSemicolon [.ref a0, .ref p1] (kz_up M15 v19 (.inl (8, fs22.set 1 (.int v21)))) (fun v M23 => ∃ r24 : Int32, v = some (.int r24) ∧ (narrow .boolean (.int r24) = .int r24 ∧ Qr (some (.int r24)) M23)) Qx)))) ∧ (r16 = 0 → Qr (some (.int 0)) M15))) Qx) ∧ (¬ v11 = r13 → (∃ fs31, (M12).1 a0 = some (.inl (7, fs31))) ∧ kz_C G (d + 4) 0 0 mX8_fail [.ref a0, .int 1] M12 (fun v M28 => ∃ r29 : Int32, v = some (.int r29) ∧ (narrow .boolean (.int r29) = .int r29 ∧ Qr (some (.int r29)) M28)) Qx))) Qx))))) Qx) : kz_C G (d + 5) 0 0 mX8_readOffice [.ref a0, .ref p1] M Qr Qx := by
  refine kz_enter (n := 1) kmX8_readOffice.1 (Nat.le_of_ble_eq_true rfl) (ls := [(0, .ref a0), (1, .ref p1)]) rfl ?_
  refine kz_aload_n (pc := 0) 0 (v := .ref a0) (i := 0) rfl rfl rfl dX8_readOffice_0 ?_
  refine kz_aload_n (pc := 1) 1 (v := .ref p1) (i := 1) rfl rfl rfl dX8_readOffice_1 ?_
  obtain ⟨⟨fs33, he⟩, h⟩ := h
  refine kz_callV (pc := 2) (μ' := mX8_next) (ci := 7) (q := (RX8, TX8, 9)) (b := a0) (d' := d + 4) (mc' := 0) (ms' := 0) (As := [.ref p1]) (st := []) (c := 0) (sl := 0) kmX8_next kw_330 (by omega) rfl (Nat.le_of_ble_eq_true rfl) he rfl rfl (Nat.le_refl _) (Nat.le_refl _) dX8_readOffice_2 (fun E M9 hx => kz_Tout rfl (Nat.le_refl _) (Nat.le_refl _) hx) (kz_Cmono (fun v M1 h => ?_) (fun _ _ h => h) h)
  obtain ⟨rfl, h⟩ := h
  show kz_Z G (d + 5) 0 0 mX8_readOffice Qr Qx 5 [(0, .ref a0), (1, .ref p1)] [] M1 0 0
  refine kz_aload_n (pc := 5) 0 (v := .ref a0) (i := 0) rfl rfl rfl dX8_readOffice_5 ?_
  obtain ⟨fs4, v5, hM, hv, h⟩ := h
  refine kz_getf (pc := 6) (k := 2) kcX8 hM hv (by decide) kw_179 dX8_readOffice_6 ?_
  refine kz_iconst (pc := 9) (v := 1) (by decide) dX8_readOffice_9 ?_
  refine kz_icmp_ne (pc := 10) (tgt := 26) (by decide) dX8_readOffice_10 (fun hb => ?_) (fun hb => ?_)
  · replace h := h.1 hb
    refine kz_aload_n (pc := 26) 0 (v := .ref a0) (i := 0) rfl rfl rfl dX8_readOffice_26 ?_
    refine kz_iconst (pc := 27) (v := 1) (by decide) dX8_readOffice_27 ?_
    obtain ⟨⟨fs9, he⟩, h⟩ := h
    refine kz_callV (pc := 28) (μ' := mX8_fail) (ci := 7) (q := (RX8, TX8, 9)) (b := a0) (d' := d + 4) (mc' := 0) (ms' := 0) (As := [.int 1]) (st := []) (c := 0) (sl := 0) kmX8_fail kw_358 (by omega) rfl (Nat.le_of_ble_eq_true rfl) he rfl rfl (Nat.le_refl _) (Nat.le_refl _) dX8_readOffice_28 (fun E M9 hx => kz_Tout rfl (Nat.le_refl _) (Nat.le_refl _) hx) (kz_Cmono (fun v M6 h => ?_) (fun _ _ h => h) h)
    obtain ⟨r7, rfl, h⟩ := h
    show kz_Z G (d + 5) 0 0 mX8_readOffice Qr Qx 31 [(0, .ref a0), (1, .ref p1)] [.int r7] M6 0 0
    exact kz_zret (pc := 31) (ty := .boolean) rfl h.1 (Nat.le_refl _) (Nat.le_refl _) dX8_readOffice_31 h.2
  · replace h := h.2 hb
    refine kz_aload_n (pc := 13) 0 (v := .ref a0) (i := 0) rfl rfl rfl dX8_readOffice_13 ?_
    obtain ⟨fs10, v11, hM, hv, h⟩ := h
    refine kz_getf (pc := 14) (k := 5) kcX8 hM hv (by decide) kw_182 dX8_readOffice_14 ?_
    refine kz_ldcS (pc := 17) (j := 1035) (tx := "office") (List.mem_of_getElem? (i := 35) rfl) dX8_readOffice_17 ?_
    refine kz_callSN (pc := 19) (μ' := mX11_coded) (d' := d + 4) (mc' := 0) (ms' := 0) (As := [.retAddr 1035]) (st := [.long v11]) (c := 0) (sl := 0) kmX11_coded kw_357 (by omega) rfl (Nat.le_of_ble_eq_true rfl) (Nat.le_refl _) (Nat.le_refl _) dX8_readOffice_19 (fun E M9 hx => kz_Tout rfl (Nat.le_refl _) (Nat.le_refl _) hx) (kz_Cmono (fun v M12 h => ?_) (fun _ _ h => h) h)
    obtain ⟨r13, rfl, h⟩ := h
    show kz_Z G (d + 5) 0 0 mX8_readOffice Qr Qx 22 [(0, .ref a0), (1, .ref p1)] [.long r13, .long v11] M12 0 0
    refine kz_lcmp_eq (pc := 22) (tgt := 32) (by decide) dX8_readOffice_22 dX8_readOffice_23 (fun hb => ?_) (fun hb => ?_)
    · replace h := h.1 hb
      refine kz_aload_n (pc := 32) 0 (v := .ref a0) (i := 0) rfl rfl rfl dX8_readOffice_32 ?_
      refine kz_aload_n (pc := 33) 1 (v := .ref p1) (i := 1) rfl rfl rfl dX8_readOffice_33 ?_
      refine kz_iconst (pc := 34) (v := 0) (by decide) dX8_readOffice_34 ?_
      refine kz_ldcI (pc := 35) kw_362 rfl dX8_readOffice_35 ?_
      obtain ⟨⟨fs27, he⟩, h⟩ := h
      refine kz_callV (pc := 37) (μ' := mX8_readNumber) (ci := 7) (q := (RX8, TX8, 9)) (b := a0) (d' := d + 4) (mc' := 0) (ms' := 0) (As := [.ref p1, .int 0, .int 99999]) (st := []) (c := 0) (sl := 0) kmX8_readNumber kw_363 (by omega) rfl (Nat.le_of_ble_eq_true rfl) he rfl rfl (Nat.le_refl _) (Nat.le_refl _) dX8_readOffice_37 (fun E M9 hx => kz_Tout rfl (Nat.le_refl _) (Nat.le_refl _) hx) (kz_Cmono (fun v M15 h => ?_) (fun _ _ h => h) h)
      obtain ⟨r16, rfl, h⟩ := h
      show kz_Z G (d + 5) 0 0 mX8_readOffice Qr Qx 40 [(0, .ref a0), (1, .ref p1)] [.int r16] M15 0 0
      refine kz_if_ne (pc := 40) (tgt := 45) (by decide) dX8_readOffice_40 (fun hb => ?_) (fun hb => ?_)
      · replace h := h.1 hb
        refine kz_aload_n (pc := 45) 0 (v := .ref a0) (i := 0) rfl rfl rfl dX8_readOffice_45 ?_
        obtain ⟨fs18, v19, hM, hv, h⟩ := h
        refine kz_getf (pc := 46) (k := 0) kcX8 hM hv (by decide) kw_176 dX8_readOffice_46 ?_
        refine kz_aload_n (pc := 49) 0 (v := .ref a0) (i := 0) rfl rfl rfl dX8_readOffice_49 ?_
        obtain ⟨fs20, v21, hM, hv, h⟩ := h
        refine kz_getf (pc := 50) (k := 6) kcX8 hM hv (by decide) kw_183 dX8_readOffice_50 ?_
        obtain ⟨fs22, hM, hlen, h⟩ := h
        refine kz_putf (pc := 53) (k := 1) kcX9 hM (by decide) hlen kw_110 rfl rfl rfl dX8_readOffice_53 ?_
        refine kz_aload_n (pc := 56) 0 (v := .ref a0) (i := 0) rfl rfl rfl dX8_readOffice_56 ?_
        refine kz_aload_n (pc := 57) 1 (v := .ref p1) (i := 1) rfl rfl rfl dX8_readOffice_57 ?_
        obtain ⟨⟨fs26, he⟩, h⟩ := h
        refine kz_callV (pc := 58) (μ' := mX8_readSemicolon) (ci := 7) (q := (RX8, TX8, 9)) (b := a0) (d' := d + 4) (mc' := 0) (ms' := 0) (As := [.ref p1]) (st := []) (c := 0) (sl := 0) kmX8_readSemicolon kw_367 (by omega) rfl (Nat.le_of_ble_eq_true rfl) he rfl rfl (Nat.le_refl _) (Nat.le_refl _) dX8_readOffice_58 (fun E M9 hx => kz_Tout rfl (Nat.le_refl _) (Nat.le_refl _) hx) (kz_Cmono (fun v M23 h => ?_) (fun _ _ h => h) h)
        obtain ⟨r24, rfl, h⟩ := h
        show kz_Z G (d + 5) 0 0 mX8_readOffice Qr Qx 61 [(0, .ref a0), (1, .ref p1)] [.int r24] M23 0 0
        exact kz_zret (pc := 61) (ty := .boolean) rfl h.1 (Nat.le_refl _) (Nat.le_refl _) dX8_readOffice_61 h.2
      · replace h := h.2 hb
        refine kz_iconst (pc := 43) (v := 0) (by decide) dX8_readOffice_43 ?_
        exact kz_zret (pc := 44) (ty := .boolean) rfl (by decide) (Nat.le_refl _) (Nat.le_refl _) dX8_readOffice_44 h
    · replace h := h.2 hb
      refine kz_aload_n (pc := 26) 0 (v := .ref a0) (i := 0) rfl rfl rfl dX8_readOffice_26 ?_
      refine kz_iconst (pc := 27) (v := 1) (by decide) dX8_readOffice_27 ?_
      obtain ⟨⟨fs31, he⟩, h⟩ := h
      refine kz_callV (pc := 28) (μ' := mX8_fail) (ci := 7) (q := (RX8, TX8, 9)) (b := a0) (d' := d + 4) (mc' := 0) (ms' := 0) (As := [.int 1]) (st := []) (c := 0) (sl := 0) kmX8_fail kw_358 (by omega) rfl (Nat.le_of_ble_eq_true rfl) he rfl rfl (Nat.le_refl _) (Nat.le_refl _) dX8_readOffice_28 (fun E M9 hx => kz_Tout rfl (Nat.le_refl _) (Nat.le_refl _) hx) (kz_Cmono (fun v M28 h => ?_) (fun _ _ h => h) h)
      obtain ⟨r29, rfl, h⟩ := h
      show kz_Z G (d + 5) 0 0 mX8_readOffice Qr Qx 31 [(0, .ref a0), (1, .ref p1)] [.int r29] M28 0 0
      exact kz_zret (pc := 31) (ty := .boolean) rfl h.1 (Nat.le_refl _) (Nat.le_refl _) dX8_readOffice_31 h.2
theorem dX8_readWriter_0 : decode cX8_readWriter 0 = .ok (.aload_n 0, 1) := by decide +kernel
theorem dX8_readWriter_1 : decode cX8_readWriter 1 = .ok (.getfield 12, 3) := by decide +kernel
theorem dX8_readWriter_4 : decode cX8_readWriter 4 = .ok (.getfield 46, 3) := by decide +kernel
theorem dX8_readWriter_7 : decode cX8_readWriter 7 = .ok (.bipush 6, 2) := by decide +kernel
theorem dX8_readWriter_9 : decode cX8_readWriter 9 = .ok (.if_icmp .lt 9, 3) := by decide +kernel
theorem dX8_readWriter_12 : decode cX8_readWriter 12 = .ok (.aload_n 0, 1) := by decide +kernel
theorem dX8_readWriter_13 : decode cX8_readWriter 13 = .ok (.iconst 4, 1) := by decide +kernel
theorem dX8_readWriter_14 : decode cX8_readWriter 14 = .ok (.invokevirtual 49, 3) := by decide +kernel
theorem dX8_readWriter_17 : decode cX8_readWriter 17 = .ok (.ireturn, 1) := by decide +kernel
theorem dX8_readWriter_18 : decode cX8_readWriter 18 = .ok (.aload_n 0, 1) := by decide +kernel
theorem dX8_readWriter_19 : decode cX8_readWriter 19 = .ok (.aload_n 1, 1) := by decide +kernel
theorem dX8_readWriter_20 : decode cX8_readWriter 20 = .ok (.invokevirtual 39, 3) := by decide +kernel
theorem dX8_readWriter_23 : decode cX8_readWriter 23 = .ok (.aload_n 0, 1) := by decide +kernel
theorem dX8_readWriter_24 : decode cX8_readWriter 24 = .ok (.getfield 43, 3) := by decide +kernel
theorem dX8_readWriter_27 : decode cX8_readWriter 27 = .ok (.iconst 1, 1) := by decide +kernel
theorem dX8_readWriter_28 : decode cX8_readWriter 28 = .ok (.if_icmp .ne 13, 3) := by decide +kernel
theorem dX8_readWriter_31 : decode cX8_readWriter 31 = .ok (.aload_n 0, 1) := by decide +kernel
theorem dX8_readWriter_32 : decode cX8_readWriter 32 = .ok (.getfield 53, 3) := by decide +kernel
theorem dX8_readWriter_35 : decode cX8_readWriter 35 = .ok (.invokestatic 98, 3) := by decide +kernel
theorem dX8_readWriter_38 : decode cX8_readWriter 38 = .ok (.ifCond .ne 9, 3) := by decide +kernel
theorem dX8_readWriter_41 : decode cX8_readWriter 41 = .ok (.aload_n 0, 1) := by decide +kernel
theorem dX8_readWriter_42 : decode cX8_readWriter 42 = .ok (.iconst 1, 1) := by decide +kernel
theorem dX8_readWriter_43 : decode cX8_readWriter 43 = .ok (.invokevirtual 49, 3) := by decide +kernel
theorem dX8_readWriter_46 : decode cX8_readWriter 46 = .ok (.ireturn, 1) := by decide +kernel
theorem dX8_readWriter_47 : decode cX8_readWriter 47 = .ok (.aload_n 0, 1) := by decide +kernel
theorem dX8_readWriter_48 : decode cX8_readWriter 48 = .ok (.getfield 12, 3) := by decide +kernel
theorem dX8_readWriter_51 : decode cX8_readWriter 51 = .ok (.aload_n 0, 1) := by decide +kernel
theorem dX8_readWriter_52 : decode cX8_readWriter 52 = .ok (.getfield 53, 3) := by decide +kernel
theorem dX8_readWriter_55 : decode cX8_readWriter 55 = .ok (.invokevirtual 102, 3) := by decide +kernel
theorem dX8_readWriter_58 : decode cX8_readWriter 58 = .ok (.ifCond .eq 9, 3) := by decide +kernel
theorem dX8_readWriter_61 : decode cX8_readWriter 61 = .ok (.aload_n 0, 1) := by decide +kernel
theorem dX8_readWriter_62 : decode cX8_readWriter 62 = .ok (.iconst 3, 1) := by decide +kernel
theorem dX8_readWriter_63 : decode cX8_readWriter 63 = .ok (.invokevirtual 49, 3) := by decide +kernel
theorem dX8_readWriter_66 : decode cX8_readWriter 66 = .ok (.ireturn, 1) := by decide +kernel
theorem dX8_readWriter_67 : decode cX8_readWriter 67 = .ok (.aload_n 0, 1) := by decide +kernel
theorem dX8_readWriter_68 : decode cX8_readWriter 68 = .ok (.getfield 12, 3) := by decide +kernel
theorem dX8_readWriter_71 : decode cX8_readWriter 71 = .ok (.aload_n 0, 1) := by decide +kernel
theorem dX8_readWriter_72 : decode cX8_readWriter 72 = .ok (.getfield 53, 3) := by decide +kernel
theorem dX8_readWriter_75 : decode cX8_readWriter 75 = .ok (.invokevirtual 105, 3) := by decide +kernel
theorem dX8_readWriter_78 : decode cX8_readWriter 78 = .ok (.aload_n 0, 1) := by decide +kernel
theorem dX8_readWriter_79 : decode cX8_readWriter 79 = .ok (.aload_n 1, 1) := by decide +kernel
theorem dX8_readWriter_80 : decode cX8_readWriter 80 = .ok (.invokevirtual 95, 3) := by decide +kernel
theorem dX8_readWriter_83 : decode cX8_readWriter 83 = .ok (.ireturn, 1) := by decide +kernel
theorem rX8_readWriter_0 {G : kz_G} {d : Nat} {Qr : Option Value → kz_M → Prop} {Qx : String → kz_M → Prop} {a0 : Nat} {p1 : Nat}  {M : kz_M} (h : ∃ fs1 v2, (M).1 a0 = some (.inl (7, fs1)) ∧ fs1[0]? = some (.ref v2) ∧ (∃ fs3 v4, (M).1 v2 = some (.inl (8, fs3)) ∧ fs3[2]? = some (.int v4) ∧ ((v4 < (6 : Int32) → (∃ fs48, (M).1 a0 = some (.inl (7, fs48))) ∧ kz_C G (d + 6) 0 0 mX8_next [.ref a0, .ref p1] M (fun v M5 => v = none ∧ (∃ fs8 v9, (M5).1 a0 = some (.inl (7, fs8)) ∧ fs8[2]? = some (.int v9) ∧ ((¬ v9 = (1 : Int32) → (∃ fs13, (M5).1 a0 = some (.inl (7, fs13))) ∧ kz_C G (d + 6) 0 0 mX8_fail [.ref a0, .int 1] M5 (fun v M10 => ∃ r11 : Int32, v = some (.int r11) ∧ (narrow .boolean (.int r11) = .int r11 ∧ Qr (some (.int r11)) M10)) Qx) ∧ (v9 = (1 : Int32) → ∃ fs14 v15, (M5).1 a0 = some (.inl (7, fs14)) ∧ fs14[5]? = some (.long v15) ∧ (kz_C G (d + 6) 0 0 mX11_isName [.long v15] M5 (fun v M16 => ∃ r17 : Int32, v = some (.int r17) ∧ ((¬ r17 = 0 → ∃ fs19 v20, (M16).1 a0 = some (.inl (7, fs19)) ∧ fs19[0]? = some (.ref v20) ∧ (∃ fs21 v22, (M16).1 a0 = some (.inl (7, fs21)) ∧ fs21[5]? = some (.long v22) ∧ ((∃ fs42, (M16).1 v20 = some (.inl (8, fs42))) ∧ kz_C G (d + 6) 0 0 mX9_hasWriter [.ref v20, .long v22] M16 (fun v M23 => ∃ r24 : Int32, v = some (.int r24) ∧ ((r24 = 0 → ∃ fs26 v27, (M23).1 a0 = some (.inl (7, fs26)) ∧ fs26[0]? = some (.ref v27) ∧ (∃ fs28 v29, (M23).1 a0 = some (.inl (7, fs28)) ∧ fs28[5]? = some (.long v29) ∧ ((∃ fs37, (M23).1 v27 = some (.inl (8, fs37))) ∧ kz_C G (d + 6) 0 0 mX9_enrol [.ref v27, .long v29] M23 (fun v M30 => v = none ∧ ((∃ fs36, (M30).1 a0 = some (.inl (7, fs36))) ∧ kz_C G (d + 6) 0 0 mX8_readSemicolon [.ref a0, .ref p1] M30 (fun v M33 => ∃ r34 : Int32, v = some (.int r34) ∧ (narrow .boolean (.int r34) = .int r34 ∧ Qr (some (.int r34)) M33)) Qx)) Qx))) ∧ (¬ r24 = 0 → (∃ fs41, (M23).1 a0 = some (.inl (7, fs41))) ∧ kz_C G (d + 6) 0 0 mX8_fail [.ref a0, .int 3] M23 (fun v M38 => ∃ r39 : Int32, v = some (.int r39) ∧ (narrow .boolean (.int r39) = .int r39 ∧ Qr (some (.int r39)) M38)) Qx))) Qx))) ∧ (r17 = 0 → (∃ fs46, (M16).1 a0 = some (.inl (7, fs46))) ∧ kz_C G (d + 6) 0 0 mX8_fail [.ref a0, .int 1] M16 (fun v M43 => ∃ r44 : Int32, v = some (.int r44) ∧ (narrow .boolean (.int r44) = .int r44 ∧ Qr (some (.int r44)) M43)) Qx))) Qx))))) Qx) ∧ (¬ v4 < (6 : Int32) → (∃ fs52, (M).1 a0 = some (.inl (7, fs52))) ∧ kz_C G (d + 6) 0 0 mX8_fail [.ref a0, .int 4] M (fun v M49 => ∃ r50 : Int32, v = some (.int r50) ∧ (narrow .boolean (.int r50) = .int r50 ∧ Qr (some (.int r50)) M49)) Qx)))) : kz_C G (d + 7) 0 0 mX8_readWriter [.ref a0, .ref p1] M Qr Qx := by
  refine kz_enter (n := 1) kmX8_readWriter.1 (Nat.le_of_ble_eq_true rfl) (ls := [(0, .ref a0), (1, .ref p1)]) rfl ?_
  refine kz_aload_n (pc := 0) 0 (v := .ref a0) (i := 0) rfl rfl rfl dX8_readWriter_0 ?_
  obtain ⟨fs1, v2, hM, hv, h⟩ := h
  refine kz_getf (pc := 1) (k := 0) kcX8 hM hv (by decide) kw_176 dX8_readWriter_1 ?_
  obtain ⟨fs3, v4, hM, hv, h⟩ := h
  refine kz_getf (pc := 4) (k := 2) kcX9 hM hv (by decide) kw_113 dX8_readWriter_4 ?_
  refine kz_bipush (pc := 7) (v := 6) (by decide) dX8_readWriter_7 ?_
  refine kz_icmp_lt (pc := 9) (tgt := 18) (by decide) dX8_readWriter_9 (fun hb => ?_) (fun hb => ?_)
  · replace h := h.1 hb
    refine kz_aload_n (pc := 18) 0 (v := .ref a0) (i := 0) rfl rfl rfl dX8_readWriter_18 ?_
    refine kz_aload_n (pc := 19) 1 (v := .ref p1) (i := 1) rfl rfl rfl dX8_readWriter_19 ?_
    obtain ⟨⟨fs48, he⟩, h⟩ := h
    refine kz_callV (pc := 20) (μ' := mX8_next) (ci := 7) (q := (RX8, TX8, 9)) (b := a0) (d' := d + 6) (mc' := 0) (ms' := 0) (As := [.ref p1]) (st := []) (c := 0) (sl := 0) kmX8_next kw_330 (by omega) rfl (Nat.le_of_ble_eq_true rfl) he rfl rfl (Nat.le_refl _) (Nat.le_refl _) dX8_readWriter_20 (fun E M9 hx => kz_Tout rfl (Nat.le_refl _) (Nat.le_refl _) hx) (kz_Cmono (fun v M5 h => ?_) (fun _ _ h => h) h)
    obtain ⟨rfl, h⟩ := h
    show kz_Z G (d + 7) 0 0 mX8_readWriter Qr Qx 23 [(0, .ref a0), (1, .ref p1)] [] M5 0 0
    refine kz_aload_n (pc := 23) 0 (v := .ref a0) (i := 0) rfl rfl rfl dX8_readWriter_23 ?_
    obtain ⟨fs8, v9, hM, hv, h⟩ := h
    refine kz_getf (pc := 24) (k := 2) kcX8 hM hv (by decide) kw_179 dX8_readWriter_24 ?_
    refine kz_iconst (pc := 27) (v := 1) (by decide) dX8_readWriter_27 ?_
    refine kz_icmp_ne (pc := 28) (tgt := 41) (by decide) dX8_readWriter_28 (fun hb => ?_) (fun hb => ?_)
    · replace h := h.1 hb
      refine kz_aload_n (pc := 41) 0 (v := .ref a0) (i := 0) rfl rfl rfl dX8_readWriter_41 ?_
      refine kz_iconst (pc := 42) (v := 1) (by decide) dX8_readWriter_42 ?_
      obtain ⟨⟨fs13, he⟩, h⟩ := h
      refine kz_callV (pc := 43) (μ' := mX8_fail) (ci := 7) (q := (RX8, TX8, 9)) (b := a0) (d' := d + 6) (mc' := 0) (ms' := 0) (As := [.int 1]) (st := []) (c := 0) (sl := 0) kmX8_fail kw_358 (by omega) rfl (Nat.le_of_ble_eq_true rfl) he rfl rfl (Nat.le_refl _) (Nat.le_refl _) dX8_readWriter_43 (fun E M9 hx => kz_Tout rfl (Nat.le_refl _) (Nat.le_refl _) hx) (kz_Cmono (fun v M10 h => ?_) (fun _ _ h => h) h)
      obtain ⟨r11, rfl, h⟩ := h
      show kz_Z G (d + 7) 0 0 mX8_readWriter Qr Qx 46 [(0, .ref a0), (1, .ref p1)] [.int r11] M10 0 0
      exact kz_zret (pc := 46) (ty := .boolean) rfl h.1 (Nat.le_refl _) (Nat.le_refl _) dX8_readWriter_46 h.2
    · replace h := h.2 hb
      refine kz_aload_n (pc := 31) 0 (v := .ref a0) (i := 0) rfl rfl rfl dX8_readWriter_31 ?_
      obtain ⟨fs14, v15, hM, hv, h⟩ := h
      refine kz_getf (pc := 32) (k := 5) kcX8 hM hv (by decide) kw_182 dX8_readWriter_32 ?_
      refine kz_callSN (pc := 35) (μ' := mX11_isName) (d' := d + 6) (mc' := 0) (ms' := 0) (As := [.long v15]) (st := []) (c := 0) (sl := 0) kmX11_isName kw_376 (by omega) rfl (Nat.le_of_ble_eq_true rfl) (Nat.le_refl _) (Nat.le_refl _) dX8_readWriter_35 (fun E M9 hx => kz_Tout rfl (Nat.le_refl _) (Nat.le_refl _) hx) (kz_Cmono (fun v M16 h => ?_) (fun _ _ h => h) h)
      obtain ⟨r17, rfl, h⟩ := h
      show kz_Z G (d + 7) 0 0 mX8_readWriter Qr Qx 38 [(0, .ref a0), (1, .ref p1)] [.int r17] M16 0 0
      refine kz_if_ne (pc := 38) (tgt := 47) (by decide) dX8_readWriter_38 (fun hb => ?_) (fun hb => ?_)
      · replace h := h.1 hb
        refine kz_aload_n (pc := 47) 0 (v := .ref a0) (i := 0) rfl rfl rfl dX8_readWriter_47 ?_
        obtain ⟨fs19, v20, hM, hv, h⟩ := h
        refine kz_getf (pc := 48) (k := 0) kcX8 hM hv (by decide) kw_176 dX8_readWriter_48 ?_
        refine kz_aload_n (pc := 51) 0 (v := .ref a0) (i := 0) rfl rfl rfl dX8_readWriter_51 ?_
        obtain ⟨fs21, v22, hM, hv, h⟩ := h
        refine kz_getf (pc := 52) (k := 5) kcX8 hM hv (by decide) kw_182 dX8_readWriter_52 ?_
        obtain ⟨⟨fs42, he⟩, h⟩ := h
        refine kz_callV (pc := 55) (μ' := mX9_hasWriter) (ci := 8) (q := (RX9, TX9, 10)) (b := v20) (d' := d + 6) (mc' := 0) (ms' := 0) (As := [.long v22]) (st := []) (c := 0) (sl := 0) kmX9_hasWriter kw_388 (by omega) rfl (Nat.le_of_ble_eq_true rfl) he rfl rfl (Nat.le_refl _) (Nat.le_refl _) dX8_readWriter_55 (fun E M9 hx => kz_Tout rfl (Nat.le_refl _) (Nat.le_refl _) hx) (kz_Cmono (fun v M23 h => ?_) (fun _ _ h => h) h)
        obtain ⟨r24, rfl, h⟩ := h
        show kz_Z G (d + 7) 0 0 mX8_readWriter Qr Qx 58 [(0, .ref a0), (1, .ref p1)] [.int r24] M23 0 0
        refine kz_if_eq (pc := 58) (tgt := 67) (by decide) dX8_readWriter_58 (fun hb => ?_) (fun hb => ?_)
        · replace h := h.1 hb
          refine kz_aload_n (pc := 67) 0 (v := .ref a0) (i := 0) rfl rfl rfl dX8_readWriter_67 ?_
          obtain ⟨fs26, v27, hM, hv, h⟩ := h
          refine kz_getf (pc := 68) (k := 0) kcX8 hM hv (by decide) kw_176 dX8_readWriter_68 ?_
          refine kz_aload_n (pc := 71) 0 (v := .ref a0) (i := 0) rfl rfl rfl dX8_readWriter_71 ?_
          obtain ⟨fs28, v29, hM, hv, h⟩ := h
          refine kz_getf (pc := 72) (k := 5) kcX8 hM hv (by decide) kw_182 dX8_readWriter_72 ?_
          obtain ⟨⟨fs37, he⟩, h⟩ := h
          refine kz_callV (pc := 75) (μ' := mX9_enrol) (ci := 8) (q := (RX9, TX9, 10)) (b := v27) (d' := d + 6) (mc' := 0) (ms' := 0) (As := [.long v29]) (st := []) (c := 0) (sl := 0) kmX9_enrol kw_396 (by omega) rfl (Nat.le_of_ble_eq_true rfl) he rfl rfl (Nat.le_refl _) (Nat.le_refl _) dX8_readWriter_75 (fun E M9 hx => kz_Tout rfl (Nat.le_refl _) (Nat.le_refl _) hx) (kz_Cmono (fun v M30 h => ?_) (fun _ _ h => h) h)
          obtain ⟨rfl, h⟩ := h
          show kz_Z G (d + 7) 0 0 mX8_readWriter Qr Qx 78 [(0, .ref a0), (1, .ref p1)] [] M30 0 0
          refine kz_aload_n (pc := 78) 0 (v := .ref a0) (i := 0) rfl rfl rfl dX8_readWriter_78 ?_
          refine kz_aload_n (pc := 79) 1 (v := .ref p1) (i := 1) rfl rfl rfl dX8_readWriter_79 ?_
          obtain ⟨⟨fs36, he⟩, h⟩ := h
          refine kz_callV (pc := 80) (μ' := mX8_readSemicolon) (ci := 7) (q := (RX8, TX8, 9)) (b := a0) (d' := d + 6) (mc' := 0) (ms' := 0) (As := [.ref p1]) (st := []) (c := 0) (sl := 0) kmX8_readSemicolon kw_367 (by omega) rfl (Nat.le_of_ble_eq_true rfl) he rfl rfl (Nat.le_refl _) (Nat.le_refl _) dX8_readWriter_80 (fun E M9 hx => kz_Tout rfl (Nat.le_refl _) (Nat.le_refl _) hx) (kz_Cmono (fun v M33 h => ?_) (fun _ _ h => h) h)
          obtain ⟨r34, rfl, h⟩ := h
          show kz_Z G (d + 7) 0 0 mX8_readWriter Qr Qx 83 [(0, .ref a0), (1, .ref p1)] [.int r34] M33 0 0
          exact kz_zret (pc := 83) (ty := .boolean) rfl h.1 (Nat.le_refl _) (Nat.le_refl _) dX8_readWriter_83 h.2
        · replace h := h.2 hb
          refine kz_aload_n (pc := 61) 0 (v := .ref a0) (i := 0) rfl rfl rfl dX8_readWriter_61 ?_
          refine kz_iconst (pc := 62) (v := 3) (by decide) dX8_readWriter_62 ?_
          obtain ⟨⟨fs41, he⟩, h⟩ := h
          refine kz_callV (pc := 63) (μ' := mX8_fail) (ci := 7) (q := (RX8, TX8, 9)) (b := a0) (d' := d + 6) (mc' := 0) (ms' := 0) (As := [.int 3]) (st := []) (c := 0) (sl := 0) kmX8_fail kw_358 (by omega) rfl (Nat.le_of_ble_eq_true rfl) he rfl rfl (Nat.le_refl _) (Nat.le_refl _) dX8_readWriter_63 (fun E M9 hx => kz_Tout rfl (Nat.le_refl _) (Nat.le_refl _) hx) (kz_Cmono (fun v M38 h => ?_) (fun _ _ h => h) h)
          obtain ⟨r39, rfl, h⟩ := h
          show kz_Z G (d + 7) 0 0 mX8_readWriter Qr Qx 66 [(0, .ref a0), (1, .ref p1)] [.int r39] M38 0 0
          exact kz_zret (pc := 66) (ty := .boolean) rfl h.1 (Nat.le_refl _) (Nat.le_refl _) dX8_readWriter_66 h.2
      · replace h := h.2 hb
        refine kz_aload_n (pc := 41) 0 (v := .ref a0) (i := 0) rfl rfl rfl dX8_readWriter_41 ?_
        refine kz_iconst (pc := 42) (v := 1) (by decide) dX8_readWriter_42 ?_
        obtain ⟨⟨fs46, he⟩, h⟩ := h
        refine kz_callV (pc := 43) (μ' := mX8_fail) (ci := 7) (q := (RX8, TX8, 9)) (b := a0) (d' := d + 6) (mc' := 0) (ms' := 0) (As := [.int 1]) (st := []) (c := 0) (sl := 0) kmX8_fail kw_358 (by omega) rfl (Nat.le_of_ble_eq_true rfl) he rfl rfl (Nat.le_refl _) (Nat.le_refl _) dX8_readWriter_43 (fun E M9 hx => kz_Tout rfl (Nat.le_refl _) (Nat.le_refl _) hx) (kz_Cmono (fun v M43 h => ?_) (fun _ _ h => h) h)
        obtain ⟨r44, rfl, h⟩ := h
        show kz_Z G (d + 7) 0 0 mX8_readWriter Qr Qx 46 [(0, .ref a0), (1, .ref p1)] [.int r44] M43 0 0
        exact kz_zret (pc := 46) (ty := .boolean) rfl h.1 (Nat.le_refl _) (Nat.le_refl _) dX8_readWriter_46 h.2
  · replace h := h.2 hb
    refine kz_aload_n (pc := 12) 0 (v := .ref a0) (i := 0) rfl rfl rfl dX8_readWriter_12 ?_
    refine kz_iconst (pc := 13) (v := 4) (by decide) dX8_readWriter_13 ?_
    obtain ⟨⟨fs52, he⟩, h⟩ := h
    refine kz_callV (pc := 14) (μ' := mX8_fail) (ci := 7) (q := (RX8, TX8, 9)) (b := a0) (d' := d + 6) (mc' := 0) (ms' := 0) (As := [.int 4]) (st := []) (c := 0) (sl := 0) kmX8_fail kw_358 (by omega) rfl (Nat.le_of_ble_eq_true rfl) he rfl rfl (Nat.le_refl _) (Nat.le_refl _) dX8_readWriter_14 (fun E M9 hx => kz_Tout rfl (Nat.le_refl _) (Nat.le_refl _) hx) (kz_Cmono (fun v M49 h => ?_) (fun _ _ h => h) h)
    obtain ⟨r50, rfl, h⟩ := h
    show kz_Z G (d + 7) 0 0 mX8_readWriter Qr Qx 17 [(0, .ref a0), (1, .ref p1)] [.int r50] M49 0 0
    exact kz_zret (pc := 17) (ty := .boolean) rfl h.1 (Nat.le_refl _) (Nat.le_refl _) dX8_readWriter_17 h.2
theorem dX8_readSetting_0 : decode cX8_readSetting 0 = .ok (.aload_n 0, 1) := by decide +kernel
theorem dX8_readSetting_1 : decode cX8_readSetting 1 = .ok (.getfield 43, 3) := by decide +kernel
theorem dX8_readSetting_4 : decode cX8_readSetting 4 = .ok (.iconst 1, 1) := by decide +kernel
theorem dX8_readSetting_5 : decode cX8_readSetting 5 = .ok (.if_icmp .ne 13, 3) := by decide +kernel
theorem dX8_readSetting_8 : decode cX8_readSetting 8 = .ok (.aload_n 0, 1) := by decide +kernel
theorem dX8_readSetting_9 : decode cX8_readSetting 9 = .ok (.getfield 53, 3) := by decide +kernel
theorem dX8_readSetting_12 : decode cX8_readSetting 12 = .ok (.invokestatic 109, 3) := by decide +kernel
theorem dX8_readSetting_15 : decode cX8_readSetting 15 = .ok (.goto 4, 3) := by decide +kernel
theorem dX8_readSetting_18 : decode cX8_readSetting 18 = .ok (.iconst (-1), 1) := by decide +kernel
theorem dX8_readSetting_19 : decode cX8_readSetting 19 = .ok (.istore_n 2, 1) := by decide +kernel
theorem dX8_readSetting_20 : decode cX8_readSetting 20 = .ok (.iload_n 2, 1) := by decide +kernel
theorem dX8_readSetting_21 : decode cX8_readSetting 21 = .ok (.ifCond .lt 20, 3) := by decide +kernel
theorem dX8_readSetting_24 : decode cX8_readSetting 24 = .ok (.iload_n 2, 1) := by decide +kernel
theorem dX8_readSetting_25 : decode cX8_readSetting 25 = .ok (.aload_n 0, 1) := by decide +kernel
theorem dX8_readSetting_26 : decode cX8_readSetting 26 = .ok (.getfield 22, 3) := by decide +kernel
theorem dX8_readSetting_29 : decode cX8_readSetting 29 = .ok (.arraylength, 1) := by decide +kernel
theorem dX8_readSetting_30 : decode cX8_readSetting 30 = .ok (.if_icmp .ge 11, 3) := by decide +kernel
theorem dX8_readSetting_33 : decode cX8_readSetting 33 = .ok (.iload_n 2, 1) := by decide +kernel
theorem dX8_readSetting_34 : decode cX8_readSetting 34 = .ok (.getstatic 18, 3) := by decide +kernel
theorem dX8_readSetting_37 : decode cX8_readSetting 37 = .ok (.arraylength, 1) := by decide +kernel
theorem dX8_readSetting_38 : decode cX8_readSetting 38 = .ok (.if_icmp .lt 9, 3) := by decide +kernel
theorem dX8_readSetting_41 : decode cX8_readSetting 41 = .ok (.aload_n 0, 1) := by decide +kernel
theorem dX8_readSetting_42 : decode cX8_readSetting 42 = .ok (.iconst 1, 1) := by decide +kernel
theorem dX8_readSetting_43 : decode cX8_readSetting 43 = .ok (.invokevirtual 49, 3) := by decide +kernel
theorem dX8_readSetting_46 : decode cX8_readSetting 46 = .ok (.ireturn, 1) := by decide +kernel
theorem dX8_readSetting_47 : decode cX8_readSetting 47 = .ok (.aload_n 0, 1) := by decide +kernel
theorem dX8_readSetting_48 : decode cX8_readSetting 48 = .ok (.getfield 22, 3) := by decide +kernel
theorem dX8_readSetting_51 : decode cX8_readSetting 51 = .ok (.iload_n 2, 1) := by decide +kernel
theorem dX8_readSetting_52 : decode cX8_readSetting 52 = .ok (.baload, 1) := by decide +kernel
theorem dX8_readSetting_53 : decode cX8_readSetting 53 = .ok (.ifCond .eq 9, 3) := by decide +kernel
theorem dX8_readSetting_56 : decode cX8_readSetting 56 = .ok (.aload_n 0, 1) := by decide +kernel
theorem dX8_readSetting_57 : decode cX8_readSetting 57 = .ok (.iconst 3, 1) := by decide +kernel
theorem dX8_readSetting_58 : decode cX8_readSetting 58 = .ok (.invokevirtual 49, 3) := by decide +kernel
theorem dX8_readSetting_61 : decode cX8_readSetting 61 = .ok (.ireturn, 1) := by decide +kernel
theorem dX8_readSetting_62 : decode cX8_readSetting 62 = .ok (.aload_n 0, 1) := by decide +kernel
theorem dX8_readSetting_63 : decode cX8_readSetting 63 = .ok (.getfield 22, 3) := by decide +kernel
theorem dX8_readSetting_66 : decode cX8_readSetting 66 = .ok (.iload_n 2, 1) := by decide +kernel
theorem dX8_readSetting_67 : decode cX8_readSetting 67 = .ok (.iconst 1, 1) := by decide +kernel
theorem dX8_readSetting_68 : decode cX8_readSetting 68 = .ok (.bastore, 1) := by decide +kernel
theorem dX8_readSetting_69 : decode cX8_readSetting 69 = .ok (.aload_n 0, 1) := by decide +kernel
theorem dX8_readSetting_70 : decode cX8_readSetting 70 = .ok (.aload_n 1, 1) := by decide +kernel
theorem dX8_readSetting_71 : decode cX8_readSetting 71 = .ok (.getstatic 18, 3) := by decide +kernel
theorem dX8_readSetting_74 : decode cX8_readSetting 74 = .ok (.iload_n 2, 1) := by decide +kernel
theorem dX8_readSetting_75 : decode cX8_readSetting 75 = .ok (.aaload, 1) := by decide +kernel
theorem dX8_readSetting_76 : decode cX8_readSetting 76 = .ok (.getfield 113, 3) := by decide +kernel
theorem dX8_readSetting_79 : decode cX8_readSetting 79 = .ok (.getstatic 18, 3) := by decide +kernel
theorem dX8_readSetting_82 : decode cX8_readSetting 82 = .ok (.iload_n 2, 1) := by decide +kernel
theorem dX8_readSetting_83 : decode cX8_readSetting 83 = .ok (.aaload, 1) := by decide +kernel
theorem dX8_readSetting_84 : decode cX8_readSetting 84 = .ok (.getfield 118, 3) := by decide +kernel
theorem dX8_readSetting_87 : decode cX8_readSetting 87 = .ok (.invokevirtual 85, 3) := by decide +kernel
theorem dX8_readSetting_90 : decode cX8_readSetting 90 = .ok (.ifCond .ne 5, 3) := by decide +kernel
theorem dX8_readSetting_93 : decode cX8_readSetting 93 = .ok (.iconst 0, 1) := by decide +kernel
theorem dX8_readSetting_94 : decode cX8_readSetting 94 = .ok (.ireturn, 1) := by decide +kernel
theorem dX8_readSetting_95 : decode cX8_readSetting 95 = .ok (.aload_n 0, 1) := by decide +kernel
theorem dX8_readSetting_96 : decode cX8_readSetting 96 = .ok (.getfield 12, 3) := by decide +kernel
theorem dX8_readSetting_99 : decode cX8_readSetting 99 = .ok (.getfield 121, 3) := by decide +kernel
theorem dX8_readSetting_102 : decode cX8_readSetting 102 = .ok (.iload_n 2, 1) := by decide +kernel
theorem dX8_readSetting_103 : decode cX8_readSetting 103 = .ok (.aload_n 0, 1) := by decide +kernel
theorem dX8_readSetting_104 : decode cX8_readSetting 104 = .ok (.getfield 89, 3) := by decide +kernel
theorem dX8_readSetting_107 : decode cX8_readSetting 107 = .ok (.invokestatic 125, 3) := by decide +kernel
theorem dX8_readSetting_110 : decode cX8_readSetting 110 = .ok (.aload_n 0, 1) := by decide +kernel
theorem dX8_readSetting_111 : decode cX8_readSetting 111 = .ok (.aload_n 1, 1) := by decide +kernel
theorem dX8_readSetting_112 : decode cX8_readSetting 112 = .ok (.invokevirtual 95, 3) := by decide +kernel
theorem dX8_readSetting_115 : decode cX8_readSetting 115 = .ok (.ireturn, 1) := by decide +kernel
def zX8_readSetting_20 (G : kz_G) (d : Nat) (Qr : Option Value → kz_M → Prop) (Qx : String → kz_M → Prop) (x0 : Nat) (x1 : Nat) (x2 : Int32)  (M : kz_M) : Prop := kz_Z G (d + 6) 0 0 mX8_readSetting Qr Qx 20 [(0, .ref x0), (1, .ref x1), (2, .int x2)] [] M 0 0
def zX8_readSetting_47 (G : kz_G) (d : Nat) (Qr : Option Value → kz_M → Prop) (Qx : String → kz_M → Prop) (x0 : Nat) (x1 : Nat) (x2 : Int32)  (M : kz_M) : Prop := kz_Z G (d + 6) 0 0 mX8_readSetting Qr Qx 47 [(0, .ref x0), (1, .ref x1), (2, .int x2)] [] M 0 0
theorem rX8_readSetting_0 {G : kz_G} {d : Nat} {Qr : Option Value → kz_M → Prop} {Qx : String → kz_M → Prop} {a0 : Nat} {p1 : Nat}  {M : kz_M} (h : ∃ fs1 v2, (M).1 a0 = some (.inl (7, fs1)) ∧ fs1[2]? = some (.int v2) ∧ ((¬ v2 = (1 : Int32) → zX8_readSetting_20 G d Qr Qx a0 p1 ((-1)) M) ∧ (v2 = (1 : Int32) → ∃ fs3 v4, (M).1 a0 = some (.inl (7, fs3)) ∧ fs3[5]? = some (.long v4) ∧ (kz_C G (d + 5) 0 0 mX11_settingNamed [.long v4] M (fun v M5 => ∃ r6 : Int32, v = some (.int r6) ∧ (zX8_readSetting_20 G d Qr Qx a0 p1 r6 M5)) Qx)))) : kz_C G (d + 6) 0 0 mX8_readSetting [.ref a0, .ref p1] M Qr Qx := by
  refine kz_enter (n := 1) kmX8_readSetting.1 (Nat.le_of_ble_eq_true rfl) (ls := [(0, .ref a0), (1, .ref p1)]) rfl ?_
  refine kz_aload_n (pc := 0) 0 (v := .ref a0) (i := 0) rfl rfl rfl dX8_readSetting_0 ?_
  obtain ⟨fs1, v2, hM, hv, h⟩ := h
  refine kz_getf (pc := 1) (k := 2) kcX8 hM hv (by decide) kw_179 dX8_readSetting_1 ?_
  refine kz_iconst (pc := 4) (v := 1) (by decide) dX8_readSetting_4 ?_
  refine kz_icmp_ne (pc := 5) (tgt := 18) (by decide) dX8_readSetting_5 (fun hb => ?_) (fun hb => ?_)
  · replace h := h.1 hb
    refine kz_iconst (pc := 18) (v := (-1)) (by decide) dX8_readSetting_18 ?_
    refine kz_istore_n (pc := 19) (i := 2) (ls' := [(0, .ref a0), (1, .ref p1)]) rfl (by decide) rfl dX8_readSetting_19 ?_
    refine kz_sub [1, 2, 0] rfl ?_
    exact h
  · replace h := h.2 hb
    refine kz_aload_n (pc := 8) 0 (v := .ref a0) (i := 0) rfl rfl rfl dX8_readSetting_8 ?_
    obtain ⟨fs3, v4, hM, hv, h⟩ := h
    refine kz_getf (pc := 9) (k := 5) kcX8 hM hv (by decide) kw_182 dX8_readSetting_9 ?_
    refine kz_callSN (pc := 12) (μ' := mX11_settingNamed) (d' := d + 5) (mc' := 0) (ms' := 0) (As := [.long v4]) (st := []) (c := 0) (sl := 0) kmX11_settingNamed kw_401 (by omega) rfl (Nat.le_of_ble_eq_true rfl) (Nat.le_refl _) (Nat.le_refl _) dX8_readSetting_12 (fun E M9 hx => kz_Tout rfl (Nat.le_refl _) (Nat.le_refl _) hx) (kz_Cmono (fun v M5 h => ?_) (fun _ _ h => h) h)
    obtain ⟨r6, rfl, h⟩ := h
    show kz_Z G (d + 6) 0 0 mX8_readSetting Qr Qx 15 [(0, .ref a0), (1, .ref p1)] [.int r6] M5 0 0
    refine kz_goto (pc := 15) (tgt := 19) (by decide) dX8_readSetting_15 ?_
    refine kz_istore_n (pc := 19) (i := 2) (ls' := [(0, .ref a0), (1, .ref p1)]) rfl (by decide) rfl dX8_readSetting_19 ?_
    refine kz_sub [1, 2, 0] rfl ?_
    exact h
theorem rX8_readSetting_20 {G : kz_G} {d : Nat} {Qr : Option Value → kz_M → Prop} {Qx : String → kz_M → Prop} {x0 : Nat} {x1 : Nat} {x2 : Int32}  {M : kz_M} (hG : kz_stat G) (h : (x2 < 0 → (∃ fs4, (M).1 x0 = some (.inl (7, fs4))) ∧ kz_C G (d + 5) 0 0 mX8_fail [.ref x0, .int 1] M (fun v M1 => ∃ r2 : Int32, v = some (.int r2) ∧ (narrow .boolean (.int r2) = .int r2 ∧ Qr (some (.int r2)) M1)) Qx) ∧ (¬ x2 < 0 → ∃ fs5 v6, (M).1 x0 = some (.inl (7, fs5)) ∧ fs5[1]? = some (.ref v6) ∧ (∃ ty7 A8, (M).1 v6 = some (.inr (ty7, A8)) ∧ (((Int32.ofNat A8.1) ≤ x2 → (∃ fs12, (M).1 x0 = some (.inl (7, fs12))) ∧ kz_C G (d + 5) 0 0 mX8_fail [.ref x0, .int 1] M (fun v M9 => ∃ r10 : Int32, v = some (.int r10) ∧ (narrow .boolean (.int r10) = .int r10 ∧ Qr (some (.int r10)) M9)) Qx) ∧ (¬ (Int32.ofNat A8.1) ≤ x2 → (x2 < (10 : Int32) → zX8_readSetting_47 G d Qr Qx x0 x1 x2 M) ∧ (¬ x2 < (10 : Int32) → (∃ fs16, (M).1 x0 = some (.inl (7, fs16))) ∧ kz_C G (d + 5) 0 0 mX8_fail [.ref x0, .int 1] M (fun v M13 => ∃ r14 : Int32, v = some (.int r14) ∧ (narrow .boolean (.int r14) = .int r14 ∧ Qr (some (.int r14)) M13)) Qx)))))) : zX8_readSetting_20 G d Qr Qx x0 x1 x2  M := by
  show kz_Z G (d + 6) 0 0 mX8_readSetting Qr Qx 20 [(0, .ref x0), (1, .ref x1), (2, .int x2)] [] M 0 0
  refine kz_iload_n (pc := 20) 2 (i := 2) rfl rfl dX8_readSetting_20 ?_
  refine kz_if_lt (pc := 21) (tgt := 41) (by decide) dX8_readSetting_21 (fun hb => ?_) (fun hb => ?_)
  · replace h := h.1 hb
    refine kz_aload_n (pc := 41) 0 (v := .ref x0) (i := 0) rfl rfl rfl dX8_readSetting_41 ?_
    refine kz_iconst (pc := 42) (v := 1) (by decide) dX8_readSetting_42 ?_
    obtain ⟨⟨fs4, he⟩, h⟩ := h
    refine kz_callV (pc := 43) (μ' := mX8_fail) (ci := 7) (q := (RX8, TX8, 9)) (b := x0) (d' := d + 5) (mc' := 0) (ms' := 0) (As := [.int 1]) (st := []) (c := 0) (sl := 0) kmX8_fail kw_358 (by omega) rfl (Nat.le_of_ble_eq_true rfl) he rfl rfl (Nat.le_refl _) (Nat.le_refl _) dX8_readSetting_43 (fun E M9 hx => kz_Tout rfl (Nat.le_refl _) (Nat.le_refl _) hx) (kz_Cmono (fun v M1 h => ?_) (fun _ _ h => h) h)
    obtain ⟨r2, rfl, h⟩ := h
    show kz_Z G (d + 6) 0 0 mX8_readSetting Qr Qx 46 [(0, .ref x0), (1, .ref x1), (2, .int x2)] [.int r2] M1 0 0
    exact kz_zret (pc := 46) (ty := .boolean) rfl h.1 (Nat.le_refl _) (Nat.le_refl _) dX8_readSetting_46 h.2
  · replace h := h.2 hb
    refine kz_iload_n (pc := 24) 2 (i := 2) rfl rfl dX8_readSetting_24 ?_
    refine kz_aload_n (pc := 25) 0 (v := .ref x0) (i := 0) rfl rfl rfl dX8_readSetting_25 ?_
    obtain ⟨fs5, v6, hM, hv, h⟩ := h
    refine kz_getf (pc := 26) (k := 1) kcX8 hM hv (by decide) kw_178 dX8_readSetting_26 ?_
    obtain ⟨ty7, A8, hM, h⟩ := h
    refine kz_alen (pc := 29) hM rfl dX8_readSetting_29 ?_
    refine kz_icmp_ge (pc := 30) (tgt := 41) (by decide) dX8_readSetting_30 (fun hb => ?_) (fun hb => ?_)
    · replace h := h.1 hb
      refine kz_aload_n (pc := 41) 0 (v := .ref x0) (i := 0) rfl rfl rfl dX8_readSetting_41 ?_
      refine kz_iconst (pc := 42) (v := 1) (by decide) dX8_readSetting_42 ?_
      obtain ⟨⟨fs12, he⟩, h⟩ := h
      refine kz_callV (pc := 43) (μ' := mX8_fail) (ci := 7) (q := (RX8, TX8, 9)) (b := x0) (d' := d + 5) (mc' := 0) (ms' := 0) (As := [.int 1]) (st := []) (c := 0) (sl := 0) kmX8_fail kw_358 (by omega) rfl (Nat.le_of_ble_eq_true rfl) he rfl rfl (Nat.le_refl _) (Nat.le_refl _) dX8_readSetting_43 (fun E M9 hx => kz_Tout rfl (Nat.le_refl _) (Nat.le_refl _) hx) (kz_Cmono (fun v M9 h => ?_) (fun _ _ h => h) h)
      obtain ⟨r10, rfl, h⟩ := h
      show kz_Z G (d + 6) 0 0 mX8_readSetting Qr Qx 46 [(0, .ref x0), (1, .ref x1), (2, .int x2)] [.int r10] M9 0 0
      exact kz_zret (pc := 46) (ty := .boolean) rfl h.1 (Nat.le_refl _) (Nat.le_refl _) dX8_readSetting_46 h.2
    · replace h := h.2 hb
      refine kz_iload_n (pc := 33) 2 (i := 2) rfl rfl dX8_readSetting_33 ?_
      refine kz_getsN (pc := 34) (v := .retAddr 0) hG.2.2.2.1 kw_175 dX8_readSetting_34 ?_
      refine kz_salen (pc := 37) (v := 10) hG.2.2.2.2.1 (by decide) dX8_readSetting_37 ?_
      refine kz_icmp_lt (pc := 38) (tgt := 47) (by decide) dX8_readSetting_38 (fun hb => ?_) (fun hb => ?_)
      · replace h := h.1 hb
        exact h
      · replace h := h.2 hb
        refine kz_aload_n (pc := 41) 0 (v := .ref x0) (i := 0) rfl rfl rfl dX8_readSetting_41 ?_
        refine kz_iconst (pc := 42) (v := 1) (by decide) dX8_readSetting_42 ?_
        obtain ⟨⟨fs16, he⟩, h⟩ := h
        refine kz_callV (pc := 43) (μ' := mX8_fail) (ci := 7) (q := (RX8, TX8, 9)) (b := x0) (d' := d + 5) (mc' := 0) (ms' := 0) (As := [.int 1]) (st := []) (c := 0) (sl := 0) kmX8_fail kw_358 (by omega) rfl (Nat.le_of_ble_eq_true rfl) he rfl rfl (Nat.le_refl _) (Nat.le_refl _) dX8_readSetting_43 (fun E M9 hx => kz_Tout rfl (Nat.le_refl _) (Nat.le_refl _) hx) (kz_Cmono (fun v M13 h => ?_) (fun _ _ h => h) h)
        obtain ⟨r14, rfl, h⟩ := h
        show kz_Z G (d + 6) 0 0 mX8_readSetting Qr Qx 46 [(0, .ref x0), (1, .ref x1), (2, .int x2)] [.int r14] M13 0 0
        exact kz_zret (pc := 46) (ty := .boolean) rfl h.1 (Nat.le_refl _) (Nat.le_refl _) dX8_readSetting_46 h.2
theorem rX8_readSetting_47 {G : kz_G} {d : Nat} {Qr : Option Value → kz_M → Prop} {Qx : String → kz_M → Prop} {x0 : Nat} {x1 : Nat} {x2 : Int32}  {M : kz_M} (hG : kz_stat G) (h : ∃ fs1 v2, (M).1 x0 = some (.inl (7, fs1)) ∧ fs1[1]? = some (.ref v2) ∧ (∃ n3 f4, (M).1 v2 = some (.inr (.boolean, n3, .inl f4)) ∧ vp_in x2 n3 ∧ (((f4 x2.toNatClampNeg) = 0 → ∃ fs5 v6, (M).1 x0 = some (.inl (7, fs5)) ∧ fs5[1]? = some (.ref v6) ∧ (∃ n7 f8, (M).1 v6 = some (.inr (.boolean, n7, .inl f8)) ∧ vp_in x2 n7 ∧ (vp_in x2 10 ∧ (x2.toNatClampNeg < 10 ∧ (vp_in x2 10 ∧ (x2.toNatClampNeg < 10 ∧ ((∃ fs26, ((kz_up M v6 (.inr (.boolean, n7, .inl (upd f8 (x2 : Int32).toNatClampNeg (vp_nar .boolean 1)))))).1 x0 = some (.inl (7, fs26))) ∧ kz_C G (d + 5) 0 0 mX8_readNumber [.ref x0, .ref x1, .int (kz_lo x2.toNatClampNeg), .int (kz_hi x2.toNatClampNeg)] (kz_up M v6 (.inr (.boolean, n7, .inl (upd f8 (x2 : Int32).toNatClampNeg (vp_nar .boolean 1))))) (fun v M9 => ∃ r10 : Int32, v = some (.int r10) ∧ ((¬ r10 = 0 → ∃ fs12 v13, (M9).1 x0 = some (.inl (7, fs12)) ∧ fs12[0]? = some (.ref v13) ∧ (∃ fs14 v15, (M9).1 v13 = some (.inl (8, fs14)) ∧ fs14[4]? = some (.ref v15) ∧ (∃ fs16 v17, (M9).1 x0 = some (.inl (7, fs16)) ∧ fs16[6]? = some (.int v17) ∧ (kz_C G (d + 5) 0 0 mX11_put [.ref v15, .int x2, .int v17] M9 (fun v M18 => v = none ∧ ((∃ fs24, (M18).1 x0 = some (.inl (7, fs24))) ∧ kz_C G (d + 5) 0 0 mX8_readSemicolon [.ref x0, .ref x1] M18 (fun v M21 => ∃ r22 : Int32, v = some (.int r22) ∧ (narrow .boolean (.int r22) = .int r22 ∧ Qr (some (.int r22)) M21)) Qx)) Qx)))) ∧ (r10 = 0 → Qr (some (.int 0)) M9))) Qx))))))) ∧ (¬ (f4 x2.toNatClampNeg) = 0 → (∃ fs30, (M).1 x0 = some (.inl (7, fs30))) ∧ kz_C G (d + 5) 0 0 mX8_fail [.ref x0, .int 3] M (fun v M27 => ∃ r28 : Int32, v = some (.int r28) ∧ (narrow .boolean (.int r28) = .int r28 ∧ Qr (some (.int r28)) M27)) Qx)))) : zX8_readSetting_47 G d Qr Qx x0 x1 x2  M := by
  show kz_Z G (d + 6) 0 0 mX8_readSetting Qr Qx 47 [(0, .ref x0), (1, .ref x1), (2, .int x2)] [] M 0 0
  refine kz_aload_n (pc := 47) 0 (v := .ref x0) (i := 0) rfl rfl rfl dX8_readSetting_47 ?_
  obtain ⟨fs1, v2, hM, hv, h⟩ := h
  refine kz_getf (pc := 48) (k := 1) kcX8 hM hv (by decide) kw_178 dX8_readSetting_48 ?_
  refine kz_iload_n (pc := 51) 2 (i := 2) rfl rfl dX8_readSetting_51 ?_
  obtain ⟨n3, f4, hM, hi, h⟩ := h
  refine kz_zald (pc := 52) hM hi dX8_readSetting_52 ?_
  refine kz_if_eq (pc := 53) (tgt := 62) (by decide) dX8_readSetting_53 (fun hb => ?_) (fun hb => ?_)
  · replace h := h.1 hb
    refine kz_aload_n (pc := 62) 0 (v := .ref x0) (i := 0) rfl rfl rfl dX8_readSetting_62 ?_
    obtain ⟨fs5, v6, hM, hv, h⟩ := h
    refine kz_getf (pc := 63) (k := 1) kcX8 hM hv (by decide) kw_178 dX8_readSetting_63 ?_
    refine kz_iload_n (pc := 66) 2 (i := 2) rfl rfl dX8_readSetting_66 ?_
    refine kz_iconst (pc := 67) (v := 1) (by decide) dX8_readSetting_67 ?_
    obtain ⟨n7, f8, hM, hi, h⟩ := h
    refine kz_zast (pc := 68) hM hi dX8_readSetting_68 ?_
    refine kz_aload_n (pc := 69) 0 (v := .ref x0) (i := 0) rfl rfl rfl dX8_readSetting_69 ?_
    refine kz_aload_n (pc := 70) 1 (v := .ref x1) (i := 1) rfl rfl rfl dX8_readSetting_70 ?_
    refine kz_getsN (pc := 71) (v := .retAddr 0) hG.2.2.2.1 kw_175 dX8_readSetting_71 ?_
    refine kz_iload_n (pc := 74) 2 (i := 2) rfl rfl dX8_readSetting_74 ?_
    obtain ⟨hi, h⟩ := h
    refine kz_saald (pc := 75) (v := .retAddr (x2.toNatClampNeg + 1)) hG.2.2.2.2.1 hi rfl dX8_readSetting_75 ?_
    obtain ⟨hk, h⟩ := h
    refine kz_sgetf (pc := 76) (v := .int (kz_lo x2.toNatClampNeg)) (hG.2.2.2.2.2.1 x2.toNatClampNeg hk).1 kw_1590 dX8_readSetting_76 ?_
    refine kz_getsN (pc := 79) (v := .retAddr 0) hG.2.2.2.1 kw_175 dX8_readSetting_79 ?_
    refine kz_iload_n (pc := 82) 2 (i := 2) rfl rfl dX8_readSetting_82 ?_
    obtain ⟨hi, h⟩ := h
    refine kz_saald (pc := 83) (v := .retAddr (x2.toNatClampNeg + 1)) hG.2.2.2.2.1 hi rfl dX8_readSetting_83 ?_
    obtain ⟨hk, h⟩ := h
    refine kz_sgetf (pc := 84) (v := .int (kz_hi x2.toNatClampNeg)) (hG.2.2.2.2.2.1 x2.toNatClampNeg hk).2.1 kw_1591 dX8_readSetting_84 ?_
    obtain ⟨⟨fs26, he⟩, h⟩ := h
    refine kz_callV (pc := 87) (μ' := mX8_readNumber) (ci := 7) (q := (RX8, TX8, 9)) (b := x0) (d' := d + 5) (mc' := 0) (ms' := 0) (As := [.ref x1, .int (kz_lo x2.toNatClampNeg), .int (kz_hi x2.toNatClampNeg)]) (st := []) (c := 0) (sl := 0) kmX8_readNumber kw_363 (by omega) rfl (Nat.le_of_ble_eq_true rfl) he rfl rfl (Nat.le_refl _) (Nat.le_refl _) dX8_readSetting_87 (fun E M9 hx => kz_Tout rfl (Nat.le_refl _) (Nat.le_refl _) hx) (kz_Cmono (fun v M9 h => ?_) (fun _ _ h => h) h)
    obtain ⟨r10, rfl, h⟩ := h
    show kz_Z G (d + 6) 0 0 mX8_readSetting Qr Qx 90 [(0, .ref x0), (1, .ref x1), (2, .int x2)] [.int r10] M9 0 0
    refine kz_if_ne (pc := 90) (tgt := 95) (by decide) dX8_readSetting_90 (fun hb => ?_) (fun hb => ?_)
    · replace h := h.1 hb
      refine kz_aload_n (pc := 95) 0 (v := .ref x0) (i := 0) rfl rfl rfl dX8_readSetting_95 ?_
      obtain ⟨fs12, v13, hM, hv, h⟩ := h
      refine kz_getf (pc := 96) (k := 0) kcX8 hM hv (by decide) kw_176 dX8_readSetting_96 ?_
      obtain ⟨fs14, v15, hM, hv, h⟩ := h
      refine kz_getf (pc := 99) (k := 4) kcX9 hM hv (by decide) kw_118 dX8_readSetting_99 ?_
      refine kz_iload_n (pc := 102) 2 (i := 2) rfl rfl dX8_readSetting_102 ?_
      refine kz_aload_n (pc := 103) 0 (v := .ref x0) (i := 0) rfl rfl rfl dX8_readSetting_103 ?_
      obtain ⟨fs16, v17, hM, hv, h⟩ := h
      refine kz_getf (pc := 104) (k := 6) kcX8 hM hv (by decide) kw_183 dX8_readSetting_104 ?_
      refine kz_callSN (pc := 107) (μ' := mX11_put) (d' := d + 5) (mc' := 0) (ms' := 0) (As := [.ref v15, .int x2, .int v17]) (st := []) (c := 0) (sl := 0) kmX11_put kw_402 (by omega) rfl (Nat.le_of_ble_eq_true rfl) (Nat.le_refl _) (Nat.le_refl _) dX8_readSetting_107 (fun E M9 hx => kz_Tout rfl (Nat.le_refl _) (Nat.le_refl _) hx) (kz_Cmono (fun v M18 h => ?_) (fun _ _ h => h) h)
      obtain ⟨rfl, h⟩ := h
      show kz_Z G (d + 6) 0 0 mX8_readSetting Qr Qx 110 [(0, .ref x0), (1, .ref x1), (2, .int x2)] [] M18 0 0
      refine kz_aload_n (pc := 110) 0 (v := .ref x0) (i := 0) rfl rfl rfl dX8_readSetting_110 ?_
      refine kz_aload_n (pc := 111) 1 (v := .ref x1) (i := 1) rfl rfl rfl dX8_readSetting_111 ?_
      obtain ⟨⟨fs24, he⟩, h⟩ := h
      refine kz_callV (pc := 112) (μ' := mX8_readSemicolon) (ci := 7) (q := (RX8, TX8, 9)) (b := x0) (d' := d + 5) (mc' := 0) (ms' := 0) (As := [.ref x1]) (st := []) (c := 0) (sl := 0) kmX8_readSemicolon kw_367 (by omega) rfl (Nat.le_of_ble_eq_true rfl) he rfl rfl (Nat.le_refl _) (Nat.le_refl _) dX8_readSetting_112 (fun E M9 hx => kz_Tout rfl (Nat.le_refl _) (Nat.le_refl _) hx) (kz_Cmono (fun v M21 h => ?_) (fun _ _ h => h) h)
      obtain ⟨r22, rfl, h⟩ := h
      show kz_Z G (d + 6) 0 0 mX8_readSetting Qr Qx 115 [(0, .ref x0), (1, .ref x1), (2, .int x2)] [.int r22] M21 0 0
      exact kz_zret (pc := 115) (ty := .boolean) rfl h.1 (Nat.le_refl _) (Nat.le_refl _) dX8_readSetting_115 h.2
    · replace h := h.2 hb
      refine kz_iconst (pc := 93) (v := 0) (by decide) dX8_readSetting_93 ?_
      exact kz_zret (pc := 94) (ty := .boolean) rfl (by decide) (Nat.le_refl _) (Nat.le_refl _) dX8_readSetting_94 h
  · replace h := h.2 hb
    refine kz_aload_n (pc := 56) 0 (v := .ref x0) (i := 0) rfl rfl rfl dX8_readSetting_56 ?_
    refine kz_iconst (pc := 57) (v := 3) (by decide) dX8_readSetting_57 ?_
    obtain ⟨⟨fs30, he⟩, h⟩ := h
    refine kz_callV (pc := 58) (μ' := mX8_fail) (ci := 7) (q := (RX8, TX8, 9)) (b := x0) (d' := d + 5) (mc' := 0) (ms' := 0) (As := [.int 3]) (st := []) (c := 0) (sl := 0) kmX8_fail kw_358 (by omega) rfl (Nat.le_of_ble_eq_true rfl) he rfl rfl (Nat.le_refl _) (Nat.le_refl _) dX8_readSetting_58 (fun E M9 hx => kz_Tout rfl (Nat.le_refl _) (Nat.le_refl _) hx) (kz_Cmono (fun v M27 h => ?_) (fun _ _ h => h) h)
    obtain ⟨r28, rfl, h⟩ := h
    show kz_Z G (d + 6) 0 0 mX8_readSetting Qr Qx 61 [(0, .ref x0), (1, .ref x1), (2, .int x2)] [.int r28] M27 0 0
    exact kz_zret (pc := 61) (ty := .boolean) rfl h.1 (Nat.le_refl _) (Nat.le_refl _) dX8_readSetting_61 h.2
theorem dX8_readNumber_0 : decode cX8_readNumber 0 = .ok (.aload_n 0, 1) := by decide +kernel
theorem dX8_readNumber_1 : decode cX8_readNumber 1 = .ok (.aload_n 1, 1) := by decide +kernel
theorem dX8_readNumber_2 : decode cX8_readNumber 2 = .ok (.invokevirtual 39, 3) := by decide +kernel
theorem dX8_readNumber_5 : decode cX8_readNumber 5 = .ok (.aload_n 0, 1) := by decide +kernel
theorem dX8_readNumber_6 : decode cX8_readNumber 6 = .ok (.getfield 43, 3) := by decide +kernel
theorem dX8_readNumber_9 : decode cX8_readNumber 9 = .ok (.iconst 2, 1) := by decide +kernel
theorem dX8_readNumber_10 : decode cX8_readNumber 10 = .ok (.if_icmp .eq 9, 3) := by decide +kernel
theorem dX8_readNumber_13 : decode cX8_readNumber 13 = .ok (.aload_n 0, 1) := by decide +kernel
theorem dX8_readNumber_14 : decode cX8_readNumber 14 = .ok (.iconst 1, 1) := by decide +kernel
theorem dX8_readNumber_15 : decode cX8_readNumber 15 = .ok (.invokevirtual 49, 3) := by decide +kernel
theorem dX8_readNumber_18 : decode cX8_readNumber 18 = .ok (.ireturn, 1) := by decide +kernel
theorem dX8_readNumber_19 : decode cX8_readNumber 19 = .ok (.aload_n 0, 1) := by decide +kernel
theorem dX8_readNumber_20 : decode cX8_readNumber 20 = .ok (.getfield 89, 3) := by decide +kernel
theorem dX8_readNumber_23 : decode cX8_readNumber 23 = .ok (.iload_n 2, 1) := by decide +kernel
theorem dX8_readNumber_24 : decode cX8_readNumber 24 = .ok (.if_icmp .lt 11, 3) := by decide +kernel
theorem dX8_readNumber_27 : decode cX8_readNumber 27 = .ok (.aload_n 0, 1) := by decide +kernel
theorem dX8_readNumber_28 : decode cX8_readNumber 28 = .ok (.getfield 89, 3) := by decide +kernel
theorem dX8_readNumber_31 : decode cX8_readNumber 31 = .ok (.iload_n 3, 1) := by decide +kernel
theorem dX8_readNumber_32 : decode cX8_readNumber 32 = .ok (.if_icmp .le 11, 3) := by decide +kernel
theorem dX8_readNumber_35 : decode cX8_readNumber 35 = .ok (.aload_n 0, 1) := by decide +kernel
theorem dX8_readNumber_36 : decode cX8_readNumber 36 = .ok (.iconst 2, 1) := by decide +kernel
theorem dX8_readNumber_37 : decode cX8_readNumber 37 = .ok (.invokevirtual 49, 3) := by decide +kernel
theorem dX8_readNumber_40 : decode cX8_readNumber 40 = .ok (.ifCond .eq 7, 3) := by decide +kernel
theorem dX8_readNumber_43 : decode cX8_readNumber 43 = .ok (.iconst 1, 1) := by decide +kernel
theorem dX8_readNumber_44 : decode cX8_readNumber 44 = .ok (.goto 4, 3) := by decide +kernel
theorem dX8_readNumber_47 : decode cX8_readNumber 47 = .ok (.iconst 0, 1) := by decide +kernel
theorem dX8_readNumber_48 : decode cX8_readNumber 48 = .ok (.ireturn, 1) := by decide +kernel
theorem rX8_readNumber_0 {G : kz_G} {d : Nat} {Qr : Option Value → kz_M → Prop} {Qx : String → kz_M → Prop} {a0 : Nat} {p1 : Nat} {p2 : Int32} {p3 : Int32}  {M : kz_M} (h : (∃ fs22, (M).1 a0 = some (.inl (7, fs22))) ∧ kz_C G (d + 2) 0 0 mX8_next [.ref a0, .ref p1] M (fun v M1 => v = none ∧ (∃ fs4 v5, (M1).1 a0 = some (.inl (7, fs4)) ∧ fs4[2]? = some (.int v5) ∧ ((v5 = (2 : Int32) → ∃ fs6 v7, (M1).1 a0 = some (.inl (7, fs6)) ∧ fs6[6]? = some (.int v7) ∧ ((v7 < p2 → (∃ fs11, (M1).1 a0 = some (.inl (7, fs11))) ∧ kz_C G (d + 2) 0 0 mX8_fail [.ref a0, .int 2] M1 (fun v M8 => ∃ r9 : Int32, v = some (.int r9) ∧ ((r9 = 0 → Qr (some (.int 0)) M8) ∧ (¬ r9 = 0 → Qr (some (.int 1)) M8))) Qx) ∧ (¬ v7 < p2 → ∃ fs12 v13, (M1).1 a0 = some (.inl (7, fs12)) ∧ fs12[6]? = some (.int v13) ∧ ((v13 ≤ p3 → Qr (some (.int 1)) M1) ∧ (¬ v13 ≤ p3 → (∃ fs17, (M1).1 a0 = some (.inl (7, fs17))) ∧ kz_C G (d + 2) 0 0 mX8_fail [.ref a0, .int 2] M1 (fun v M14 => ∃ r15 : Int32, v = some (.int r15) ∧ ((r15 = 0 → Qr (some (.int 0)) M14) ∧ (¬ r15 = 0 → Qr (some (.int 1)) M14))) Qx))))) ∧ (¬ v5 = (2 : Int32) → (∃ fs21, (M1).1 a0 = some (.inl (7, fs21))) ∧ kz_C G (d + 2) 0 0 mX8_fail [.ref a0, .int 1] M1 (fun v M18 => ∃ r19 : Int32, v = some (.int r19) ∧ (narrow .boolean (.int r19) = .int r19 ∧ Qr (some (.int r19)) M18)) Qx)))) Qx) : kz_C G (d + 3) 0 0 mX8_readNumber [.ref a0, .ref p1, .int p2, .int p3] M Qr Qx := by
  refine kz_enter (n := 3) kmX8_readNumber.1 (Nat.le_of_ble_eq_true rfl) (ls := [(0, .ref a0), (1, .ref p1), (2, .int p2), (3, .int p3)]) rfl ?_
  refine kz_aload_n (pc := 0) 0 (v := .ref a0) (i := 0) rfl rfl rfl dX8_readNumber_0 ?_
  refine kz_aload_n (pc := 1) 1 (v := .ref p1) (i := 1) rfl rfl rfl dX8_readNumber_1 ?_
  obtain ⟨⟨fs22, he⟩, h⟩ := h
  refine kz_callV (pc := 2) (μ' := mX8_next) (ci := 7) (q := (RX8, TX8, 9)) (b := a0) (d' := d + 2) (mc' := 0) (ms' := 0) (As := [.ref p1]) (st := []) (c := 0) (sl := 0) kmX8_next kw_330 (by omega) rfl (Nat.le_of_ble_eq_true rfl) he rfl rfl (Nat.le_refl _) (Nat.le_refl _) dX8_readNumber_2 (fun E M9 hx => kz_Tout rfl (Nat.le_refl _) (Nat.le_refl _) hx) (kz_Cmono (fun v M1 h => ?_) (fun _ _ h => h) h)
  obtain ⟨rfl, h⟩ := h
  show kz_Z G (d + 3) 0 0 mX8_readNumber Qr Qx 5 [(0, .ref a0), (1, .ref p1), (2, .int p2), (3, .int p3)] [] M1 0 0
  refine kz_aload_n (pc := 5) 0 (v := .ref a0) (i := 0) rfl rfl rfl dX8_readNumber_5 ?_
  obtain ⟨fs4, v5, hM, hv, h⟩ := h
  refine kz_getf (pc := 6) (k := 2) kcX8 hM hv (by decide) kw_179 dX8_readNumber_6 ?_
  refine kz_iconst (pc := 9) (v := 2) (by decide) dX8_readNumber_9 ?_
  refine kz_icmp_eq (pc := 10) (tgt := 19) (by decide) dX8_readNumber_10 (fun hb => ?_) (fun hb => ?_)
  · replace h := h.1 hb
    refine kz_aload_n (pc := 19) 0 (v := .ref a0) (i := 0) rfl rfl rfl dX8_readNumber_19 ?_
    obtain ⟨fs6, v7, hM, hv, h⟩ := h
    refine kz_getf (pc := 20) (k := 6) kcX8 hM hv (by decide) kw_183 dX8_readNumber_20 ?_
    refine kz_iload_n (pc := 23) 2 (i := 2) rfl rfl dX8_readNumber_23 ?_
    refine kz_icmp_lt (pc := 24) (tgt := 35) (by decide) dX8_readNumber_24 (fun hb => ?_) (fun hb => ?_)
    · replace h := h.1 hb
      refine kz_aload_n (pc := 35) 0 (v := .ref a0) (i := 0) rfl rfl rfl dX8_readNumber_35 ?_
      refine kz_iconst (pc := 36) (v := 2) (by decide) dX8_readNumber_36 ?_
      obtain ⟨⟨fs11, he⟩, h⟩ := h
      refine kz_callV (pc := 37) (μ' := mX8_fail) (ci := 7) (q := (RX8, TX8, 9)) (b := a0) (d' := d + 2) (mc' := 0) (ms' := 0) (As := [.int 2]) (st := []) (c := 0) (sl := 0) kmX8_fail kw_358 (by omega) rfl (Nat.le_of_ble_eq_true rfl) he rfl rfl (Nat.le_refl _) (Nat.le_refl _) dX8_readNumber_37 (fun E M9 hx => kz_Tout rfl (Nat.le_refl _) (Nat.le_refl _) hx) (kz_Cmono (fun v M8 h => ?_) (fun _ _ h => h) h)
      obtain ⟨r9, rfl, h⟩ := h
      show kz_Z G (d + 3) 0 0 mX8_readNumber Qr Qx 40 [(0, .ref a0), (1, .ref p1), (2, .int p2), (3, .int p3)] [.int r9] M8 0 0
      refine kz_if_eq (pc := 40) (tgt := 47) (by decide) dX8_readNumber_40 (fun hb => ?_) (fun hb => ?_)
      · replace h := h.1 hb
        refine kz_iconst (pc := 47) (v := 0) (by decide) dX8_readNumber_47 ?_
        exact kz_zret (pc := 48) (ty := .boolean) rfl (by decide) (Nat.le_refl _) (Nat.le_refl _) dX8_readNumber_48 h
      · replace h := h.2 hb
        refine kz_iconst (pc := 43) (v := 1) (by decide) dX8_readNumber_43 ?_
        refine kz_goto (pc := 44) (tgt := 48) (by decide) dX8_readNumber_44 ?_
        exact kz_zret (pc := 48) (ty := .boolean) rfl (by decide) (Nat.le_refl _) (Nat.le_refl _) dX8_readNumber_48 h
    · replace h := h.2 hb
      refine kz_aload_n (pc := 27) 0 (v := .ref a0) (i := 0) rfl rfl rfl dX8_readNumber_27 ?_
      obtain ⟨fs12, v13, hM, hv, h⟩ := h
      refine kz_getf (pc := 28) (k := 6) kcX8 hM hv (by decide) kw_183 dX8_readNumber_28 ?_
      refine kz_iload_n (pc := 31) 3 (i := 3) rfl rfl dX8_readNumber_31 ?_
      refine kz_icmp_le (pc := 32) (tgt := 43) (by decide) dX8_readNumber_32 (fun hb => ?_) (fun hb => ?_)
      · replace h := h.1 hb
        refine kz_iconst (pc := 43) (v := 1) (by decide) dX8_readNumber_43 ?_
        refine kz_goto (pc := 44) (tgt := 48) (by decide) dX8_readNumber_44 ?_
        exact kz_zret (pc := 48) (ty := .boolean) rfl (by decide) (Nat.le_refl _) (Nat.le_refl _) dX8_readNumber_48 h
      · replace h := h.2 hb
        refine kz_aload_n (pc := 35) 0 (v := .ref a0) (i := 0) rfl rfl rfl dX8_readNumber_35 ?_
        refine kz_iconst (pc := 36) (v := 2) (by decide) dX8_readNumber_36 ?_
        obtain ⟨⟨fs17, he⟩, h⟩ := h
        refine kz_callV (pc := 37) (μ' := mX8_fail) (ci := 7) (q := (RX8, TX8, 9)) (b := a0) (d' := d + 2) (mc' := 0) (ms' := 0) (As := [.int 2]) (st := []) (c := 0) (sl := 0) kmX8_fail kw_358 (by omega) rfl (Nat.le_of_ble_eq_true rfl) he rfl rfl (Nat.le_refl _) (Nat.le_refl _) dX8_readNumber_37 (fun E M9 hx => kz_Tout rfl (Nat.le_refl _) (Nat.le_refl _) hx) (kz_Cmono (fun v M14 h => ?_) (fun _ _ h => h) h)
        obtain ⟨r15, rfl, h⟩ := h
        show kz_Z G (d + 3) 0 0 mX8_readNumber Qr Qx 40 [(0, .ref a0), (1, .ref p1), (2, .int p2), (3, .int p3)] [.int r15] M14 0 0
        refine kz_if_eq (pc := 40) (tgt := 47) (by decide) dX8_readNumber_40 (fun hb => ?_) (fun hb => ?_)
        · replace h := h.1 hb
          refine kz_iconst (pc := 47) (v := 0) (by decide) dX8_readNumber_47 ?_
          exact kz_zret (pc := 48) (ty := .boolean) rfl (by decide) (Nat.le_refl _) (Nat.le_refl _) dX8_readNumber_48 h
        · replace h := h.2 hb
          refine kz_iconst (pc := 43) (v := 1) (by decide) dX8_readNumber_43 ?_
          refine kz_goto (pc := 44) (tgt := 48) (by decide) dX8_readNumber_44 ?_
          exact kz_zret (pc := 48) (ty := .boolean) rfl (by decide) (Nat.le_refl _) (Nat.le_refl _) dX8_readNumber_48 h
  · replace h := h.2 hb
    refine kz_aload_n (pc := 13) 0 (v := .ref a0) (i := 0) rfl rfl rfl dX8_readNumber_13 ?_
    refine kz_iconst (pc := 14) (v := 1) (by decide) dX8_readNumber_14 ?_
    obtain ⟨⟨fs21, he⟩, h⟩ := h
    refine kz_callV (pc := 15) (μ' := mX8_fail) (ci := 7) (q := (RX8, TX8, 9)) (b := a0) (d' := d + 2) (mc' := 0) (ms' := 0) (As := [.int 1]) (st := []) (c := 0) (sl := 0) kmX8_fail kw_358 (by omega) rfl (Nat.le_of_ble_eq_true rfl) he rfl rfl (Nat.le_refl _) (Nat.le_refl _) dX8_readNumber_15 (fun E M9 hx => kz_Tout rfl (Nat.le_refl _) (Nat.le_refl _) hx) (kz_Cmono (fun v M18 h => ?_) (fun _ _ h => h) h)
    obtain ⟨r19, rfl, h⟩ := h
    show kz_Z G (d + 3) 0 0 mX8_readNumber Qr Qx 18 [(0, .ref a0), (1, .ref p1), (2, .int p2), (3, .int p3)] [.int r19] M18 0 0
    exact kz_zret (pc := 18) (ty := .boolean) rfl h.1 (Nat.le_refl _) (Nat.le_refl _) dX8_readNumber_18 h.2
theorem dX8_readSemicolon_0 : decode cX8_readSemicolon 0 = .ok (.aload_n 0, 1) := by decide +kernel
theorem dX8_readSemicolon_1 : decode cX8_readSemicolon 1 = .ok (.aload_n 1, 1) := by decide +kernel
theorem dX8_readSemicolon_2 : decode cX8_readSemicolon 2 = .ok (.invokevirtual 39, 3) := by decide +kernel
theorem dX8_readSemicolon_5 : decode cX8_readSemicolon 5 = .ok (.aload_n 0, 1) := by decide +kernel
theorem dX8_readSemicolon_6 : decode cX8_readSemicolon 6 = .ok (.getfield 43, 3) := by decide +kernel
theorem dX8_readSemicolon_9 : decode cX8_readSemicolon 9 = .ok (.iconst 3, 1) := by decide +kernel
theorem dX8_readSemicolon_10 : decode cX8_readSemicolon 10 = .ok (.if_icmp .eq 11, 3) := by decide +kernel
theorem dX8_readSemicolon_13 : decode cX8_readSemicolon 13 = .ok (.aload_n 0, 1) := by decide +kernel
theorem dX8_readSemicolon_14 : decode cX8_readSemicolon 14 = .ok (.iconst 1, 1) := by decide +kernel
theorem dX8_readSemicolon_15 : decode cX8_readSemicolon 15 = .ok (.invokevirtual 49, 3) := by decide +kernel
theorem dX8_readSemicolon_18 : decode cX8_readSemicolon 18 = .ok (.ifCond .eq 7, 3) := by decide +kernel
theorem dX8_readSemicolon_21 : decode cX8_readSemicolon 21 = .ok (.iconst 1, 1) := by decide +kernel
theorem dX8_readSemicolon_22 : decode cX8_readSemicolon 22 = .ok (.goto 4, 3) := by decide +kernel
theorem dX8_readSemicolon_25 : decode cX8_readSemicolon 25 = .ok (.iconst 0, 1) := by decide +kernel
theorem dX8_readSemicolon_26 : decode cX8_readSemicolon 26 = .ok (.ireturn, 1) := by decide +kernel
theorem rX8_readSemicolon_0 {G : kz_G} {d : Nat} {Qr : Option Value → kz_M → Prop} {Qx : String → kz_M → Prop} {a0 : Nat} {p1 : Nat}  {M : kz_M} (h : (∃ fs10, (M).1 a0 = some (.inl (7, fs10))) ∧ kz_C G (d + 2) 0 0 mX8_next [.ref a0, .ref p1] M (fun v M1 => v = none ∧ (∃ fs4 v5, (M1).1 a0 = some (.inl (7, fs4)) ∧ fs4[2]? = some (.int v5) ∧ ((v5 = (3 : Int32) → Qr (some (.int 1)) M1) ∧ (¬ v5 = (3 : Int32) → (∃ fs9, (M1).1 a0 = some (.inl (7, fs9))) ∧ kz_C G (d + 2) 0 0 mX8_fail [.ref a0, .int 1] M1 (fun v M6 => ∃ r7 : Int32, v = some (.int r7) ∧ ((r7 = 0 → Qr (some (.int 0)) M6) ∧ (¬ r7 = 0 → Qr (some (.int 1)) M6))) Qx)))) Qx) : kz_C G (d + 3) 0 0 mX8_readSemicolon [.ref a0, .ref p1] M Qr Qx := by
  refine kz_enter (n := 1) kmX8_readSemicolon.1 (Nat.le_of_ble_eq_true rfl) (ls := [(0, .ref a0), (1, .ref p1)]) rfl ?_
  refine kz_aload_n (pc := 0) 0 (v := .ref a0) (i := 0) rfl rfl rfl dX8_readSemicolon_0 ?_
  refine kz_aload_n (pc := 1) 1 (v := .ref p1) (i := 1) rfl rfl rfl dX8_readSemicolon_1 ?_
  obtain ⟨⟨fs10, he⟩, h⟩ := h
  refine kz_callV (pc := 2) (μ' := mX8_next) (ci := 7) (q := (RX8, TX8, 9)) (b := a0) (d' := d + 2) (mc' := 0) (ms' := 0) (As := [.ref p1]) (st := []) (c := 0) (sl := 0) kmX8_next kw_330 (by omega) rfl (Nat.le_of_ble_eq_true rfl) he rfl rfl (Nat.le_refl _) (Nat.le_refl _) dX8_readSemicolon_2 (fun E M9 hx => kz_Tout rfl (Nat.le_refl _) (Nat.le_refl _) hx) (kz_Cmono (fun v M1 h => ?_) (fun _ _ h => h) h)
  obtain ⟨rfl, h⟩ := h
  show kz_Z G (d + 3) 0 0 mX8_readSemicolon Qr Qx 5 [(0, .ref a0), (1, .ref p1)] [] M1 0 0
  refine kz_aload_n (pc := 5) 0 (v := .ref a0) (i := 0) rfl rfl rfl dX8_readSemicolon_5 ?_
  obtain ⟨fs4, v5, hM, hv, h⟩ := h
  refine kz_getf (pc := 6) (k := 2) kcX8 hM hv (by decide) kw_179 dX8_readSemicolon_6 ?_
  refine kz_iconst (pc := 9) (v := 3) (by decide) dX8_readSemicolon_9 ?_
  refine kz_icmp_eq (pc := 10) (tgt := 21) (by decide) dX8_readSemicolon_10 (fun hb => ?_) (fun hb => ?_)
  · replace h := h.1 hb
    refine kz_iconst (pc := 21) (v := 1) (by decide) dX8_readSemicolon_21 ?_
    refine kz_goto (pc := 22) (tgt := 26) (by decide) dX8_readSemicolon_22 ?_
    exact kz_zret (pc := 26) (ty := .boolean) rfl (by decide) (Nat.le_refl _) (Nat.le_refl _) dX8_readSemicolon_26 h
  · replace h := h.2 hb
    refine kz_aload_n (pc := 13) 0 (v := .ref a0) (i := 0) rfl rfl rfl dX8_readSemicolon_13 ?_
    refine kz_iconst (pc := 14) (v := 1) (by decide) dX8_readSemicolon_14 ?_
    obtain ⟨⟨fs9, he⟩, h⟩ := h
    refine kz_callV (pc := 15) (μ' := mX8_fail) (ci := 7) (q := (RX8, TX8, 9)) (b := a0) (d' := d + 2) (mc' := 0) (ms' := 0) (As := [.int 1]) (st := []) (c := 0) (sl := 0) kmX8_fail kw_358 (by omega) rfl (Nat.le_of_ble_eq_true rfl) he rfl rfl (Nat.le_refl _) (Nat.le_refl _) dX8_readSemicolon_15 (fun E M9 hx => kz_Tout rfl (Nat.le_refl _) (Nat.le_refl _) hx) (kz_Cmono (fun v M6 h => ?_) (fun _ _ h => h) h)
    obtain ⟨r7, rfl, h⟩ := h
    show kz_Z G (d + 3) 0 0 mX8_readSemicolon Qr Qx 18 [(0, .ref a0), (1, .ref p1)] [.int r7] M6 0 0
    refine kz_if_eq (pc := 18) (tgt := 25) (by decide) dX8_readSemicolon_18 (fun hb => ?_) (fun hb => ?_)
    · replace h := h.1 hb
      refine kz_iconst (pc := 25) (v := 0) (by decide) dX8_readSemicolon_25 ?_
      exact kz_zret (pc := 26) (ty := .boolean) rfl (by decide) (Nat.le_refl _) (Nat.le_refl _) dX8_readSemicolon_26 h
    · replace h := h.2 hb
      refine kz_iconst (pc := 21) (v := 1) (by decide) dX8_readSemicolon_21 ?_
      refine kz_goto (pc := 22) (tgt := 26) (by decide) dX8_readSemicolon_22 ?_
      exact kz_zret (pc := 26) (ty := .boolean) rfl (by decide) (Nat.le_refl _) (Nat.le_refl _) dX8_readSemicolon_26 h
theorem dX8_next_0 : decode cX8_next 0 = .ok (.aload_n 0, 1) := by decide +kernel
theorem dX8_next_1 : decode cX8_next 1 = .ok (.aload_n 0, 1) := by decide +kernel
theorem dX8_next_2 : decode cX8_next 2 = .ok (.getfield 70, 3) := by decide +kernel
theorem dX8_next_5 : decode cX8_next 5 = .ok (.putfield 79, 3) := by decide +kernel
theorem dX8_next_8 : decode cX8_next 8 = .ok (.aload_n 0, 1) := by decide +kernel
theorem dX8_next_9 : decode cX8_next 9 = .ok (.getfield 79, 3) := by decide +kernel
theorem dX8_next_12 : decode cX8_next 12 = .ok (.aload_n 1, 1) := by decide +kernel
theorem dX8_next_13 : decode cX8_next 13 = .ok (.getfield 33, 3) := by decide +kernel
theorem dX8_next_16 : decode cX8_next 16 = .ok (.if_icmp .ge 30, 3) := by decide +kernel
theorem dX8_next_19 : decode cX8_next 19 = .ok (.aload_n 1, 1) := by decide +kernel
theorem dX8_next_20 : decode cX8_next 20 = .ok (.aload_n 0, 1) := by decide +kernel
theorem dX8_next_21 : decode cX8_next 21 = .ok (.getfield 79, 3) := by decide +kernel
theorem dX8_next_24 : decode cX8_next 24 = .ok (.invokevirtual 129, 3) := by decide +kernel
theorem dX8_next_27 : decode cX8_next 27 = .ok (.invokestatic 133, 3) := by decide +kernel
theorem dX8_next_30 : decode cX8_next 30 = .ok (.ifCond .eq 16, 3) := by decide +kernel
theorem dX8_next_33 : decode cX8_next 33 = .ok (.aload_n 0, 1) := by decide +kernel
theorem dX8_next_34 : decode cX8_next 34 = .ok (.dup, 1) := by decide +kernel
theorem dX8_next_35 : decode cX8_next 35 = .ok (.getfield 79, 3) := by decide +kernel
theorem dX8_next_38 : decode cX8_next 38 = .ok (.iconst 1, 1) := by decide +kernel
theorem dX8_next_39 : decode cX8_next 39 = .ok (.iadd, 1) := by decide +kernel
theorem dX8_next_40 : decode cX8_next 40 = .ok (.putfield 79, 3) := by decide +kernel
theorem dX8_next_43 : decode cX8_next 43 = .ok (.goto (-35), 3) := by decide +kernel
theorem dX8_next_46 : decode cX8_next 46 = .ok (.aload_n 1, 1) := by decide +kernel
theorem dX8_next_47 : decode cX8_next 47 = .ok (.aload_n 0, 1) := by decide +kernel
theorem dX8_next_48 : decode cX8_next 48 = .ok (.getfield 79, 3) := by decide +kernel
theorem dX8_next_51 : decode cX8_next 51 = .ok (.invokevirtual 129, 3) := by decide +kernel
theorem dX8_next_54 : decode cX8_next 54 = .ok (.istore_n 2, 1) := by decide +kernel
theorem dX8_next_55 : decode cX8_next 55 = .ok (.iload_n 2, 1) := by decide +kernel
theorem dX8_next_56 : decode cX8_next 56 = .ok (.invokestatic 136, 3) := by decide +kernel
theorem dX8_next_59 : decode cX8_next 59 = .ok (.ifCond .eq 11, 3) := by decide +kernel
theorem dX8_next_62 : decode cX8_next 62 = .ok (.aload_n 0, 1) := by decide +kernel
theorem dX8_next_63 : decode cX8_next 63 = .ok (.aload_n 1, 1) := by decide +kernel
theorem dX8_next_64 : decode cX8_next 64 = .ok (.invokevirtual 139, 3) := by decide +kernel
theorem dX8_next_67 : decode cX8_next 67 = .ok (.goto 64, 3) := by decide +kernel
theorem dX8_next_70 : decode cX8_next 70 = .ok (.iload_n 2, 1) := by decide +kernel
theorem dX8_next_71 : decode cX8_next 71 = .ok (.invokestatic 142, 3) := by decide +kernel
theorem dX8_next_74 : decode cX8_next 74 = .ok (.ifCond .eq 11, 3) := by decide +kernel
theorem dX8_next_77 : decode cX8_next 77 = .ok (.aload_n 0, 1) := by decide +kernel
theorem dX8_next_78 : decode cX8_next 78 = .ok (.aload_n 1, 1) := by decide +kernel
theorem dX8_next_79 : decode cX8_next 79 = .ok (.invokevirtual 145, 3) := by decide +kernel
theorem dX8_next_82 : decode cX8_next 82 = .ok (.goto 49, 3) := by decide +kernel
theorem dX8_next_85 : decode cX8_next 85 = .ok (.aload_n 0, 1) := by decide +kernel
theorem dX8_next_86 : decode cX8_next 86 = .ok (.iload_n 2, 1) := by decide +kernel
theorem dX8_next_87 : decode cX8_next 87 = .ok (.iconst (-1), 1) := by decide +kernel
theorem dX8_next_88 : decode cX8_next 88 = .ok (.if_icmp .ne 7, 3) := by decide +kernel
theorem dX8_next_91 : decode cX8_next 91 = .ok (.iconst 0, 1) := by decide +kernel
theorem dX8_next_92 : decode cX8_next 92 = .ok (.goto 14, 3) := by decide +kernel
theorem dX8_next_95 : decode cX8_next 95 = .ok (.iload_n 2, 1) := by decide +kernel
theorem dX8_next_96 : decode cX8_next 96 = .ok (.bipush 59, 2) := by decide +kernel
theorem dX8_next_98 : decode cX8_next 98 = .ok (.if_icmp .ne 7, 3) := by decide +kernel
theorem dX8_next_101 : decode cX8_next 101 = .ok (.iconst 3, 1) := by decide +kernel
theorem dX8_next_102 : decode cX8_next 102 = .ok (.goto 4, 3) := by decide +kernel
theorem dX8_next_105 : decode cX8_next 105 = .ok (.iconst 4, 1) := by decide +kernel
theorem dX8_next_106 : decode cX8_next 106 = .ok (.putfield 43, 3) := by decide +kernel
theorem dX8_next_109 : decode cX8_next 109 = .ok (.aload_n 0, 1) := by decide +kernel
theorem dX8_next_110 : decode cX8_next 110 = .ok (.iload_n 2, 1) := by decide +kernel
theorem dX8_next_111 : decode cX8_next 111 = .ok (.iconst (-1), 1) := by decide +kernel
theorem dX8_next_112 : decode cX8_next 112 = .ok (.if_icmp .ne 10, 3) := by decide +kernel
theorem dX8_next_115 : decode cX8_next 115 = .ok (.aload_n 0, 1) := by decide +kernel
theorem dX8_next_116 : decode cX8_next 116 = .ok (.getfield 79, 3) := by decide +kernel
theorem dX8_next_119 : decode cX8_next 119 = .ok (.goto 9, 3) := by decide +kernel
theorem dX8_next_122 : decode cX8_next 122 = .ok (.aload_n 0, 1) := by decide +kernel
theorem dX8_next_123 : decode cX8_next 123 = .ok (.getfield 79, 3) := by decide +kernel
theorem dX8_next_126 : decode cX8_next 126 = .ok (.iconst 1, 1) := by decide +kernel
theorem dX8_next_127 : decode cX8_next 127 = .ok (.iadd, 1) := by decide +kernel
theorem dX8_next_128 : decode cX8_next 128 = .ok (.putfield 70, 3) := by decide +kernel
theorem dX8_next_131 : decode cX8_next 131 = .ok (.return_, 1) := by decide +kernel
def zX8_next_8 (G : kz_G) (d : Nat) (Qr : Option Value → kz_M → Prop) (Qx : String → kz_M → Prop) (x0 : Nat) (x1 : Nat)  (M : kz_M) : Prop := kz_Z G (d + 2) 0 0 mX8_next Qr Qx 8 [(0, .ref x0), (1, .ref x1)] [] M 0 0
def zX8_next_46 (G : kz_G) (d : Nat) (Qr : Option Value → kz_M → Prop) (Qx : String → kz_M → Prop) (x0 : Nat) (x1 : Nat)  (M : kz_M) : Prop := kz_Z G (d + 2) 0 0 mX8_next Qr Qx 46 [(0, .ref x0), (1, .ref x1)] [] M 0 0
def zX8_next_106 (G : kz_G) (d : Nat) (Qr : Option Value → kz_M → Prop) (Qx : String → kz_M → Prop) (x0 : Nat) (x2 : Int32) (s0 : Int32) (s1 : Nat) (M : kz_M) : Prop := kz_Z G (d + 2) 0 0 mX8_next Qr Qx 106 [(0, .ref x0), (2, .int x2)] [.int s0, .ref s1] M 0 0
theorem rX8_next_0 {G : kz_G} {d : Nat} {Qr : Option Value → kz_M → Prop} {Qx : String → kz_M → Prop} {a0 : Nat} {p1 : Nat}  {M : kz_M} (h : ∃ fs1 v2, (M).1 a0 = some (.inl (7, fs1)) ∧ fs1[4]? = some (.int v2) ∧ (∃ fs3, (M).1 a0 = some (.inl (7, fs3)) ∧ 3 < fs3.length ∧ (zX8_next_8 G d Qr Qx a0 p1 (kz_up M a0 (.inl (7, fs3.set 3 (.int v2))))))) : kz_C G (d + 2) 0 0 mX8_next [.ref a0, .ref p1] M Qr Qx := by
  refine kz_enter (n := 1) kmX8_next.1 (Nat.le_of_ble_eq_true rfl) (ls := [(0, .ref a0), (1, .ref p1)]) rfl ?_
  refine kz_aload_n (pc := 0) 0 (v := .ref a0) (i := 0) rfl rfl rfl dX8_next_0 ?_
  refine kz_aload_n (pc := 1) 0 (v := .ref a0) (i := 0) rfl rfl rfl dX8_next_1 ?_
  obtain ⟨fs1, v2, hM, hv, h⟩ := h
  refine kz_getf (pc := 2) (k := 4) kcX8 hM hv (by decide) kw_181 dX8_next_2 ?_
  obtain ⟨fs3, hM, hlen, h⟩ := h
  refine kz_putf (pc := 5) (k := 3) kcX8 hM (by decide) hlen kw_180 rfl rfl rfl dX8_next_5 ?_
  exact h
theorem rX8_next_8 {G : kz_G} {d : Nat} {Qr : Option Value → kz_M → Prop} {Qx : String → kz_M → Prop} {x0 : Nat} {x1 : Nat}  {M : kz_M} (h : ∃ fs1 v2, (M).1 x0 = some (.inl (7, fs1)) ∧ fs1[3]? = some (.int v2) ∧ (∃ fs3 v4, (M).1 x1 = some (.inl (1, fs3)) ∧ fs3[1]? = some (.int v4) ∧ ((v4 ≤ v2 → zX8_next_46 G d Qr Qx x0 x1 M) ∧ (¬ v4 ≤ v2 → ∃ fs5 v6, (M).1 x0 = some (.inl (7, fs5)) ∧ fs5[3]? = some (.int v6) ∧ ((∃ fs17, (M).1 x1 = some (.inl (1, fs17))) ∧ kz_C G (d + 1) 0 0 mX1_signAt [.ref x1, .int v6] M (fun v M7 => ∃ r8 : Int32, v = some (.int r8) ∧ (kz_C G (d + 1) 0 0 mX11_isBlank [.int r8] M7 (fun v M10 => ∃ r11 : Int32, v = some (.int r11) ∧ ((r11 = 0 → zX8_next_46 G d Qr Qx x0 x1 M10) ∧ (¬ r11 = 0 → ∃ fs13 v14, (M10).1 x0 = some (.inl (7, fs13)) ∧ fs13[3]? = some (.int v14) ∧ (∃ fs15, (M10).1 x0 = some (.inl (7, fs15)) ∧ 3 < fs15.length ∧ (zX8_next_8 G d Qr Qx x0 x1 (kz_up M10 x0 (.inl (7, fs15.set 3 (.int (v14 + 1)))))))))) Qx)) Qx))))) : zX8_next_8 G d Qr Qx x0 x1  M := by
  show kz_Z G (d + 2) 0 0 mX8_next Qr Qx 8 [(0, .ref x0), (1, .ref x1)] [] M 0 0
  refine kz_aload_n (pc := 8) 0 (v := .ref x0) (i := 0) rfl rfl rfl dX8_next_8 ?_
  obtain ⟨fs1, v2, hM, hv, h⟩ := h
  refine kz_getf (pc := 9) (k := 3) kcX8 hM hv (by decide) kw_180 dX8_next_9 ?_
  refine kz_aload_n (pc := 12) 1 (v := .ref x1) (i := 1) rfl rfl rfl dX8_next_12 ?_
  obtain ⟨fs3, v4, hM, hv, h⟩ := h
  refine kz_getf (pc := 13) (k := 1) kcX1 hM hv (by decide) kw_53 dX8_next_13 ?_
  refine kz_icmp_ge (pc := 16) (tgt := 46) (by decide) dX8_next_16 (fun hb => ?_) (fun hb => ?_)
  · replace h := h.1 hb
    exact h
  · replace h := h.2 hb
    refine kz_aload_n (pc := 19) 1 (v := .ref x1) (i := 1) rfl rfl rfl dX8_next_19 ?_
    refine kz_aload_n (pc := 20) 0 (v := .ref x0) (i := 0) rfl rfl rfl dX8_next_20 ?_
    obtain ⟨fs5, v6, hM, hv, h⟩ := h
    refine kz_getf (pc := 21) (k := 3) kcX8 hM hv (by decide) kw_180 dX8_next_21 ?_
    obtain ⟨⟨fs17, he⟩, h⟩ := h
    refine kz_callV (pc := 24) (μ' := mX1_signAt) (ci := 1) (q := (RX1, TX1, 2)) (b := x1) (d' := d + 1) (mc' := 0) (ms' := 0) (As := [.int v6]) (st := []) (c := 0) (sl := 0) kmX1_signAt kw_334 (by omega) rfl (Nat.le_of_ble_eq_true rfl) he rfl rfl (Nat.le_refl _) (Nat.le_refl _) dX8_next_24 (fun E M9 hx => kz_Tout rfl (Nat.le_refl _) (Nat.le_refl _) hx) (kz_Cmono (fun v M7 h => ?_) (fun _ _ h => h) h)
    obtain ⟨r8, rfl, h⟩ := h
    show kz_Z G (d + 2) 0 0 mX8_next Qr Qx 27 [(0, .ref x0), (1, .ref x1)] [.int r8] M7 0 0
    refine kz_callSN (pc := 27) (μ' := mX11_isBlank) (d' := d + 1) (mc' := 0) (ms' := 0) (As := [.int r8]) (st := []) (c := 0) (sl := 0) kmX11_isBlank kw_338 (by omega) rfl (Nat.le_of_ble_eq_true rfl) (Nat.le_refl _) (Nat.le_refl _) dX8_next_27 (fun E M9 hx => kz_Tout rfl (Nat.le_refl _) (Nat.le_refl _) hx) (kz_Cmono (fun v M10 h => ?_) (fun _ _ h => h) h)
    obtain ⟨r11, rfl, h⟩ := h
    show kz_Z G (d + 2) 0 0 mX8_next Qr Qx 30 [(0, .ref x0), (1, .ref x1)] [.int r11] M10 0 0
    refine kz_if_eq (pc := 30) (tgt := 46) (by decide) dX8_next_30 (fun hb => ?_) (fun hb => ?_)
    · replace h := h.1 hb
      exact h
    · replace h := h.2 hb
      refine kz_aload_n (pc := 33) 0 (v := .ref x0) (i := 0) rfl rfl rfl dX8_next_33 ?_
      refine kz_dup (pc := 34) rfl dX8_next_34 ?_
      obtain ⟨fs13, v14, hM, hv, h⟩ := h
      refine kz_getf (pc := 35) (k := 3) kcX8 hM hv (by decide) kw_180 dX8_next_35 ?_
      refine kz_iconst (pc := 38) (v := 1) (by decide) dX8_next_38 ?_
      refine kz_iadd (pc := 39) dX8_next_39 ?_
      obtain ⟨fs15, hM, hlen, h⟩ := h
      refine kz_putf (pc := 40) (k := 3) kcX8 hM (by decide) hlen kw_180 rfl rfl rfl dX8_next_40 ?_
      refine kz_goto (pc := 43) (tgt := 8) (by decide) dX8_next_43 ?_
      exact h
theorem rX8_next_46 {G : kz_G} {d : Nat} {Qr : Option Value → kz_M → Prop} {Qx : String → kz_M → Prop} {x0 : Nat} {x1 : Nat}  {M : kz_M} (h : ∃ fs1 v2, (M).1 x0 = some (.inl (7, fs1)) ∧ fs1[3]? = some (.int v2) ∧ ((∃ fs22, (M).1 x1 = some (.inl (1, fs22))) ∧ kz_C G (d + 1) 0 0 mX1_signAt [.ref x1, .int v2] M (fun v M3 => ∃ r4 : Int32, v = some (.int r4) ∧ (kz_C G (d + 1) 0 0 mX11_isLetter [.int r4] M3 (fun v M6 => ∃ r7 : Int32, v = some (.int r7) ∧ ((r7 = 0 → kz_C G (d + 1) 0 0 mX11_isDigit [.int r4] M6 (fun v M9 => ∃ r10 : Int32, v = some (.int r10) ∧ ((r10 = 0 → (¬ r4 = ((-1) : Int32) → (¬ r4 = (59 : Int32) → zX8_next_106 G d Qr Qx x0 r4 4 x0 M9) ∧ (r4 = (59 : Int32) → zX8_next_106 G d Qr Qx x0 r4 3 x0 M9)) ∧ (r4 = ((-1) : Int32) → zX8_next_106 G d Qr Qx x0 r4 0 x0 M9)) ∧ (¬ r10 = 0 → (∃ fs15, (M9).1 x0 = some (.inl (7, fs15))) ∧ kz_C G (d + 1) 0 0 mX8_takeNumber [.ref x0, .ref x1] M9 (fun v M12 => v = none ∧ (Qr none M12)) Qx))) Qx) ∧ (¬ r7 = 0 → (∃ fs20, (M6).1 x0 = some (.inl (7, fs20))) ∧ kz_C G (d + 1) 0 0 mX8_takeWord [.ref x0, .ref x1] M6 (fun v M17 => v = none ∧ (Qr none M17)) Qx))) Qx)) Qx)) : zX8_next_46 G d Qr Qx x0 x1  M := by
  show kz_Z G (d + 2) 0 0 mX8_next Qr Qx 46 [(0, .ref x0), (1, .ref x1)] [] M 0 0
  refine kz_aload_n (pc := 46) 1 (v := .ref x1) (i := 1) rfl rfl rfl dX8_next_46 ?_
  refine kz_aload_n (pc := 47) 0 (v := .ref x0) (i := 0) rfl rfl rfl dX8_next_47 ?_
  obtain ⟨fs1, v2, hM, hv, h⟩ := h
  refine kz_getf (pc := 48) (k := 3) kcX8 hM hv (by decide) kw_180 dX8_next_48 ?_
  obtain ⟨⟨fs22, he⟩, h⟩ := h
  refine kz_callV (pc := 51) (μ' := mX1_signAt) (ci := 1) (q := (RX1, TX1, 2)) (b := x1) (d' := d + 1) (mc' := 0) (ms' := 0) (As := [.int v2]) (st := []) (c := 0) (sl := 0) kmX1_signAt kw_334 (by omega) rfl (Nat.le_of_ble_eq_true rfl) he rfl rfl (Nat.le_refl _) (Nat.le_refl _) dX8_next_51 (fun E M9 hx => kz_Tout rfl (Nat.le_refl _) (Nat.le_refl _) hx) (kz_Cmono (fun v M3 h => ?_) (fun _ _ h => h) h)
  obtain ⟨r4, rfl, h⟩ := h
  show kz_Z G (d + 2) 0 0 mX8_next Qr Qx 54 [(0, .ref x0), (1, .ref x1)] [.int r4] M3 0 0
  refine kz_istore_n (pc := 54) (i := 2) (ls' := [(0, .ref x0), (1, .ref x1)]) rfl (by decide) rfl dX8_next_54 ?_
  refine kz_iload_n (pc := 55) 0 (i := 2) rfl rfl dX8_next_55 ?_
  refine kz_callSN (pc := 56) (μ' := mX11_isLetter) (d' := d + 1) (mc' := 0) (ms' := 0) (As := [.int r4]) (st := []) (c := 0) (sl := 0) kmX11_isLetter kw_341 (by omega) rfl (Nat.le_of_ble_eq_true rfl) (Nat.le_refl _) (Nat.le_refl _) dX8_next_56 (fun E M9 hx => kz_Tout rfl (Nat.le_refl _) (Nat.le_refl _) hx) (kz_Cmono (fun v M6 h => ?_) (fun _ _ h => h) h)
  obtain ⟨r7, rfl, h⟩ := h
  show kz_Z G (d + 2) 0 0 mX8_next Qr Qx 59 [(2, .int r4), (0, .ref x0), (1, .ref x1)] [.int r7] M6 0 0
  refine kz_if_eq (pc := 59) (tgt := 70) (by decide) dX8_next_59 (fun hb => ?_) (fun hb => ?_)
  · replace h := h.1 hb
    refine kz_iload_n (pc := 70) 0 (i := 2) rfl rfl dX8_next_70 ?_
    refine kz_callSN (pc := 71) (μ' := mX11_isDigit) (d' := d + 1) (mc' := 0) (ms' := 0) (As := [.int r4]) (st := []) (c := 0) (sl := 0) kmX11_isDigit kw_349 (by omega) rfl (Nat.le_of_ble_eq_true rfl) (Nat.le_refl _) (Nat.le_refl _) dX8_next_71 (fun E M9 hx => kz_Tout rfl (Nat.le_refl _) (Nat.le_refl _) hx) (kz_Cmono (fun v M9 h => ?_) (fun _ _ h => h) h)
    obtain ⟨r10, rfl, h⟩ := h
    show kz_Z G (d + 2) 0 0 mX8_next Qr Qx 74 [(2, .int r4), (0, .ref x0), (1, .ref x1)] [.int r10] M9 0 0
    refine kz_if_eq (pc := 74) (tgt := 85) (by decide) dX8_next_74 (fun hb => ?_) (fun hb => ?_)
    · replace h := h.1 hb
      refine kz_aload_n (pc := 85) 1 (v := .ref x0) (i := 0) rfl rfl rfl dX8_next_85 ?_
      refine kz_iload_n (pc := 86) 0 (i := 2) rfl rfl dX8_next_86 ?_
      refine kz_iconst (pc := 87) (v := (-1)) (by decide) dX8_next_87 ?_
      refine kz_icmp_ne (pc := 88) (tgt := 95) (by decide) dX8_next_88 (fun hb => ?_) (fun hb => ?_)
      · replace h := h.1 hb
        refine kz_iload_n (pc := 95) 0 (i := 2) rfl rfl dX8_next_95 ?_
        refine kz_bipush (pc := 96) (v := 59) (by decide) dX8_next_96 ?_
        refine kz_icmp_ne (pc := 98) (tgt := 105) (by decide) dX8_next_98 (fun hb => ?_) (fun hb => ?_)
        · replace h := h.1 hb
          refine kz_iconst (pc := 105) (v := 4) (by decide) dX8_next_105 ?_
          refine kz_sub [1, 0] rfl ?_
          exact h
        · replace h := h.2 hb
          refine kz_iconst (pc := 101) (v := 3) (by decide) dX8_next_101 ?_
          refine kz_goto (pc := 102) (tgt := 106) (by decide) dX8_next_102 ?_
          refine kz_sub [1, 0] rfl ?_
          exact h
      · replace h := h.2 hb
        refine kz_iconst (pc := 91) (v := 0) (by decide) dX8_next_91 ?_
        refine kz_goto (pc := 92) (tgt := 106) (by decide) dX8_next_92 ?_
        refine kz_sub [1, 0] rfl ?_
        exact h
    · replace h := h.2 hb
      refine kz_aload_n (pc := 77) 1 (v := .ref x0) (i := 0) rfl rfl rfl dX8_next_77 ?_
      refine kz_aload_n (pc := 78) 2 (v := .ref x1) (i := 1) rfl rfl rfl dX8_next_78 ?_
      obtain ⟨⟨fs15, he⟩, h⟩ := h
      refine kz_callV (pc := 79) (μ' := mX8_takeNumber) (ci := 7) (q := (RX8, TX8, 9)) (b := x0) (d' := d + 1) (mc' := 0) (ms' := 0) (As := [.ref x1]) (st := []) (c := 0) (sl := 0) kmX8_takeNumber kw_352 (by omega) rfl (Nat.le_of_ble_eq_true rfl) he rfl rfl (Nat.le_refl _) (Nat.le_refl _) dX8_next_79 (fun E M9 hx => kz_Tout rfl (Nat.le_refl _) (Nat.le_refl _) hx) (kz_Cmono (fun v M12 h => ?_) (fun _ _ h => h) h)
      obtain ⟨rfl, h⟩ := h
      show kz_Z G (d + 2) 0 0 mX8_next Qr Qx 82 [(2, .int r4), (0, .ref x0), (1, .ref x1)] [] M12 0 0
      refine kz_goto (pc := 82) (tgt := 131) (by decide) dX8_next_82 ?_
      exact kz_vret (pc := 131) rfl (Nat.le_refl _) (Nat.le_refl _) dX8_next_131 h
  · replace h := h.2 hb
    refine kz_aload_n (pc := 62) 1 (v := .ref x0) (i := 0) rfl rfl rfl dX8_next_62 ?_
    refine kz_aload_n (pc := 63) 2 (v := .ref x1) (i := 1) rfl rfl rfl dX8_next_63 ?_
    obtain ⟨⟨fs20, he⟩, h⟩ := h
    refine kz_callV (pc := 64) (μ' := mX8_takeWord) (ci := 7) (q := (RX8, TX8, 9)) (b := x0) (d' := d + 1) (mc' := 0) (ms' := 0) (As := [.ref x1]) (st := []) (c := 0) (sl := 0) kmX8_takeWord kw_344 (by omega) rfl (Nat.le_of_ble_eq_true rfl) he rfl rfl (Nat.le_refl _) (Nat.le_refl _) dX8_next_64 (fun E M9 hx => kz_Tout rfl (Nat.le_refl _) (Nat.le_refl _) hx) (kz_Cmono (fun v M17 h => ?_) (fun _ _ h => h) h)
    obtain ⟨rfl, h⟩ := h
    show kz_Z G (d + 2) 0 0 mX8_next Qr Qx 67 [(2, .int r4), (0, .ref x0), (1, .ref x1)] [] M17 0 0
    refine kz_goto (pc := 67) (tgt := 131) (by decide) dX8_next_67 ?_
    exact kz_vret (pc := 131) rfl (Nat.le_refl _) (Nat.le_refl _) dX8_next_131 h
theorem rX8_next_106 {G : kz_G} {d : Nat} {Qr : Option Value → kz_M → Prop} {Qx : String → kz_M → Prop} {x0 : Nat} {x2 : Int32} {s0 : Int32} {s1 : Nat} {M : kz_M} (h : ∃ fs1, (M).1 s1 = some (.inl (7, fs1)) ∧ 2 < fs1.length ∧ ((¬ x2 = ((-1) : Int32) → ∃ fs2 v3, ((kz_up M s1 (.inl (7, fs1.set 2 (.int s0))))).1 x0 = some (.inl (7, fs2)) ∧ fs2[3]? = some (.int v3) ∧ (∃ fs4, ((kz_up M s1 (.inl (7, fs1.set 2 (.int s0))))).1 x0 = some (.inl (7, fs4)) ∧ 4 < fs4.length ∧ (Qr none (kz_up (kz_up M s1 (.inl (7, fs1.set 2 (.int s0)))) x0 (.inl (7, fs4.set 4 (.int (v3 + 1)))))))) ∧ (x2 = ((-1) : Int32) → ∃ fs5 v6, ((kz_up M s1 (.inl (7, fs1.set 2 (.int s0))))).1 x0 = some (.inl (7, fs5)) ∧ fs5[3]? = some (.int v6) ∧ (∃ fs7, ((kz_up M s1 (.inl (7, fs1.set 2 (.int s0))))).1 x0 = some (.inl (7, fs7)) ∧ 4 < fs7.length ∧ (Qr none (kz_up (kz_up M s1 (.inl (7, fs1.set 2 (.int s0)))) x0 (.inl (7, fs7.set 4 (.int v6))))))))) : zX8_next_106 G d Qr Qx x0 x2 s0 s1 M := by
  show kz_Z G (d + 2) 0 0 mX8_next Qr Qx 106 [(0, .ref x0), (2, .int x2)] [.int s0, .ref s1] M 0 0
  obtain ⟨fs1, hM, hlen, h⟩ := h
  refine kz_putf (pc := 106) (k := 2) kcX8 hM (by decide) hlen kw_179 rfl rfl rfl dX8_next_106 ?_
  refine kz_aload_n (pc := 109) 0 (v := .ref x0) (i := 0) rfl rfl rfl dX8_next_109 ?_
  refine kz_iload_n (pc := 110) 1 (i := 2) rfl rfl dX8_next_110 ?_
  refine kz_iconst (pc := 111) (v := (-1)) (by decide) dX8_next_111 ?_
  refine kz_icmp_ne (pc := 112) (tgt := 122) (by decide) dX8_next_112 (fun hb => ?_) (fun hb => ?_)
  · replace h := h.1 hb
    refine kz_aload_n (pc := 122) 0 (v := .ref x0) (i := 0) rfl rfl rfl dX8_next_122 ?_
    obtain ⟨fs2, v3, hM, hv, h⟩ := h
    refine kz_getf (pc := 123) (k := 3) kcX8 hM hv (by decide) kw_180 dX8_next_123 ?_
    refine kz_iconst (pc := 126) (v := 1) (by decide) dX8_next_126 ?_
    refine kz_iadd (pc := 127) dX8_next_127 ?_
    obtain ⟨fs4, hM, hlen, h⟩ := h
    refine kz_putf (pc := 128) (k := 4) kcX8 hM (by decide) hlen kw_181 rfl rfl rfl dX8_next_128 ?_
    exact kz_vret (pc := 131) rfl (Nat.le_refl _) (Nat.le_refl _) dX8_next_131 h
  · replace h := h.2 hb
    refine kz_aload_n (pc := 115) 0 (v := .ref x0) (i := 0) rfl rfl rfl dX8_next_115 ?_
    obtain ⟨fs5, v6, hM, hv, h⟩ := h
    refine kz_getf (pc := 116) (k := 3) kcX8 hM hv (by decide) kw_180 dX8_next_116 ?_
    refine kz_goto (pc := 119) (tgt := 128) (by decide) dX8_next_119 ?_
    obtain ⟨fs7, hM, hlen, h⟩ := h
    refine kz_putf (pc := 128) (k := 4) kcX8 hM (by decide) hlen kw_181 rfl rfl rfl dX8_next_128 ?_
    exact kz_vret (pc := 131) rfl (Nat.le_refl _) (Nat.le_refl _) dX8_next_131 h
theorem dX8_takeWord_0 : decode cX8_takeWord 0 = .ok (.aload_n 0, 1) := by decide +kernel
theorem dX8_takeWord_1 : decode cX8_takeWord 1 = .ok (.aload_n 0, 1) := by decide +kernel
theorem dX8_takeWord_2 : decode cX8_takeWord 2 = .ok (.getfield 79, 3) := by decide +kernel
theorem dX8_takeWord_5 : decode cX8_takeWord 5 = .ok (.putfield 70, 3) := by decide +kernel
theorem dX8_takeWord_8 : decode cX8_takeWord 8 = .ok (.aload_n 0, 1) := by decide +kernel
theorem dX8_takeWord_9 : decode cX8_takeWord 9 = .ok (.lconst 0, 1) := by decide +kernel
theorem dX8_takeWord_10 : decode cX8_takeWord 10 = .ok (.putfield 53, 3) := by decide +kernel
theorem dX8_takeWord_13 : decode cX8_takeWord 13 = .ok (.aload_n 0, 1) := by decide +kernel
theorem dX8_takeWord_14 : decode cX8_takeWord 14 = .ok (.getfield 70, 3) := by decide +kernel
theorem dX8_takeWord_17 : decode cX8_takeWord 17 = .ok (.aload_n 1, 1) := by decide +kernel
theorem dX8_takeWord_18 : decode cX8_takeWord 18 = .ok (.getfield 33, 3) := by decide +kernel
theorem dX8_takeWord_21 : decode cX8_takeWord 21 = .ok (.if_icmp .ge 49, 3) := by decide +kernel
theorem dX8_takeWord_24 : decode cX8_takeWord 24 = .ok (.aload_n 1, 1) := by decide +kernel
theorem dX8_takeWord_25 : decode cX8_takeWord 25 = .ok (.aload_n 0, 1) := by decide +kernel
theorem dX8_takeWord_26 : decode cX8_takeWord 26 = .ok (.getfield 70, 3) := by decide +kernel
theorem dX8_takeWord_29 : decode cX8_takeWord 29 = .ok (.invokevirtual 129, 3) := by decide +kernel
theorem dX8_takeWord_32 : decode cX8_takeWord 32 = .ok (.invokestatic 136, 3) := by decide +kernel
theorem dX8_takeWord_35 : decode cX8_takeWord 35 = .ok (.ifCond .eq 35, 3) := by decide +kernel
theorem dX8_takeWord_38 : decode cX8_takeWord 38 = .ok (.aload_n 0, 1) := by decide +kernel
theorem dX8_takeWord_39 : decode cX8_takeWord 39 = .ok (.aload_n 0, 1) := by decide +kernel
theorem dX8_takeWord_40 : decode cX8_takeWord 40 = .ok (.getfield 53, 3) := by decide +kernel
theorem dX8_takeWord_43 : decode cX8_takeWord 43 = .ok (.aload_n 1, 1) := by decide +kernel
theorem dX8_takeWord_44 : decode cX8_takeWord 44 = .ok (.aload_n 0, 1) := by decide +kernel
theorem dX8_takeWord_45 : decode cX8_takeWord 45 = .ok (.getfield 70, 3) := by decide +kernel
theorem dX8_takeWord_48 : decode cX8_takeWord 48 = .ok (.invokevirtual 129, 3) := by decide +kernel
theorem dX8_takeWord_51 : decode cX8_takeWord 51 = .ok (.invokestatic 148, 3) := by decide +kernel
theorem dX8_takeWord_54 : decode cX8_takeWord 54 = .ok (.putfield 53, 3) := by decide +kernel
theorem dX8_takeWord_57 : decode cX8_takeWord 57 = .ok (.aload_n 0, 1) := by decide +kernel
theorem dX8_takeWord_58 : decode cX8_takeWord 58 = .ok (.dup, 1) := by decide +kernel
theorem dX8_takeWord_59 : decode cX8_takeWord 59 = .ok (.getfield 70, 3) := by decide +kernel
theorem dX8_takeWord_62 : decode cX8_takeWord 62 = .ok (.iconst 1, 1) := by decide +kernel
theorem dX8_takeWord_63 : decode cX8_takeWord 63 = .ok (.iadd, 1) := by decide +kernel
theorem dX8_takeWord_64 : decode cX8_takeWord 64 = .ok (.putfield 70, 3) := by decide +kernel
theorem dX8_takeWord_67 : decode cX8_takeWord 67 = .ok (.goto (-54), 3) := by decide +kernel
theorem dX8_takeWord_70 : decode cX8_takeWord 70 = .ok (.aload_n 0, 1) := by decide +kernel
theorem dX8_takeWord_71 : decode cX8_takeWord 71 = .ok (.aload_n 0, 1) := by decide +kernel
theorem dX8_takeWord_72 : decode cX8_takeWord 72 = .ok (.getfield 70, 3) := by decide +kernel
theorem dX8_takeWord_75 : decode cX8_takeWord 75 = .ok (.aload_n 0, 1) := by decide +kernel
theorem dX8_takeWord_76 : decode cX8_takeWord 76 = .ok (.getfield 79, 3) := by decide +kernel
theorem dX8_takeWord_79 : decode cX8_takeWord 79 = .ok (.isub, 1) := by decide +kernel
theorem dX8_takeWord_80 : decode cX8_takeWord 80 = .ok (.bipush 12, 2) := by decide +kernel
theorem dX8_takeWord_82 : decode cX8_takeWord 82 = .ok (.if_icmp .le 7, 3) := by decide +kernel
theorem dX8_takeWord_85 : decode cX8_takeWord 85 = .ok (.lconst 0, 1) := by decide +kernel
theorem dX8_takeWord_86 : decode cX8_takeWord 86 = .ok (.goto 7, 3) := by decide +kernel
theorem dX8_takeWord_89 : decode cX8_takeWord 89 = .ok (.aload_n 0, 1) := by decide +kernel
theorem dX8_takeWord_90 : decode cX8_takeWord 90 = .ok (.getfield 53, 3) := by decide +kernel
theorem dX8_takeWord_93 : decode cX8_takeWord 93 = .ok (.putfield 53, 3) := by decide +kernel
theorem dX8_takeWord_96 : decode cX8_takeWord 96 = .ok (.aload_n 0, 1) := by decide +kernel
theorem dX8_takeWord_97 : decode cX8_takeWord 97 = .ok (.iconst 1, 1) := by decide +kernel
theorem dX8_takeWord_98 : decode cX8_takeWord 98 = .ok (.putfield 43, 3) := by decide +kernel
theorem dX8_takeWord_101 : decode cX8_takeWord 101 = .ok (.return_, 1) := by decide +kernel
def zX8_takeWord_13 (G : kz_G) (d : Nat) (Qr : Option Value → kz_M → Prop) (Qx : String → kz_M → Prop) (x0 : Nat) (x1 : Nat)  (M : kz_M) : Prop := kz_Z G (d + 1) 0 0 mX8_takeWord Qr Qx 13 [(0, .ref x0), (1, .ref x1)] [] M 0 0
def zX8_takeWord_70 (G : kz_G) (d : Nat) (Qr : Option Value → kz_M → Prop) (Qx : String → kz_M → Prop) (x0 : Nat)  (M : kz_M) : Prop := kz_Z G (d + 1) 0 0 mX8_takeWord Qr Qx 70 [(0, .ref x0)] [] M 0 0
theorem rX8_takeWord_0 {G : kz_G} {d : Nat} {Qr : Option Value → kz_M → Prop} {Qx : String → kz_M → Prop} {a0 : Nat} {p1 : Nat}  {M : kz_M} (h : ∃ fs1 v2, (M).1 a0 = some (.inl (7, fs1)) ∧ fs1[3]? = some (.int v2) ∧ (∃ fs3, (M).1 a0 = some (.inl (7, fs3)) ∧ 4 < fs3.length ∧ (∃ fs4, ((kz_up M a0 (.inl (7, fs3.set 4 (.int v2))))).1 a0 = some (.inl (7, fs4)) ∧ 5 < fs4.length ∧ (zX8_takeWord_13 G d Qr Qx a0 p1 (kz_up (kz_up M a0 (.inl (7, fs3.set 4 (.int v2)))) a0 (.inl (7, fs4.set 5 (.long 0)))))))) : kz_C G (d + 1) 0 0 mX8_takeWord [.ref a0, .ref p1] M Qr Qx := by
  refine kz_enter (n := 1) kmX8_takeWord.1 (Nat.le_of_ble_eq_true rfl) (ls := [(0, .ref a0), (1, .ref p1)]) rfl ?_
  refine kz_aload_n (pc := 0) 0 (v := .ref a0) (i := 0) rfl rfl rfl dX8_takeWord_0 ?_
  refine kz_aload_n (pc := 1) 0 (v := .ref a0) (i := 0) rfl rfl rfl dX8_takeWord_1 ?_
  obtain ⟨fs1, v2, hM, hv, h⟩ := h
  refine kz_getf (pc := 2) (k := 3) kcX8 hM hv (by decide) kw_180 dX8_takeWord_2 ?_
  obtain ⟨fs3, hM, hlen, h⟩ := h
  refine kz_putf (pc := 5) (k := 4) kcX8 hM (by decide) hlen kw_181 rfl rfl rfl dX8_takeWord_5 ?_
  refine kz_aload_n (pc := 8) 0 (v := .ref a0) (i := 0) rfl rfl rfl dX8_takeWord_8 ?_
  refine kz_lconst (pc := 9) (v := 0) (by decide) dX8_takeWord_9 ?_
  obtain ⟨fs4, hM, hlen, h⟩ := h
  refine kz_putf (pc := 10) (k := 5) kcX8 hM (by decide) hlen kw_182 rfl rfl rfl dX8_takeWord_10 ?_
  exact h
theorem rX8_takeWord_13 {G : kz_G} {d : Nat} {Qr : Option Value → kz_M → Prop} {Qx : String → kz_M → Prop} {x0 : Nat} {x1 : Nat}  {M : kz_M} (h : ∃ fs1 v2, (M).1 x0 = some (.inl (7, fs1)) ∧ fs1[4]? = some (.int v2) ∧ (∃ fs3 v4, (M).1 x1 = some (.inl (1, fs3)) ∧ fs3[1]? = some (.int v4) ∧ ((v4 ≤ v2 → zX8_takeWord_70 G d Qr Qx x0 M) ∧ (¬ v4 ≤ v2 → ∃ fs5 v6, (M).1 x0 = some (.inl (7, fs5)) ∧ fs5[4]? = some (.int v6) ∧ ((∃ fs30, (M).1 x1 = some (.inl (1, fs30))) ∧ kz_C G (d + 0) 0 0 mX1_signAt [.ref x1, .int v6] M (fun v M7 => ∃ r8 : Int32, v = some (.int r8) ∧ (kz_C G (d + 0) 0 0 mX11_isLetter [.int r8] M7 (fun v M10 => ∃ r11 : Int32, v = some (.int r11) ∧ ((r11 = 0 → zX8_takeWord_70 G d Qr Qx x0 M10) ∧ (¬ r11 = 0 → ∃ fs13 v14, (M10).1 x0 = some (.inl (7, fs13)) ∧ fs13[5]? = some (.long v14) ∧ (∃ fs15 v16, (M10).1 x0 = some (.inl (7, fs15)) ∧ fs15[4]? = some (.int v16) ∧ ((∃ fs28, (M10).1 x1 = some (.inl (1, fs28))) ∧ kz_C G (d + 0) 0 0 mX1_signAt [.ref x1, .int v16] M10 (fun v M17 => ∃ r18 : Int32, v = some (.int r18) ∧ (kz_C G (d + 0) 0 0 mX11_withLetter [.long v14, .int r18] M17 (fun v M20 => ∃ r21 : Int64, v = some (.long r21) ∧ (∃ fs23, (M20).1 x0 = some (.inl (7, fs23)) ∧ 5 < fs23.length ∧ (∃ fs24 v25, ((kz_up M20 x0 (.inl (7, fs23.set 5 (.long r21))))).1 x0 = some (.inl (7, fs24)) ∧ fs24[4]? = some (.int v25) ∧ (∃ fs26, ((kz_up M20 x0 (.inl (7, fs23.set 5 (.long r21))))).1 x0 = some (.inl (7, fs26)) ∧ 4 < fs26.length ∧ (zX8_takeWord_13 G d Qr Qx x0 x1 (kz_up (kz_up M20 x0 (.inl (7, fs23.set 5 (.long r21)))) x0 (.inl (7, fs26.set 4 (.int (v25 + 1)))))))))) Qx)) Qx))))) Qx)) Qx))))) : zX8_takeWord_13 G d Qr Qx x0 x1  M := by
  show kz_Z G (d + 1) 0 0 mX8_takeWord Qr Qx 13 [(0, .ref x0), (1, .ref x1)] [] M 0 0
  refine kz_aload_n (pc := 13) 0 (v := .ref x0) (i := 0) rfl rfl rfl dX8_takeWord_13 ?_
  obtain ⟨fs1, v2, hM, hv, h⟩ := h
  refine kz_getf (pc := 14) (k := 4) kcX8 hM hv (by decide) kw_181 dX8_takeWord_14 ?_
  refine kz_aload_n (pc := 17) 1 (v := .ref x1) (i := 1) rfl rfl rfl dX8_takeWord_17 ?_
  obtain ⟨fs3, v4, hM, hv, h⟩ := h
  refine kz_getf (pc := 18) (k := 1) kcX1 hM hv (by decide) kw_53 dX8_takeWord_18 ?_
  refine kz_icmp_ge (pc := 21) (tgt := 70) (by decide) dX8_takeWord_21 (fun hb => ?_) (fun hb => ?_)
  · replace h := h.1 hb
    refine kz_sub [0] rfl ?_
    exact h
  · replace h := h.2 hb
    refine kz_aload_n (pc := 24) 1 (v := .ref x1) (i := 1) rfl rfl rfl dX8_takeWord_24 ?_
    refine kz_aload_n (pc := 25) 0 (v := .ref x0) (i := 0) rfl rfl rfl dX8_takeWord_25 ?_
    obtain ⟨fs5, v6, hM, hv, h⟩ := h
    refine kz_getf (pc := 26) (k := 4) kcX8 hM hv (by decide) kw_181 dX8_takeWord_26 ?_
    obtain ⟨⟨fs30, he⟩, h⟩ := h
    refine kz_callV (pc := 29) (μ' := mX1_signAt) (ci := 1) (q := (RX1, TX1, 2)) (b := x1) (d' := d + 0) (mc' := 0) (ms' := 0) (As := [.int v6]) (st := []) (c := 0) (sl := 0) kmX1_signAt kw_334 (by omega) rfl (Nat.le_of_ble_eq_true rfl) he rfl rfl (Nat.le_refl _) (Nat.le_refl _) dX8_takeWord_29 (fun E M9 hx => kz_Tout rfl (Nat.le_refl _) (Nat.le_refl _) hx) (kz_Cmono (fun v M7 h => ?_) (fun _ _ h => h) h)
    obtain ⟨r8, rfl, h⟩ := h
    show kz_Z G (d + 1) 0 0 mX8_takeWord Qr Qx 32 [(0, .ref x0), (1, .ref x1)] [.int r8] M7 0 0
    refine kz_callSN (pc := 32) (μ' := mX11_isLetter) (d' := d + 0) (mc' := 0) (ms' := 0) (As := [.int r8]) (st := []) (c := 0) (sl := 0) kmX11_isLetter kw_341 (by omega) rfl (Nat.le_of_ble_eq_true rfl) (Nat.le_refl _) (Nat.le_refl _) dX8_takeWord_32 (fun E M9 hx => kz_Tout rfl (Nat.le_refl _) (Nat.le_refl _) hx) (kz_Cmono (fun v M10 h => ?_) (fun _ _ h => h) h)
    obtain ⟨r11, rfl, h⟩ := h
    show kz_Z G (d + 1) 0 0 mX8_takeWord Qr Qx 35 [(0, .ref x0), (1, .ref x1)] [.int r11] M10 0 0
    refine kz_if_eq (pc := 35) (tgt := 70) (by decide) dX8_takeWord_35 (fun hb => ?_) (fun hb => ?_)
    · replace h := h.1 hb
      refine kz_sub [0] rfl ?_
      exact h
    · replace h := h.2 hb
      refine kz_aload_n (pc := 38) 0 (v := .ref x0) (i := 0) rfl rfl rfl dX8_takeWord_38 ?_
      refine kz_aload_n (pc := 39) 0 (v := .ref x0) (i := 0) rfl rfl rfl dX8_takeWord_39 ?_
      obtain ⟨fs13, v14, hM, hv, h⟩ := h
      refine kz_getf (pc := 40) (k := 5) kcX8 hM hv (by decide) kw_182 dX8_takeWord_40 ?_
      refine kz_aload_n (pc := 43) 1 (v := .ref x1) (i := 1) rfl rfl rfl dX8_takeWord_43 ?_
      refine kz_aload_n (pc := 44) 0 (v := .ref x0) (i := 0) rfl rfl rfl dX8_takeWord_44 ?_
      obtain ⟨fs15, v16, hM, hv, h⟩ := h
      refine kz_getf (pc := 45) (k := 4) kcX8 hM hv (by decide) kw_181 dX8_takeWord_45 ?_
      obtain ⟨⟨fs28, he⟩, h⟩ := h
      refine kz_callV (pc := 48) (μ' := mX1_signAt) (ci := 1) (q := (RX1, TX1, 2)) (b := x1) (d' := d + 0) (mc' := 0) (ms' := 0) (As := [.int v16]) (st := [.long v14, .ref x0]) (c := 0) (sl := 0) kmX1_signAt kw_334 (by omega) rfl (Nat.le_of_ble_eq_true rfl) he rfl rfl (Nat.le_refl _) (Nat.le_refl _) dX8_takeWord_48 (fun E M9 hx => kz_Tout rfl (Nat.le_refl _) (Nat.le_refl _) hx) (kz_Cmono (fun v M17 h => ?_) (fun _ _ h => h) h)
      obtain ⟨r18, rfl, h⟩ := h
      show kz_Z G (d + 1) 0 0 mX8_takeWord Qr Qx 51 [(0, .ref x0), (1, .ref x1)] [.int r18, .long v14, .ref x0] M17 0 0
      refine kz_callSN (pc := 51) (μ' := mX11_withLetter) (d' := d + 0) (mc' := 0) (ms' := 0) (As := [.long v14, .int r18]) (st := [.ref x0]) (c := 0) (sl := 0) kmX11_withLetter kw_348 (by omega) rfl (Nat.le_of_ble_eq_true rfl) (Nat.le_refl _) (Nat.le_refl _) dX8_takeWord_51 (fun E M9 hx => kz_Tout rfl (Nat.le_refl _) (Nat.le_refl _) hx) (kz_Cmono (fun v M20 h => ?_) (fun _ _ h => h) h)
      obtain ⟨r21, rfl, h⟩ := h
      show kz_Z G (d + 1) 0 0 mX8_takeWord Qr Qx 54 [(0, .ref x0), (1, .ref x1)] [.long r21, .ref x0] M20 0 0
      obtain ⟨fs23, hM, hlen, h⟩ := h
      refine kz_putf (pc := 54) (k := 5) kcX8 hM (by decide) hlen kw_182 rfl rfl rfl dX8_takeWord_54 ?_
      refine kz_aload_n (pc := 57) 0 (v := .ref x0) (i := 0) rfl rfl rfl dX8_takeWord_57 ?_
      refine kz_dup (pc := 58) rfl dX8_takeWord_58 ?_
      obtain ⟨fs24, v25, hM, hv, h⟩ := h
      refine kz_getf (pc := 59) (k := 4) kcX8 hM hv (by decide) kw_181 dX8_takeWord_59 ?_
      refine kz_iconst (pc := 62) (v := 1) (by decide) dX8_takeWord_62 ?_
      refine kz_iadd (pc := 63) dX8_takeWord_63 ?_
      obtain ⟨fs26, hM, hlen, h⟩ := h
      refine kz_putf (pc := 64) (k := 4) kcX8 hM (by decide) hlen kw_181 rfl rfl rfl dX8_takeWord_64 ?_
      refine kz_goto (pc := 67) (tgt := 13) (by decide) dX8_takeWord_67 ?_
      exact h
theorem rX8_takeWord_70 {G : kz_G} {d : Nat} {Qr : Option Value → kz_M → Prop} {Qx : String → kz_M → Prop} {x0 : Nat}  {M : kz_M} (h : ∃ fs1 v2, (M).1 x0 = some (.inl (7, fs1)) ∧ fs1[4]? = some (.int v2) ∧ (∃ fs3 v4, (M).1 x0 = some (.inl (7, fs3)) ∧ fs3[3]? = some (.int v4) ∧ (((v2 - v4) ≤ (12 : Int32) → ∃ fs5 v6, (M).1 x0 = some (.inl (7, fs5)) ∧ fs5[5]? = some (.long v6) ∧ (∃ fs7, (M).1 x0 = some (.inl (7, fs7)) ∧ 5 < fs7.length ∧ (∃ fs8, ((kz_up M x0 (.inl (7, fs7.set 5 (.long v6))))).1 x0 = some (.inl (7, fs8)) ∧ 2 < fs8.length ∧ (Qr none (kz_up (kz_up M x0 (.inl (7, fs7.set 5 (.long v6)))) x0 (.inl (7, fs8.set 2 (.int 1)))))))) ∧ (¬ (v2 - v4) ≤ (12 : Int32) → ∃ fs9, (M).1 x0 = some (.inl (7, fs9)) ∧ 5 < fs9.length ∧ (∃ fs10, ((kz_up M x0 (.inl (7, fs9.set 5 (.long 0))))).1 x0 = some (.inl (7, fs10)) ∧ 2 < fs10.length ∧ (Qr none (kz_up (kz_up M x0 (.inl (7, fs9.set 5 (.long 0)))) x0 (.inl (7, fs10.set 2 (.int 1)))))))))) : zX8_takeWord_70 G d Qr Qx x0  M := by
  show kz_Z G (d + 1) 0 0 mX8_takeWord Qr Qx 70 [(0, .ref x0)] [] M 0 0
  refine kz_aload_n (pc := 70) 0 (v := .ref x0) (i := 0) rfl rfl rfl dX8_takeWord_70 ?_
  refine kz_aload_n (pc := 71) 0 (v := .ref x0) (i := 0) rfl rfl rfl dX8_takeWord_71 ?_
  obtain ⟨fs1, v2, hM, hv, h⟩ := h
  refine kz_getf (pc := 72) (k := 4) kcX8 hM hv (by decide) kw_181 dX8_takeWord_72 ?_
  refine kz_aload_n (pc := 75) 0 (v := .ref x0) (i := 0) rfl rfl rfl dX8_takeWord_75 ?_
  obtain ⟨fs3, v4, hM, hv, h⟩ := h
  refine kz_getf (pc := 76) (k := 3) kcX8 hM hv (by decide) kw_180 dX8_takeWord_76 ?_
  refine kz_isub (pc := 79) dX8_takeWord_79 ?_
  refine kz_bipush (pc := 80) (v := 12) (by decide) dX8_takeWord_80 ?_
  refine kz_icmp_le (pc := 82) (tgt := 89) (by decide) dX8_takeWord_82 (fun hb => ?_) (fun hb => ?_)
  · replace h := h.1 hb
    refine kz_aload_n (pc := 89) 0 (v := .ref x0) (i := 0) rfl rfl rfl dX8_takeWord_89 ?_
    obtain ⟨fs5, v6, hM, hv, h⟩ := h
    refine kz_getf (pc := 90) (k := 5) kcX8 hM hv (by decide) kw_182 dX8_takeWord_90 ?_
    obtain ⟨fs7, hM, hlen, h⟩ := h
    refine kz_putf (pc := 93) (k := 5) kcX8 hM (by decide) hlen kw_182 rfl rfl rfl dX8_takeWord_93 ?_
    refine kz_aload_n (pc := 96) 0 (v := .ref x0) (i := 0) rfl rfl rfl dX8_takeWord_96 ?_
    refine kz_iconst (pc := 97) (v := 1) (by decide) dX8_takeWord_97 ?_
    obtain ⟨fs8, hM, hlen, h⟩ := h
    refine kz_putf (pc := 98) (k := 2) kcX8 hM (by decide) hlen kw_179 rfl rfl rfl dX8_takeWord_98 ?_
    exact kz_vret (pc := 101) rfl (Nat.le_refl _) (Nat.le_refl _) dX8_takeWord_101 h
  · replace h := h.2 hb
    refine kz_lconst (pc := 85) (v := 0) (by decide) dX8_takeWord_85 ?_
    refine kz_goto (pc := 86) (tgt := 93) (by decide) dX8_takeWord_86 ?_
    obtain ⟨fs9, hM, hlen, h⟩ := h
    refine kz_putf (pc := 93) (k := 5) kcX8 hM (by decide) hlen kw_182 rfl rfl rfl dX8_takeWord_93 ?_
    refine kz_aload_n (pc := 96) 0 (v := .ref x0) (i := 0) rfl rfl rfl dX8_takeWord_96 ?_
    refine kz_iconst (pc := 97) (v := 1) (by decide) dX8_takeWord_97 ?_
    obtain ⟨fs10, hM, hlen, h⟩ := h
    refine kz_putf (pc := 98) (k := 2) kcX8 hM (by decide) hlen kw_179 rfl rfl rfl dX8_takeWord_98 ?_
    exact kz_vret (pc := 101) rfl (Nat.le_refl _) (Nat.le_refl _) dX8_takeWord_101 h
theorem dX8_takeNumber_0 : decode cX8_takeNumber 0 = .ok (.aload_n 0, 1) := by decide +kernel
theorem dX8_takeNumber_1 : decode cX8_takeNumber 1 = .ok (.aload_n 0, 1) := by decide +kernel
theorem dX8_takeNumber_2 : decode cX8_takeNumber 2 = .ok (.getfield 79, 3) := by decide +kernel
theorem dX8_takeNumber_5 : decode cX8_takeNumber 5 = .ok (.putfield 70, 3) := by decide +kernel
theorem dX8_takeNumber_8 : decode cX8_takeNumber 8 = .ok (.aload_n 0, 1) := by decide +kernel
theorem dX8_takeNumber_9 : decode cX8_takeNumber 9 = .ok (.iconst 0, 1) := by decide +kernel
theorem dX8_takeNumber_10 : decode cX8_takeNumber 10 = .ok (.putfield 89, 3) := by decide +kernel
theorem dX8_takeNumber_13 : decode cX8_takeNumber 13 = .ok (.aload_n 0, 1) := by decide +kernel
theorem dX8_takeNumber_14 : decode cX8_takeNumber 14 = .ok (.getfield 70, 3) := by decide +kernel
theorem dX8_takeNumber_17 : decode cX8_takeNumber 17 = .ok (.aload_n 1, 1) := by decide +kernel
theorem dX8_takeNumber_18 : decode cX8_takeNumber 18 = .ok (.getfield 33, 3) := by decide +kernel
theorem dX8_takeNumber_21 : decode cX8_takeNumber 21 = .ok (.if_icmp .ge 53, 3) := by decide +kernel
theorem dX8_takeNumber_24 : decode cX8_takeNumber 24 = .ok (.aload_n 1, 1) := by decide +kernel
theorem dX8_takeNumber_25 : decode cX8_takeNumber 25 = .ok (.aload_n 0, 1) := by decide +kernel
theorem dX8_takeNumber_26 : decode cX8_takeNumber 26 = .ok (.getfield 70, 3) := by decide +kernel
theorem dX8_takeNumber_29 : decode cX8_takeNumber 29 = .ok (.invokevirtual 129, 3) := by decide +kernel
theorem dX8_takeNumber_32 : decode cX8_takeNumber 32 = .ok (.invokestatic 142, 3) := by decide +kernel
theorem dX8_takeNumber_35 : decode cX8_takeNumber 35 = .ok (.ifCond .eq 39, 3) := by decide +kernel
theorem dX8_takeNumber_38 : decode cX8_takeNumber 38 = .ok (.aload_n 0, 1) := by decide +kernel
theorem dX8_takeNumber_39 : decode cX8_takeNumber 39 = .ok (.bipush 10, 2) := by decide +kernel
theorem dX8_takeNumber_41 : decode cX8_takeNumber 41 = .ok (.aload_n 0, 1) := by decide +kernel
theorem dX8_takeNumber_42 : decode cX8_takeNumber 42 = .ok (.getfield 89, 3) := by decide +kernel
theorem dX8_takeNumber_45 : decode cX8_takeNumber 45 = .ok (.imul, 1) := by decide +kernel
theorem dX8_takeNumber_46 : decode cX8_takeNumber 46 = .ok (.aload_n 1, 1) := by decide +kernel
theorem dX8_takeNumber_47 : decode cX8_takeNumber 47 = .ok (.aload_n 0, 1) := by decide +kernel
theorem dX8_takeNumber_48 : decode cX8_takeNumber 48 = .ok (.getfield 70, 3) := by decide +kernel
theorem dX8_takeNumber_51 : decode cX8_takeNumber 51 = .ok (.invokevirtual 129, 3) := by decide +kernel
theorem dX8_takeNumber_54 : decode cX8_takeNumber 54 = .ok (.iadd, 1) := by decide +kernel
theorem dX8_takeNumber_55 : decode cX8_takeNumber 55 = .ok (.bipush 48, 2) := by decide +kernel
theorem dX8_takeNumber_57 : decode cX8_takeNumber 57 = .ok (.isub, 1) := by decide +kernel
theorem dX8_takeNumber_58 : decode cX8_takeNumber 58 = .ok (.putfield 89, 3) := by decide +kernel
theorem dX8_takeNumber_61 : decode cX8_takeNumber 61 = .ok (.aload_n 0, 1) := by decide +kernel
theorem dX8_takeNumber_62 : decode cX8_takeNumber 62 = .ok (.dup, 1) := by decide +kernel
theorem dX8_takeNumber_63 : decode cX8_takeNumber 63 = .ok (.getfield 70, 3) := by decide +kernel
theorem dX8_takeNumber_66 : decode cX8_takeNumber 66 = .ok (.iconst 1, 1) := by decide +kernel
theorem dX8_takeNumber_67 : decode cX8_takeNumber 67 = .ok (.iadd, 1) := by decide +kernel
theorem dX8_takeNumber_68 : decode cX8_takeNumber 68 = .ok (.putfield 70, 3) := by decide +kernel
theorem dX8_takeNumber_71 : decode cX8_takeNumber 71 = .ok (.goto (-58), 3) := by decide +kernel
theorem dX8_takeNumber_74 : decode cX8_takeNumber 74 = .ok (.aload_n 0, 1) := by decide +kernel
theorem dX8_takeNumber_75 : decode cX8_takeNumber 75 = .ok (.aload_n 0, 1) := by decide +kernel
theorem dX8_takeNumber_76 : decode cX8_takeNumber 76 = .ok (.getfield 70, 3) := by decide +kernel
theorem dX8_takeNumber_79 : decode cX8_takeNumber 79 = .ok (.aload_n 0, 1) := by decide +kernel
theorem dX8_takeNumber_80 : decode cX8_takeNumber 80 = .ok (.getfield 79, 3) := by decide +kernel
theorem dX8_takeNumber_83 : decode cX8_takeNumber 83 = .ok (.isub, 1) := by decide +kernel
theorem dX8_takeNumber_84 : decode cX8_takeNumber 84 = .ok (.iconst 5, 1) := by decide +kernel
theorem dX8_takeNumber_85 : decode cX8_takeNumber 85 = .ok (.if_icmp .le 7, 3) := by decide +kernel
theorem dX8_takeNumber_88 : decode cX8_takeNumber 88 = .ok (.iconst 4, 1) := by decide +kernel
theorem dX8_takeNumber_89 : decode cX8_takeNumber 89 = .ok (.goto 4, 3) := by decide +kernel
theorem dX8_takeNumber_92 : decode cX8_takeNumber 92 = .ok (.iconst 2, 1) := by decide +kernel
theorem dX8_takeNumber_93 : decode cX8_takeNumber 93 = .ok (.putfield 43, 3) := by decide +kernel
theorem dX8_takeNumber_96 : decode cX8_takeNumber 96 = .ok (.return_, 1) := by decide +kernel
def zX8_takeNumber_13 (G : kz_G) (d : Nat) (Qr : Option Value → kz_M → Prop) (Qx : String → kz_M → Prop) (x0 : Nat) (x1 : Nat)  (M : kz_M) : Prop := kz_Z G (d + 1) 0 0 mX8_takeNumber Qr Qx 13 [(0, .ref x0), (1, .ref x1)] [] M 0 0
def zX8_takeNumber_74 (G : kz_G) (d : Nat) (Qr : Option Value → kz_M → Prop) (Qx : String → kz_M → Prop) (x0 : Nat)  (M : kz_M) : Prop := kz_Z G (d + 1) 0 0 mX8_takeNumber Qr Qx 74 [(0, .ref x0)] [] M 0 0
theorem rX8_takeNumber_0 {G : kz_G} {d : Nat} {Qr : Option Value → kz_M → Prop} {Qx : String → kz_M → Prop} {a0 : Nat} {p1 : Nat}  {M : kz_M} (h : ∃ fs1 v2, (M).1 a0 = some (.inl (7, fs1)) ∧ fs1[3]? = some (.int v2) ∧ (∃ fs3, (M).1 a0 = some (.inl (7, fs3)) ∧ 4 < fs3.length ∧ (∃ fs4, ((kz_up M a0 (.inl (7, fs3.set 4 (.int v2))))).1 a0 = some (.inl (7, fs4)) ∧ 6 < fs4.length ∧ (zX8_takeNumber_13 G d Qr Qx a0 p1 (kz_up (kz_up M a0 (.inl (7, fs3.set 4 (.int v2)))) a0 (.inl (7, fs4.set 6 (.int 0)))))))) : kz_C G (d + 1) 0 0 mX8_takeNumber [.ref a0, .ref p1] M Qr Qx := by
  refine kz_enter (n := 1) kmX8_takeNumber.1 (Nat.le_of_ble_eq_true rfl) (ls := [(0, .ref a0), (1, .ref p1)]) rfl ?_
  refine kz_aload_n (pc := 0) 0 (v := .ref a0) (i := 0) rfl rfl rfl dX8_takeNumber_0 ?_
  refine kz_aload_n (pc := 1) 0 (v := .ref a0) (i := 0) rfl rfl rfl dX8_takeNumber_1 ?_
  obtain ⟨fs1, v2, hM, hv, h⟩ := h
  refine kz_getf (pc := 2) (k := 3) kcX8 hM hv (by decide) kw_180 dX8_takeNumber_2 ?_
  obtain ⟨fs3, hM, hlen, h⟩ := h
  refine kz_putf (pc := 5) (k := 4) kcX8 hM (by decide) hlen kw_181 rfl rfl rfl dX8_takeNumber_5 ?_
  refine kz_aload_n (pc := 8) 0 (v := .ref a0) (i := 0) rfl rfl rfl dX8_takeNumber_8 ?_
  refine kz_iconst (pc := 9) (v := 0) (by decide) dX8_takeNumber_9 ?_
  obtain ⟨fs4, hM, hlen, h⟩ := h
  refine kz_putf (pc := 10) (k := 6) kcX8 hM (by decide) hlen kw_183 rfl rfl rfl dX8_takeNumber_10 ?_
  exact h
theorem rX8_takeNumber_13 {G : kz_G} {d : Nat} {Qr : Option Value → kz_M → Prop} {Qx : String → kz_M → Prop} {x0 : Nat} {x1 : Nat}  {M : kz_M} (h : ∃ fs1 v2, (M).1 x0 = some (.inl (7, fs1)) ∧ fs1[4]? = some (.int v2) ∧ (∃ fs3 v4, (M).1 x1 = some (.inl (1, fs3)) ∧ fs3[1]? = some (.int v4) ∧ ((v4 ≤ v2 → zX8_takeNumber_74 G d Qr Qx x0 M) ∧ (¬ v4 ≤ v2 → ∃ fs5 v6, (M).1 x0 = some (.inl (7, fs5)) ∧ fs5[4]? = some (.int v6) ∧ ((∃ fs26, (M).1 x1 = some (.inl (1, fs26))) ∧ kz_C G (d + 0) 0 0 mX1_signAt [.ref x1, .int v6] M (fun v M7 => ∃ r8 : Int32, v = some (.int r8) ∧ (kz_C G (d + 0) 0 0 mX11_isDigit [.int r8] M7 (fun v M10 => ∃ r11 : Int32, v = some (.int r11) ∧ ((r11 = 0 → zX8_takeNumber_74 G d Qr Qx x0 M10) ∧ (¬ r11 = 0 → ∃ fs13 v14, (M10).1 x0 = some (.inl (7, fs13)) ∧ fs13[6]? = some (.int v14) ∧ (∃ fs15 v16, (M10).1 x0 = some (.inl (7, fs15)) ∧ fs15[4]? = some (.int v16) ∧ ((∃ fs24, (M10).1 x1 = some (.inl (1, fs24))) ∧ kz_C G (d + 0) 0 0 mX1_signAt [.ref x1, .int v16] M10 (fun v M17 => ∃ r18 : Int32, v = some (.int r18) ∧ (∃ fs20, (M17).1 x0 = some (.inl (7, fs20)) ∧ 6 < fs20.length ∧ (∃ fs21 v22, ((kz_up M17 x0 (.inl (7, fs20.set 6 (.int (((10 * v14) + r18) - 48)))))).1 x0 = some (.inl (7, fs21)) ∧ fs21[4]? = some (.int v22) ∧ (∃ fs23, ((kz_up M17 x0 (.inl (7, fs20.set 6 (.int (((10 * v14) + r18) - 48)))))).1 x0 = some (.inl (7, fs23)) ∧ 4 < fs23.length ∧ (zX8_takeNumber_13 G d Qr Qx x0 x1 (kz_up (kz_up M17 x0 (.inl (7, fs20.set 6 (.int (((10 * v14) + r18) - 48))))) x0 (.inl (7, fs23.set 4 (.int (v22 + 1)))))))))) Qx))))) Qx)) Qx))))) : zX8_takeNumber_13 G d Qr Qx x0 x1  M := by
  show kz_Z G (d + 1) 0 0 mX8_takeNumber Qr Qx 13 [(0, .ref x0), (1, .ref x1)] [] M 0 0
  refine kz_aload_n (pc := 13) 0 (v := .ref x0) (i := 0) rfl rfl rfl dX8_takeNumber_13 ?_
  obtain ⟨fs1, v2, hM, hv, h⟩ := h
  refine kz_getf (pc := 14) (k := 4) kcX8 hM hv (by decide) kw_181 dX8_takeNumber_14 ?_
  refine kz_aload_n (pc := 17) 1 (v := .ref x1) (i := 1) rfl rfl rfl dX8_takeNumber_17 ?_
  obtain ⟨fs3, v4, hM, hv, h⟩ := h
  refine kz_getf (pc := 18) (k := 1) kcX1 hM hv (by decide) kw_53 dX8_takeNumber_18 ?_
  refine kz_icmp_ge (pc := 21) (tgt := 74) (by decide) dX8_takeNumber_21 (fun hb => ?_) (fun hb => ?_)
  · replace h := h.1 hb
    refine kz_sub [0] rfl ?_
    exact h
  · replace h := h.2 hb
    refine kz_aload_n (pc := 24) 1 (v := .ref x1) (i := 1) rfl rfl rfl dX8_takeNumber_24 ?_
    refine kz_aload_n (pc := 25) 0 (v := .ref x0) (i := 0) rfl rfl rfl dX8_takeNumber_25 ?_
    obtain ⟨fs5, v6, hM, hv, h⟩ := h
    refine kz_getf (pc := 26) (k := 4) kcX8 hM hv (by decide) kw_181 dX8_takeNumber_26 ?_
    obtain ⟨⟨fs26, he⟩, h⟩ := h
    refine kz_callV (pc := 29) (μ' := mX1_signAt) (ci := 1) (q := (RX1, TX1, 2)) (b := x1) (d' := d + 0) (mc' := 0) (ms' := 0) (As := [.int v6]) (st := []) (c := 0) (sl := 0) kmX1_signAt kw_334 (by omega) rfl (Nat.le_of_ble_eq_true rfl) he rfl rfl (Nat.le_refl _) (Nat.le_refl _) dX8_takeNumber_29 (fun E M9 hx => kz_Tout rfl (Nat.le_refl _) (Nat.le_refl _) hx) (kz_Cmono (fun v M7 h => ?_) (fun _ _ h => h) h)
    obtain ⟨r8, rfl, h⟩ := h
    show kz_Z G (d + 1) 0 0 mX8_takeNumber Qr Qx 32 [(0, .ref x0), (1, .ref x1)] [.int r8] M7 0 0
    refine kz_callSN (pc := 32) (μ' := mX11_isDigit) (d' := d + 0) (mc' := 0) (ms' := 0) (As := [.int r8]) (st := []) (c := 0) (sl := 0) kmX11_isDigit kw_349 (by omega) rfl (Nat.le_of_ble_eq_true rfl) (Nat.le_refl _) (Nat.le_refl _) dX8_takeNumber_32 (fun E M9 hx => kz_Tout rfl (Nat.le_refl _) (Nat.le_refl _) hx) (kz_Cmono (fun v M10 h => ?_) (fun _ _ h => h) h)
    obtain ⟨r11, rfl, h⟩ := h
    show kz_Z G (d + 1) 0 0 mX8_takeNumber Qr Qx 35 [(0, .ref x0), (1, .ref x1)] [.int r11] M10 0 0
    refine kz_if_eq (pc := 35) (tgt := 74) (by decide) dX8_takeNumber_35 (fun hb => ?_) (fun hb => ?_)
    · replace h := h.1 hb
      refine kz_sub [0] rfl ?_
      exact h
    · replace h := h.2 hb
      refine kz_aload_n (pc := 38) 0 (v := .ref x0) (i := 0) rfl rfl rfl dX8_takeNumber_38 ?_
      refine kz_bipush (pc := 39) (v := 10) (by decide) dX8_takeNumber_39 ?_
      refine kz_aload_n (pc := 41) 0 (v := .ref x0) (i := 0) rfl rfl rfl dX8_takeNumber_41 ?_
      obtain ⟨fs13, v14, hM, hv, h⟩ := h
      refine kz_getf (pc := 42) (k := 6) kcX8 hM hv (by decide) kw_183 dX8_takeNumber_42 ?_
      refine kz_imul (pc := 45) dX8_takeNumber_45 ?_
      refine kz_aload_n (pc := 46) 1 (v := .ref x1) (i := 1) rfl rfl rfl dX8_takeNumber_46 ?_
      refine kz_aload_n (pc := 47) 0 (v := .ref x0) (i := 0) rfl rfl rfl dX8_takeNumber_47 ?_
      obtain ⟨fs15, v16, hM, hv, h⟩ := h
      refine kz_getf (pc := 48) (k := 4) kcX8 hM hv (by decide) kw_181 dX8_takeNumber_48 ?_
      obtain ⟨⟨fs24, he⟩, h⟩ := h
      refine kz_callV (pc := 51) (μ' := mX1_signAt) (ci := 1) (q := (RX1, TX1, 2)) (b := x1) (d' := d + 0) (mc' := 0) (ms' := 0) (As := [.int v16]) (st := [.int (10 * v14), .ref x0]) (c := 0) (sl := 0) kmX1_signAt kw_334 (by omega) rfl (Nat.le_of_ble_eq_true rfl) he rfl rfl (Nat.le_refl _) (Nat.le_refl _) dX8_takeNumber_51 (fun E M9 hx => kz_Tout rfl (Nat.le_refl _) (Nat.le_refl _) hx) (kz_Cmono (fun v M17 h => ?_) (fun _ _ h => h) h)
      obtain ⟨r18, rfl, h⟩ := h
      show kz_Z G (d + 1) 0 0 mX8_takeNumber Qr Qx 54 [(0, .ref x0), (1, .ref x1)] [.int r18, .int (10 * v14), .ref x0] M17 0 0
      refine kz_iadd (pc := 54) dX8_takeNumber_54 ?_
      refine kz_bipush (pc := 55) (v := 48) (by decide) dX8_takeNumber_55 ?_
      refine kz_isub (pc := 57) dX8_takeNumber_57 ?_
      obtain ⟨fs20, hM, hlen, h⟩ := h
      refine kz_putf (pc := 58) (k := 6) kcX8 hM (by decide) hlen kw_183 rfl rfl rfl dX8_takeNumber_58 ?_
      refine kz_aload_n (pc := 61) 0 (v := .ref x0) (i := 0) rfl rfl rfl dX8_takeNumber_61 ?_
      refine kz_dup (pc := 62) rfl dX8_takeNumber_62 ?_
      obtain ⟨fs21, v22, hM, hv, h⟩ := h
      refine kz_getf (pc := 63) (k := 4) kcX8 hM hv (by decide) kw_181 dX8_takeNumber_63 ?_
      refine kz_iconst (pc := 66) (v := 1) (by decide) dX8_takeNumber_66 ?_
      refine kz_iadd (pc := 67) dX8_takeNumber_67 ?_
      obtain ⟨fs23, hM, hlen, h⟩ := h
      refine kz_putf (pc := 68) (k := 4) kcX8 hM (by decide) hlen kw_181 rfl rfl rfl dX8_takeNumber_68 ?_
      refine kz_goto (pc := 71) (tgt := 13) (by decide) dX8_takeNumber_71 ?_
      exact h
theorem rX8_takeNumber_74 {G : kz_G} {d : Nat} {Qr : Option Value → kz_M → Prop} {Qx : String → kz_M → Prop} {x0 : Nat}  {M : kz_M} (h : ∃ fs1 v2, (M).1 x0 = some (.inl (7, fs1)) ∧ fs1[4]? = some (.int v2) ∧ (∃ fs3 v4, (M).1 x0 = some (.inl (7, fs3)) ∧ fs3[3]? = some (.int v4) ∧ (((v2 - v4) ≤ (5 : Int32) → ∃ fs5, (M).1 x0 = some (.inl (7, fs5)) ∧ 2 < fs5.length ∧ (Qr none (kz_up M x0 (.inl (7, fs5.set 2 (.int 2)))))) ∧ (¬ (v2 - v4) ≤ (5 : Int32) → ∃ fs6, (M).1 x0 = some (.inl (7, fs6)) ∧ 2 < fs6.length ∧ (Qr none (kz_up M x0 (.inl (7, fs6.set 2 (.int 4))))))))) : zX8_takeNumber_74 G d Qr Qx x0  M := by
  show kz_Z G (d + 1) 0 0 mX8_takeNumber Qr Qx 74 [(0, .ref x0)] [] M 0 0
  refine kz_aload_n (pc := 74) 0 (v := .ref x0) (i := 0) rfl rfl rfl dX8_takeNumber_74 ?_
  refine kz_aload_n (pc := 75) 0 (v := .ref x0) (i := 0) rfl rfl rfl dX8_takeNumber_75 ?_
  obtain ⟨fs1, v2, hM, hv, h⟩ := h
  refine kz_getf (pc := 76) (k := 4) kcX8 hM hv (by decide) kw_181 dX8_takeNumber_76 ?_
  refine kz_aload_n (pc := 79) 0 (v := .ref x0) (i := 0) rfl rfl rfl dX8_takeNumber_79 ?_
  obtain ⟨fs3, v4, hM, hv, h⟩ := h
  refine kz_getf (pc := 80) (k := 3) kcX8 hM hv (by decide) kw_180 dX8_takeNumber_80 ?_
  refine kz_isub (pc := 83) dX8_takeNumber_83 ?_
  refine kz_iconst (pc := 84) (v := 5) (by decide) dX8_takeNumber_84 ?_
  refine kz_icmp_le (pc := 85) (tgt := 92) (by decide) dX8_takeNumber_85 (fun hb => ?_) (fun hb => ?_)
  · replace h := h.1 hb
    refine kz_iconst (pc := 92) (v := 2) (by decide) dX8_takeNumber_92 ?_
    obtain ⟨fs5, hM, hlen, h⟩ := h
    refine kz_putf (pc := 93) (k := 2) kcX8 hM (by decide) hlen kw_179 rfl rfl rfl dX8_takeNumber_93 ?_
    exact kz_vret (pc := 96) rfl (Nat.le_refl _) (Nat.le_refl _) dX8_takeNumber_96 h
  · replace h := h.2 hb
    refine kz_iconst (pc := 88) (v := 4) (by decide) dX8_takeNumber_88 ?_
    refine kz_goto (pc := 89) (tgt := 93) (by decide) dX8_takeNumber_89 ?_
    obtain ⟨fs6, hM, hlen, h⟩ := h
    refine kz_putf (pc := 93) (k := 2) kcX8 hM (by decide) hlen kw_179 rfl rfl rfl dX8_takeNumber_93 ?_
    exact kz_vret (pc := 96) rfl (Nat.le_refl _) (Nat.le_refl _) dX8_takeNumber_96 h
