/-! The rules of part 62.rlaw1: printed by program (wip/p51/rules2.py) -/
theorem dX12_init_0 : decode cX12_init 0 = .ok (.aload_n 0, 1) := by decide +kernel
theorem dX12_init_1 : decode cX12_init 1 = .ok (.invokespecial 1, 3) := by decide +kernel
theorem dX12_init_4 : decode cX12_init 4 = .ok (.aload_n 0, 1) := by decide +kernel
theorem dX12_init_5 : decode cX12_init 5 = .ok (.bipush 20, 2) := by decide +kernel
theorem dX12_init_7 : decode cX12_init 7 = .ok (.newarray .int, 2) := by decide +kernel
theorem dX12_init_9 : decode cX12_init 9 = .ok (.putfield 7, 3) := by decide +kernel
theorem dX12_init_12 : decode cX12_init 12 = .ok (.return_, 1) := by decide +kernel
theorem rX12_init_0 {G : kz_G} {d : Nat} {mc ms : Nat} {Qr : Option Value → kz_M → Prop} {Qx : String → kz_M → Prop} {a0 : Nat}  {M : kz_M} (h : ∃ N1, ¬ (20 : Int32) < 0 ∧ (20 : Int32).toNatClampNeg = N1 ∧ N1 ≤ 60000000 ∧ 0 + 1 ≤ mc ∧ 0 + N1 ≤ ms ∧ (∃ fs3, ((kz_nw M (.inr (.int, N1, .inl (fun _ => 0))))).1 a0 = some (.inl (11, fs3)) ∧ 0 < fs3.length ∧ (Qr none (kz_up (kz_nw M (.inr (.int, N1, .inl (fun _ => 0)))) a0 (.inl (11, fs3.set 0 (.ref ((M).2)))))))) : kz_C G (d + 1) mc ms mX12_init [.ref a0] M Qr Qx := by
  refine kz_enter (n := 0) kmX12_init.1 (Nat.le_of_ble_eq_true rfl) (ls := [(0, .ref a0)]) rfl ?_
  refine kz_aload_n (pc := 0) 0 (v := .ref a0) (i := 0) rfl rfl rfl dX12_init_0 ?_
  refine kz_objInit (pc := 1) kw_1266 kw_43 kw_44 (by omega) (Nat.le_of_ble_eq_true rfl) dX12_init_1 ?_
  refine kz_aload_n (pc := 4) 0 (v := .ref a0) (i := 0) rfl rfl rfl dX12_init_4 ?_
  refine kz_bipush (pc := 5) (v := 20) (by decide) dX12_init_5 ?_
  obtain ⟨N1, hn, hN, hb8, hc2, hs2, h⟩ := h
  refine kz_newaI (pc := 7) N1 kw_98 hn hN hb8 hc2 hs2 dX12_init_7 ?_
  obtain ⟨fs3, hM, hlen, h⟩ := h
  refine kz_putF (pc := 9) (k := 0) kcX12 hM (by decide) hlen rfl rfl kw_1267 rfl rfl rfl dX12_init_9 ?_
  exact kz_vret (pc := 12) rfl hc2 hs2 dX12_init_12 h
theorem dX13_init_0 : decode cX13_init 0 = .ok (.aload_n 0, 1) := by decide +kernel
theorem dX13_init_1 : decode cX13_init 1 = .ok (.invokespecial 1, 3) := by decide +kernel
theorem dX13_init_4 : decode cX13_init 4 = .ok (.aload_n 0, 1) := by decide +kernel
theorem dX13_init_5 : decode cX13_init 5 = .ok (.new 7, 3) := by decide +kernel
theorem dX13_init_8 : decode cX13_init 8 = .ok (.dup, 1) := by decide +kernel
theorem dX13_init_9 : decode cX13_init 9 = .ok (.invokespecial 9, 3) := by decide +kernel
theorem dX13_init_12 : decode cX13_init 12 = .ok (.putfield 10, 3) := by decide +kernel
theorem dX13_init_15 : decode cX13_init 15 = .ok (.return_, 1) := by decide +kernel
theorem rX13_init_0 {G : kz_G} {d : Nat} {mc ms : Nat} {Qr : Option Value → kz_M → Prop} {Qx : String → kz_M → Prop} {a0 : Nat}  {M : kz_M} (h : 0 + 1 ≤ mc ∧ 0 + 3 ≤ ms ∧ (kz_C G (d + 6) 0 0 mJx4a65c_init_da8c8 [.ref ((M).2)] (kz_nw M (.inl (16, [.int 0, .null, .int 0]))) (fun v M2 => v = none ∧ (∃ fs5, (M2).1 a0 = some (.inl (12, fs5)) ∧ 2 < fs5.length ∧ (Qr none (kz_up M2 a0 (.inl (12, fs5.set 2 (.ref ((M).2)))))))) Qx)) : kz_C G (d + 7) mc ms mX13_init [.ref a0] M Qr Qx := by
  refine kz_enter (n := 0) kmX13_init.1 (Nat.le_of_ble_eq_true rfl) (ls := [(0, .ref a0)]) rfl ?_
  refine kz_aload_n (pc := 0) 0 (v := .ref a0) (i := 0) rfl rfl rfl dX13_init_0 ?_
  refine kz_objInit (pc := 1) kw_1248 kw_43 kw_44 (by omega) (Nat.le_of_ble_eq_true rfl) dX13_init_1 ?_
  refine kz_aload_n (pc := 4) 0 (v := .ref a0) (i := 0) rfl rfl rfl dX13_init_4 ?_
  obtain ⟨hc1, hs1, h⟩ := h
  refine kz_newc (pc := 5) kcJx4a65c rfl kw_1249 kw_454 kw_3 hc1 hs1 dX13_init_5 ?_
  refine kz_dup (pc := 8) rfl dX13_init_8 ?_
  refine kz_callI (pc := 9) (μ' := mJx4a65c_init_da8c8) (b := (M).2) (d' := d + 6) (mc' := 0) (ms' := 0) (As := []) (st := [.ref ((M).2), .ref a0]) (c := 0 + 1) (sl := 0 + 3) kmJx4a65c_init_da8c8 kw_1250 (by omega) rfl (Nat.le_of_ble_eq_true rfl) hc1 hs1 dX13_init_9 (fun E M9 hx => kz_Tout rfl hc1 hs1 hx) (kz_Cmono (fun v M2 h => ?_) (fun _ _ h => h) h)
  obtain ⟨rfl, h⟩ := h
  show kz_Z G (d + 7) mc ms mX13_init Qr Qx 12 [(0, .ref a0)] [.ref ((M).2), .ref a0] M2 (0 + 1) (0 + 3)
  obtain ⟨fs5, hM, hlen, h⟩ := h
  refine kz_putF (pc := 12) (k := 2) kcX13 hM (by decide) hlen rfl rfl kw_1253 rfl rfl rfl dX13_init_12 ?_
  exact kz_vret (pc := 15) rfl hc1 hs1 dX13_init_15 h
theorem dL_cell_0 : decode cL_cell 0 = .ok (.iload_n 1, 1) := by decide +kernel
theorem dL_cell_1 : decode cL_cell 1 = .ok (.aload_n 0, 1) := by decide +kernel
theorem dL_cell_2 : decode cL_cell 2 = .ok (.arraylength, 1) := by decide +kernel
theorem dL_cell_3 : decode cL_cell 3 = .ok (.if_icmp .ge 9, 3) := by decide +kernel
theorem dL_cell_6 : decode cL_cell 6 = .ok (.aload_n 0, 1) := by decide +kernel
theorem dL_cell_7 : decode cL_cell 7 = .ok (.iload_n 1, 1) := by decide +kernel
theorem dL_cell_8 : decode cL_cell 8 = .ok (.iaload, 1) := by decide +kernel
theorem dL_cell_9 : decode cL_cell 9 = .ok (.goto 10, 3) := by decide +kernel
theorem dL_cell_12 : decode cL_cell 12 = .ok (.bipush 113, 2) := by decide +kernel
theorem dL_cell_14 : decode cL_cell 14 = .ok (.iload_n 1, 1) := by decide +kernel
theorem dL_cell_15 : decode cL_cell 15 = .ok (.imul, 1) := by decide +kernel
theorem dL_cell_16 : decode cL_cell 16 = .ok (.bipush 67, 2) := by decide +kernel
theorem dL_cell_18 : decode cL_cell 18 = .ok (.iadd, 1) := by decide +kernel
theorem dL_cell_19 : decode cL_cell 19 = .ok (.ireturn, 1) := by decide +kernel
theorem rL_cell_0 {G : kz_G} {d : Nat} {Qr : Option Value → kz_M → Prop} {Qx : String → kz_M → Prop} {p0 : Nat} {p1 : Int32}  {M : kz_M} {N : Nat} {xs : Nat → Int32} (hX : va_X (G.2.2.2 p0) N xs G.2.2.1 G.2.2.1.heap) (hbs : G.2.2.2 p0 < G.2.2.1.heap.size) (h : ((Int32.ofNat N) ≤ p1 → Qr (some (.int ((113 * p1) + 67))) M) ∧ (¬ (Int32.ofNat N) ≤ p1 → vp_in p1 N ∧ (Qr (some (.int (xs (Int32.toNatClampNeg p1)))) M))) : kz_C G d 0 0 mL_cell [.retAddr p0, .int p1] M Qr Qx := by
  refine kz_enter (n := 2) kmL_cell.1 (Nat.le_of_ble_eq_true rfl) (ls := [(0, .retAddr p0), (1, .int p1)]) rfl ?_
  refine kz_iload_n (pc := 0) 1 (i := 1) rfl rfl dL_cell_0 ?_
  refine kz_aload_n (pc := 1) 0 (v := .retAddr p0) (i := 0) rfl rfl rfl dL_cell_1 ?_
  refine kz_slen (pc := 2) hX hbs dL_cell_2 ?_
  refine kz_icmp_ge (pc := 3) (tgt := 12) (by decide) dL_cell_3 (fun hb => ?_) (fun hb => ?_)
  · replace h := h.1 hb
    refine kz_bipush (pc := 12) (v := 113) (by decide) dL_cell_12 ?_
    refine kz_iload_n (pc := 14) 1 (i := 1) rfl rfl dL_cell_14 ?_
    refine kz_imul (pc := 15) dL_cell_15 ?_
    refine kz_bipush (pc := 16) (v := 67) (by decide) dL_cell_16 ?_
    refine kz_iadd (pc := 18) dL_cell_18 ?_
    exact kz_iret (pc := 19) rfl (Nat.le_refl _) (Nat.le_refl _) dL_cell_19 h
  · replace h := h.2 hb
    refine kz_aload_n (pc := 6) 0 (v := .retAddr p0) (i := 0) rfl rfl rfl dL_cell_6 ?_
    refine kz_iload_n (pc := 7) 1 (i := 1) rfl rfl dL_cell_7 ?_
    obtain ⟨hi, h⟩ := h
    refine kz_sld (pc := 8) hX hbs hi dL_cell_8 ?_
    refine kz_goto (pc := 9) (tgt := 19) (by decide) dL_cell_9 ?_
    exact kz_iret (pc := 19) rfl (Nat.le_refl _) (Nat.le_refl _) dL_cell_19 h
theorem dL_bits_0 : decode cL_bits 0 = .ok (.iload_n 0, 1) := by decide +kernel
theorem dL_bits_1 : decode cL_bits 1 = .ok (.iload_n 1, 1) := by decide +kernel
theorem dL_bits_2 : decode cL_bits 2 = .ok (.iushr, 1) := by decide +kernel
theorem dL_bits_3 : decode cL_bits 3 = .ok (.iconst 1, 1) := by decide +kernel
theorem dL_bits_4 : decode cL_bits 4 = .ok (.iload_n 2, 1) := by decide +kernel
theorem dL_bits_5 : decode cL_bits 5 = .ok (.ishl, 1) := by decide +kernel
theorem dL_bits_6 : decode cL_bits 6 = .ok (.iconst 1, 1) := by decide +kernel
theorem dL_bits_7 : decode cL_bits 7 = .ok (.isub, 1) := by decide +kernel
theorem dL_bits_8 : decode cL_bits 8 = .ok (.iand, 1) := by decide +kernel
theorem dL_bits_9 : decode cL_bits 9 = .ok (.ireturn, 1) := by decide +kernel
theorem rL_bits_0 {G : kz_G} {d : Nat} {Qr : Option Value → kz_M → Prop} {Qx : String → kz_M → Prop} {p0 : Int32} {p1 : Int32} {p2 : Int32}  {M : kz_M} (h : Qr (some (.int (((Int32.toUInt32 p0 >>> (Int32.toUInt32 p1 &&& Int32.toUInt32 31)).toInt32) &&& (((1 : Int32) <<< (p2 &&& 31)) - 1)))) M) : kz_C G d 0 0 mL_bits [.int p0, .int p1, .int p2] M Qr Qx := by
  refine kz_enter (n := 3) kmL_bits.1 (Nat.le_of_ble_eq_true rfl) (ls := [(0, .int p0), (1, .int p1), (2, .int p2)]) rfl ?_
  refine kz_iload_n (pc := 0) 0 (i := 0) rfl rfl dL_bits_0 ?_
  refine kz_iload_n (pc := 1) 1 (i := 1) rfl rfl dL_bits_1 ?_
  refine kz_iushr (pc := 2) dL_bits_2 ?_
  refine kz_iconst (pc := 3) (v := 1) (by decide) dL_bits_3 ?_
  refine kz_iload_n (pc := 4) 2 (i := 2) rfl rfl dL_bits_4 ?_
  refine kz_ishl (pc := 5) dL_bits_5 ?_
  refine kz_iconst (pc := 6) (v := 1) (by decide) dL_bits_6 ?_
  refine kz_isub (pc := 7) dL_bits_7 ?_
  refine kz_iand (pc := 8) dL_bits_8 ?_
  exact kz_iret (pc := 9) rfl (Nat.le_refl _) (Nat.le_refl _) dL_bits_9 h
theorem dL_letters_0 : decode cL_letters 0 = .ok (.iload_n 0, 1) := by decide +kernel
theorem dL_letters_1 : decode cL_letters 1 = .ok (.ifCond .ne 7, 3) := by decide +kernel
theorem dL_letters_4 : decode cL_letters 4 = .ok (.iconst 2, 1) := by decide +kernel
theorem dL_letters_5 : decode cL_letters 5 = .ok (.goto 23, 3) := by decide +kernel
theorem dL_letters_8 : decode cL_letters 8 = .ok (.iload_n 0, 1) := by decide +kernel
theorem dL_letters_9 : decode cL_letters 9 = .ok (.iconst 1, 1) := by decide +kernel
theorem dL_letters_10 : decode cL_letters 10 = .ok (.if_icmp .ne 7, 3) := by decide +kernel
theorem dL_letters_13 : decode cL_letters 13 = .ok (.iconst 3, 1) := by decide +kernel
theorem dL_letters_14 : decode cL_letters 14 = .ok (.goto 14, 3) := by decide +kernel
theorem dL_letters_17 : decode cL_letters 17 = .ok (.iload_n 0, 1) := by decide +kernel
theorem dL_letters_18 : decode cL_letters 18 = .ok (.iconst 2, 1) := by decide +kernel
theorem dL_letters_19 : decode cL_letters 19 = .ok (.if_icmp .ne 7, 3) := by decide +kernel
theorem dL_letters_22 : decode cL_letters 22 = .ok (.iconst 1, 1) := by decide +kernel
theorem dL_letters_23 : decode cL_letters 23 = .ok (.goto 5, 3) := by decide +kernel
theorem dL_letters_26 : decode cL_letters 26 = .ok (.bipush 9, 2) := by decide +kernel
theorem dL_letters_28 : decode cL_letters 28 = .ok (.ireturn, 1) := by decide +kernel
theorem rL_letters_0 {G : kz_G} {d : Nat} {Qr : Option Value → kz_M → Prop} {Qx : String → kz_M → Prop} {p0 : Int32}  {M : kz_M} (h : (¬ p0 = 0 → (¬ p0 = (1 : Int32) → (¬ p0 = (2 : Int32) → Qr (some (.int 9)) M) ∧ (p0 = (2 : Int32) → Qr (some (.int 1)) M)) ∧ (p0 = (1 : Int32) → Qr (some (.int 3)) M)) ∧ (p0 = 0 → Qr (some (.int 2)) M)) : kz_C G d 0 0 mL_letters [.int p0] M Qr Qx := by
  refine kz_enter (n := 1) kmL_letters.1 (Nat.le_of_ble_eq_true rfl) (ls := [(0, .int p0)]) rfl ?_
  refine kz_iload_n (pc := 0) 0 (i := 0) rfl rfl dL_letters_0 ?_
  refine kz_if_ne (pc := 1) (tgt := 8) (by decide) dL_letters_1 (fun hb => ?_) (fun hb => ?_)
  · replace h := h.1 hb
    refine kz_iload_n (pc := 8) 0 (i := 0) rfl rfl dL_letters_8 ?_
    refine kz_iconst (pc := 9) (v := 1) (by decide) dL_letters_9 ?_
    refine kz_icmp_ne (pc := 10) (tgt := 17) (by decide) dL_letters_10 (fun hb => ?_) (fun hb => ?_)
    · replace h := h.1 hb
      refine kz_iload_n (pc := 17) 0 (i := 0) rfl rfl dL_letters_17 ?_
      refine kz_iconst (pc := 18) (v := 2) (by decide) dL_letters_18 ?_
      refine kz_icmp_ne (pc := 19) (tgt := 26) (by decide) dL_letters_19 (fun hb => ?_) (fun hb => ?_)
      · replace h := h.1 hb
        refine kz_bipush (pc := 26) (v := 9) (by decide) dL_letters_26 ?_
        exact kz_iret (pc := 28) rfl (Nat.le_refl _) (Nat.le_refl _) dL_letters_28 h
      · replace h := h.2 hb
        refine kz_iconst (pc := 22) (v := 1) (by decide) dL_letters_22 ?_
        refine kz_goto (pc := 23) (tgt := 28) (by decide) dL_letters_23 ?_
        exact kz_iret (pc := 28) rfl (Nat.le_refl _) (Nat.le_refl _) dL_letters_28 h
    · replace h := h.2 hb
      refine kz_iconst (pc := 13) (v := 3) (by decide) dL_letters_13 ?_
      refine kz_goto (pc := 14) (tgt := 28) (by decide) dL_letters_14 ?_
      exact kz_iret (pc := 28) rfl (Nat.le_refl _) (Nat.le_refl _) dL_letters_28 h
  · replace h := h.2 hb
    refine kz_iconst (pc := 4) (v := 2) (by decide) dL_letters_4 ?_
    refine kz_goto (pc := 5) (tgt := 28) (by decide) dL_letters_5 ?_
    exact kz_iret (pc := 28) rfl (Nat.le_refl _) (Nat.le_refl _) dL_letters_28 h
theorem dL_many_0 : decode cL_many 0 = .ok (.iconst 0, 1) := by decide +kernel
theorem dL_many_1 : decode cL_many 1 = .ok (.istore_n 2, 1) := by decide +kernel
theorem dL_many_2 : decode cL_many 2 = .ok (.iconst 0, 1) := by decide +kernel
theorem dL_many_3 : decode cL_many 3 = .ok (.istore_n 3, 1) := by decide +kernel
theorem dL_many_4 : decode cL_many 4 = .ok (.iload_n 3, 1) := by decide +kernel
theorem dL_many_5 : decode cL_many 5 = .ok (.aload_n 0, 1) := by decide +kernel
theorem dL_many_6 : decode cL_many 6 = .ok (.getfield 115, 3) := by decide +kernel
theorem dL_many_9 : decode cL_many 9 = .ok (.if_icmp .ge 27, 3) := by decide +kernel
theorem dL_many_12 : decode cL_many 12 = .ok (.iload_n 2, 1) := by decide +kernel
theorem dL_many_13 : decode cL_many 13 = .ok (.aload_n 0, 1) := by decide +kernel
theorem dL_many_14 : decode cL_many 14 = .ok (.getfield 120, 3) := by decide +kernel
theorem dL_many_17 : decode cL_many 17 = .ok (.iload_n 3, 1) := by decide +kernel
theorem dL_many_18 : decode cL_many 18 = .ok (.iaload, 1) := by decide +kernel
theorem dL_many_19 : decode cL_many 19 = .ok (.iload_n 1, 1) := by decide +kernel
theorem dL_many_20 : decode cL_many 20 = .ok (.if_icmp .ne 7, 3) := by decide +kernel
theorem dL_many_23 : decode cL_many 23 = .ok (.iconst 1, 1) := by decide +kernel
theorem dL_many_24 : decode cL_many 24 = .ok (.goto 4, 3) := by decide +kernel
theorem dL_many_27 : decode cL_many 27 = .ok (.iconst 0, 1) := by decide +kernel
theorem dL_many_28 : decode cL_many 28 = .ok (.iadd, 1) := by decide +kernel
theorem dL_many_29 : decode cL_many 29 = .ok (.istore_n 2, 1) := by decide +kernel
theorem dL_many_30 : decode cL_many 30 = .ok (.iinc 3 1, 3) := by decide +kernel
theorem dL_many_33 : decode cL_many 33 = .ok (.goto (-29), 3) := by decide +kernel
theorem dL_many_36 : decode cL_many 36 = .ok (.iload_n 2, 1) := by decide +kernel
theorem dL_many_37 : decode cL_many 37 = .ok (.ireturn, 1) := by decide +kernel
def zL_many_4 (G : kz_G) (d : Nat) (Qr : Option Value → kz_M → Prop) (Qx : String → kz_M → Prop) (x0 : Nat) (x1 : Int32) (x2 : Int32) (x3 : Int32)  (M : kz_M) : Prop := kz_Z G d 0 0 mL_many Qr Qx 4 [(0, .ref x0), (1, .int x1), (2, .int x2), (3, .int x3)] [] M 0 0
theorem rL_many_0 {G : kz_G} {d : Nat} {Qr : Option Value → kz_M → Prop} {Qx : String → kz_M → Prop} {p0 : Nat} {p1 : Int32}  {M : kz_M} (h : zL_many_4 G d Qr Qx p0 p1 0 0 M) : kz_C G d 0 0 mL_many [.ref p0, .int p1] M Qr Qx := by
  refine kz_enter (n := 2) kmL_many.1 (Nat.le_of_ble_eq_true rfl) (ls := [(0, .ref p0), (1, .int p1)]) rfl ?_
  refine kz_iconst (pc := 0) (v := 0) (by decide) dL_many_0 ?_
  refine kz_istore_n (pc := 1) (i := 2) (ls' := [(0, .ref p0), (1, .int p1)]) rfl (by decide) rfl dL_many_1 ?_
  refine kz_iconst (pc := 2) (v := 0) (by decide) dL_many_2 ?_
  refine kz_istore_n (pc := 3) (i := 3) (ls' := [(2, .int 0), (0, .ref p0), (1, .int p1)]) rfl (by decide) rfl dL_many_3 ?_
  refine kz_sub [2, 3, 1, 0] rfl ?_
  exact h
theorem rL_many_4 {G : kz_G} {d : Nat} {Qr : Option Value → kz_M → Prop} {Qx : String → kz_M → Prop} {x0 : Nat} {x1 : Int32} {x2 : Int32} {x3 : Int32}  {M : kz_M} (h : ∃ fs1 v2, (M).1 x0 = some (.inl (11, fs1)) ∧ fs1[1]? = some (.int v2) ∧ ((v2 ≤ x3 → Qr (some (.int x2)) M) ∧ (¬ v2 ≤ x3 → ∃ fs3 v4, (M).1 x0 = some (.inl (11, fs3)) ∧ fs3[0]? = some (.ref v4) ∧ (∃ n5 f6, (M).1 v4 = some (.inr (.int, n5, .inl f6)) ∧ vp_in x3 n5 ∧ ((¬ (f6 x3.toNatClampNeg) = x1 → zL_many_4 G d Qr Qx x0 x1 (x2 + 0) (x3 + 1) M) ∧ ((f6 x3.toNatClampNeg) = x1 → zL_many_4 G d Qr Qx x0 x1 (x2 + 1) (x3 + 1) M)))))) : zL_many_4 G d Qr Qx x0 x1 x2 x3  M := by
  show kz_Z G d 0 0 mL_many Qr Qx 4 [(0, .ref x0), (1, .int x1), (2, .int x2), (3, .int x3)] [] M 0 0
  refine kz_iload_n (pc := 4) 3 (i := 3) rfl rfl dL_many_4 ?_
  refine kz_aload_n (pc := 5) 0 (v := .ref x0) (i := 0) rfl rfl rfl dL_many_5 ?_
  obtain ⟨fs1, v2, hM, hv, h⟩ := h
  refine kz_getfN (pc := 6) (k := 1) kcX12 hM hv (by decide) kw_1269 dL_many_6 ?_
  refine kz_icmp_ge (pc := 9) (tgt := 36) (by decide) dL_many_9 (fun hb => ?_) (fun hb => ?_)
  · replace h := h.1 hb
    refine kz_iload_n (pc := 36) 2 (i := 2) rfl rfl dL_many_36 ?_
    exact kz_iret (pc := 37) rfl (Nat.le_refl _) (Nat.le_refl _) dL_many_37 h
  · replace h := h.2 hb
    refine kz_iload_n (pc := 12) 2 (i := 2) rfl rfl dL_many_12 ?_
    refine kz_aload_n (pc := 13) 0 (v := .ref x0) (i := 0) rfl rfl rfl dL_many_13 ?_
    obtain ⟨fs3, v4, hM, hv, h⟩ := h
    refine kz_getfN (pc := 14) (k := 0) kcX12 hM hv (by decide) kw_1268 dL_many_14 ?_
    refine kz_iload_n (pc := 17) 3 (i := 3) rfl rfl dL_many_17 ?_
    obtain ⟨n5, f6, hM, hi, h⟩ := h
    refine kz_iald (pc := 18) hM hi dL_many_18 ?_
    refine kz_iload_n (pc := 19) 1 (i := 1) rfl rfl dL_many_19 ?_
    refine kz_icmp_ne (pc := 20) (tgt := 27) (by decide) dL_many_20 (fun hb => ?_) (fun hb => ?_)
    · replace h := h.1 hb
      refine kz_iconst (pc := 27) (v := 0) (by decide) dL_many_27 ?_
      refine kz_iadd (pc := 28) dL_many_28 ?_
      refine kz_istore_n (pc := 29) (i := 2) (ls' := [(0, .ref x0), (1, .int x1), (3, .int x3)]) rfl (by decide) rfl dL_many_29 ?_
      refine kz_iinc (pc := 30) 3 (i := 3) (v := x3 + 1) (ls' := [(2, .int (x2 + 0)), (0, .ref x0), (1, .int x1)]) rfl (congrArg (fun z => x3 + z) (by decide)) (by decide) rfl dL_many_30 ?_
      refine kz_goto (pc := 33) (tgt := 4) (by decide) dL_many_33 ?_
      refine kz_sub [2, 3, 1, 0] rfl ?_
      exact h
    · replace h := h.2 hb
      refine kz_iconst (pc := 23) (v := 1) (by decide) dL_many_23 ?_
      refine kz_goto (pc := 24) (tgt := 28) (by decide) dL_many_24 ?_
      refine kz_iadd (pc := 28) dL_many_28 ?_
      refine kz_istore_n (pc := 29) (i := 2) (ls' := [(0, .ref x0), (1, .int x1), (3, .int x3)]) rfl (by decide) rfl dL_many_29 ?_
      refine kz_iinc (pc := 30) 3 (i := 3) (v := x3 + 1) (ls' := [(2, .int (x2 + 1)), (0, .ref x0), (1, .int x1)]) rfl (congrArg (fun z => x3 + z) (by decide)) (by decide) rfl dL_many_30 ?_
      refine kz_goto (pc := 33) (tgt := 4) (by decide) dL_many_33 ?_
      refine kz_sub [2, 3, 1, 0] rfl ?_
      exact h
theorem dL_areAlike_0 : decode cL_areAlike 0 = .ok (.aload_n 0, 1) := by decide +kernel
theorem dL_areAlike_1 : decode cL_areAlike 1 = .ok (.getfield 115, 3) := by decide +kernel
theorem dL_areAlike_4 : decode cL_areAlike 4 = .ok (.aload_n 1, 1) := by decide +kernel
theorem dL_areAlike_5 : decode cL_areAlike 5 = .ok (.getfield 115, 3) := by decide +kernel
theorem dL_areAlike_8 : decode cL_areAlike 8 = .ok (.if_icmp .eq 5, 3) := by decide +kernel
theorem dL_areAlike_11 : decode cL_areAlike 11 = .ok (.iconst 0, 1) := by decide +kernel
theorem dL_areAlike_12 : decode cL_areAlike 12 = .ok (.ireturn, 1) := by decide +kernel
theorem dL_areAlike_13 : decode cL_areAlike 13 = .ok (.iconst 0, 1) := by decide +kernel
theorem dL_areAlike_14 : decode cL_areAlike 14 = .ok (.istore_n 2, 1) := by decide +kernel
theorem dL_areAlike_15 : decode cL_areAlike 15 = .ok (.iload_n 2, 1) := by decide +kernel
theorem dL_areAlike_16 : decode cL_areAlike 16 = .ok (.aload_n 0, 1) := by decide +kernel
theorem dL_areAlike_17 : decode cL_areAlike 17 = .ok (.getfield 115, 3) := by decide +kernel
theorem dL_areAlike_20 : decode cL_areAlike 20 = .ok (.if_icmp .ge 26, 3) := by decide +kernel
theorem dL_areAlike_23 : decode cL_areAlike 23 = .ok (.aload_n 0, 1) := by decide +kernel
theorem dL_areAlike_24 : decode cL_areAlike 24 = .ok (.getfield 120, 3) := by decide +kernel
theorem dL_areAlike_27 : decode cL_areAlike 27 = .ok (.iload_n 2, 1) := by decide +kernel
theorem dL_areAlike_28 : decode cL_areAlike 28 = .ok (.iaload, 1) := by decide +kernel
theorem dL_areAlike_29 : decode cL_areAlike 29 = .ok (.aload_n 1, 1) := by decide +kernel
theorem dL_areAlike_30 : decode cL_areAlike 30 = .ok (.getfield 120, 3) := by decide +kernel
theorem dL_areAlike_33 : decode cL_areAlike 33 = .ok (.iload_n 2, 1) := by decide +kernel
theorem dL_areAlike_34 : decode cL_areAlike 34 = .ok (.iaload, 1) := by decide +kernel
theorem dL_areAlike_35 : decode cL_areAlike 35 = .ok (.if_icmp .eq 5, 3) := by decide +kernel
theorem dL_areAlike_38 : decode cL_areAlike 38 = .ok (.iconst 0, 1) := by decide +kernel
theorem dL_areAlike_39 : decode cL_areAlike 39 = .ok (.ireturn, 1) := by decide +kernel
theorem dL_areAlike_40 : decode cL_areAlike 40 = .ok (.iinc 2 1, 3) := by decide +kernel
theorem dL_areAlike_43 : decode cL_areAlike 43 = .ok (.goto (-28), 3) := by decide +kernel
theorem dL_areAlike_46 : decode cL_areAlike 46 = .ok (.iconst 1, 1) := by decide +kernel
theorem dL_areAlike_47 : decode cL_areAlike 47 = .ok (.ireturn, 1) := by decide +kernel
def zL_areAlike_15 (G : kz_G) (d : Nat) (Qr : Option Value → kz_M → Prop) (Qx : String → kz_M → Prop) (x0 : Nat) (x1 : Nat) (x2 : Int32)  (M : kz_M) : Prop := kz_Z G d 0 0 mL_areAlike Qr Qx 15 [(0, .ref x0), (1, .ref x1), (2, .int x2)] [] M 0 0
theorem rL_areAlike_0 {G : kz_G} {d : Nat} {Qr : Option Value → kz_M → Prop} {Qx : String → kz_M → Prop} {p0 : Nat} {p1 : Nat}  {M : kz_M} (h : ∃ fs1 v2, (M).1 p0 = some (.inl (11, fs1)) ∧ fs1[1]? = some (.int v2) ∧ (∃ fs3 v4, (M).1 p1 = some (.inl (11, fs3)) ∧ fs3[1]? = some (.int v4) ∧ ((v2 = v4 → zL_areAlike_15 G d Qr Qx p0 p1 0 M) ∧ (¬ v2 = v4 → Qr (some (.int 0)) M)))) : kz_C G d 0 0 mL_areAlike [.ref p0, .ref p1] M Qr Qx := by
  refine kz_enter (n := 2) kmL_areAlike.1 (Nat.le_of_ble_eq_true rfl) (ls := [(0, .ref p0), (1, .ref p1)]) rfl ?_
  refine kz_aload_n (pc := 0) 0 (v := .ref p0) (i := 0) rfl rfl rfl dL_areAlike_0 ?_
  obtain ⟨fs1, v2, hM, hv, h⟩ := h
  refine kz_getfN (pc := 1) (k := 1) kcX12 hM hv (by decide) kw_1269 dL_areAlike_1 ?_
  refine kz_aload_n (pc := 4) 1 (v := .ref p1) (i := 1) rfl rfl rfl dL_areAlike_4 ?_
  obtain ⟨fs3, v4, hM, hv, h⟩ := h
  refine kz_getfN (pc := 5) (k := 1) kcX12 hM hv (by decide) kw_1269 dL_areAlike_5 ?_
  refine kz_icmp_eq (pc := 8) (tgt := 13) (by decide) dL_areAlike_8 (fun hb => ?_) (fun hb => ?_)
  · replace h := h.1 hb
    refine kz_iconst (pc := 13) (v := 0) (by decide) dL_areAlike_13 ?_
    refine kz_istore_n (pc := 14) (i := 2) (ls' := [(0, .ref p0), (1, .ref p1)]) rfl (by decide) rfl dL_areAlike_14 ?_
    refine kz_sub [1, 2, 0] rfl ?_
    exact h
  · replace h := h.2 hb
    refine kz_iconst (pc := 11) (v := 0) (by decide) dL_areAlike_11 ?_
    exact kz_zret (pc := 12) (ty := .boolean) rfl (by decide) (Nat.le_refl _) (Nat.le_refl _) dL_areAlike_12 h
theorem rL_areAlike_15 {G : kz_G} {d : Nat} {Qr : Option Value → kz_M → Prop} {Qx : String → kz_M → Prop} {x0 : Nat} {x1 : Nat} {x2 : Int32}  {M : kz_M} (h : ∃ fs1 v2, (M).1 x0 = some (.inl (11, fs1)) ∧ fs1[1]? = some (.int v2) ∧ ((v2 ≤ x2 → Qr (some (.int 1)) M) ∧ (¬ v2 ≤ x2 → ∃ fs3 v4, (M).1 x0 = some (.inl (11, fs3)) ∧ fs3[0]? = some (.ref v4) ∧ (∃ n5 f6, (M).1 v4 = some (.inr (.int, n5, .inl f6)) ∧ vp_in x2 n5 ∧ (∃ fs7 v8, (M).1 x1 = some (.inl (11, fs7)) ∧ fs7[0]? = some (.ref v8) ∧ (∃ n9 f10, (M).1 v8 = some (.inr (.int, n9, .inl f10)) ∧ vp_in x2 n9 ∧ (((f6 x2.toNatClampNeg) = (f10 x2.toNatClampNeg) → zL_areAlike_15 G d Qr Qx x0 x1 (x2 + 1) M) ∧ (¬ (f6 x2.toNatClampNeg) = (f10 x2.toNatClampNeg) → Qr (some (.int 0)) M)))))))) : zL_areAlike_15 G d Qr Qx x0 x1 x2  M := by
  show kz_Z G d 0 0 mL_areAlike Qr Qx 15 [(0, .ref x0), (1, .ref x1), (2, .int x2)] [] M 0 0
  refine kz_iload_n (pc := 15) 2 (i := 2) rfl rfl dL_areAlike_15 ?_
  refine kz_aload_n (pc := 16) 0 (v := .ref x0) (i := 0) rfl rfl rfl dL_areAlike_16 ?_
  obtain ⟨fs1, v2, hM, hv, h⟩ := h
  refine kz_getfN (pc := 17) (k := 1) kcX12 hM hv (by decide) kw_1269 dL_areAlike_17 ?_
  refine kz_icmp_ge (pc := 20) (tgt := 46) (by decide) dL_areAlike_20 (fun hb => ?_) (fun hb => ?_)
  · replace h := h.1 hb
    refine kz_iconst (pc := 46) (v := 1) (by decide) dL_areAlike_46 ?_
    exact kz_zret (pc := 47) (ty := .boolean) rfl (by decide) (Nat.le_refl _) (Nat.le_refl _) dL_areAlike_47 h
  · replace h := h.2 hb
    refine kz_aload_n (pc := 23) 0 (v := .ref x0) (i := 0) rfl rfl rfl dL_areAlike_23 ?_
    obtain ⟨fs3, v4, hM, hv, h⟩ := h
    refine kz_getfN (pc := 24) (k := 0) kcX12 hM hv (by decide) kw_1268 dL_areAlike_24 ?_
    refine kz_iload_n (pc := 27) 2 (i := 2) rfl rfl dL_areAlike_27 ?_
    obtain ⟨n5, f6, hM, hi, h⟩ := h
    refine kz_iald (pc := 28) hM hi dL_areAlike_28 ?_
    refine kz_aload_n (pc := 29) 1 (v := .ref x1) (i := 1) rfl rfl rfl dL_areAlike_29 ?_
    obtain ⟨fs7, v8, hM, hv, h⟩ := h
    refine kz_getfN (pc := 30) (k := 0) kcX12 hM hv (by decide) kw_1268 dL_areAlike_30 ?_
    refine kz_iload_n (pc := 33) 2 (i := 2) rfl rfl dL_areAlike_33 ?_
    obtain ⟨n9, f10, hM, hi, h⟩ := h
    refine kz_iald (pc := 34) hM hi dL_areAlike_34 ?_
    refine kz_icmp_eq (pc := 35) (tgt := 40) (by decide) dL_areAlike_35 (fun hb => ?_) (fun hb => ?_)
    · replace h := h.1 hb
      refine kz_iinc (pc := 40) 2 (i := 2) (v := x2 + 1) (ls' := [(0, .ref x0), (1, .ref x1)]) rfl (congrArg (fun z => x2 + z) (by decide)) (by decide) rfl dL_areAlike_40 ?_
      refine kz_goto (pc := 43) (tgt := 15) (by decide) dL_areAlike_43 ?_
      refine kz_sub [1, 2, 0] rfl ?_
      exact h
    · replace h := h.2 hb
      refine kz_iconst (pc := 38) (v := 0) (by decide) dL_areAlike_38 ?_
      exact kz_zret (pc := 39) (ty := .boolean) rfl (by decide) (Nat.le_refl _) (Nat.le_refl _) dL_areAlike_39 h
theorem dL_distinctOf_0 : decode cL_distinctOf 0 = .ok (.iconst 0, 1) := by decide +kernel
theorem dL_distinctOf_1 : decode cL_distinctOf 1 = .ok (.istore_n 1, 1) := by decide +kernel
theorem dL_distinctOf_2 : decode cL_distinctOf 2 = .ok (.iconst 0, 1) := by decide +kernel
theorem dL_distinctOf_3 : decode cL_distinctOf 3 = .ok (.istore_n 2, 1) := by decide +kernel
theorem dL_distinctOf_4 : decode cL_distinctOf 4 = .ok (.iload_n 2, 1) := by decide +kernel
theorem dL_distinctOf_5 : decode cL_distinctOf 5 = .ok (.iconst 4, 1) := by decide +kernel
theorem dL_distinctOf_6 : decode cL_distinctOf 6 = .ok (.if_icmp .ge 25, 3) := by decide +kernel
theorem dL_distinctOf_9 : decode cL_distinctOf 9 = .ok (.iload_n 1, 1) := by decide +kernel
theorem dL_distinctOf_10 : decode cL_distinctOf 10 = .ok (.aload_n 0, 1) := by decide +kernel
theorem dL_distinctOf_11 : decode cL_distinctOf 11 = .ok (.iload_n 2, 1) := by decide +kernel
theorem dL_distinctOf_12 : decode cL_distinctOf 12 = .ok (.invokestatic 161, 3) := by decide +kernel
theorem dL_distinctOf_15 : decode cL_distinctOf 15 = .ok (.ifCond .le 7, 3) := by decide +kernel
theorem dL_distinctOf_18 : decode cL_distinctOf 18 = .ok (.iconst 1, 1) := by decide +kernel
theorem dL_distinctOf_19 : decode cL_distinctOf 19 = .ok (.goto 4, 3) := by decide +kernel
theorem dL_distinctOf_22 : decode cL_distinctOf 22 = .ok (.iconst 0, 1) := by decide +kernel
theorem dL_distinctOf_23 : decode cL_distinctOf 23 = .ok (.iadd, 1) := by decide +kernel
theorem dL_distinctOf_24 : decode cL_distinctOf 24 = .ok (.istore_n 1, 1) := by decide +kernel
theorem dL_distinctOf_25 : decode cL_distinctOf 25 = .ok (.iinc 2 1, 3) := by decide +kernel
theorem dL_distinctOf_28 : decode cL_distinctOf 28 = .ok (.goto (-24), 3) := by decide +kernel
theorem dL_distinctOf_31 : decode cL_distinctOf 31 = .ok (.iload_n 1, 1) := by decide +kernel
theorem dL_distinctOf_32 : decode cL_distinctOf 32 = .ok (.ireturn, 1) := by decide +kernel
def zL_distinctOf_4 (G : kz_G) (d : Nat) (Qr : Option Value → kz_M → Prop) (Qx : String → kz_M → Prop) (x0 : Nat) (x1 : Int32) (x2 : Int32)  (M : kz_M) : Prop := kz_Z G (d + 1) 0 0 mL_distinctOf Qr Qx 4 [(0, .ref x0), (1, .int x1), (2, .int x2)] [] M 0 0
theorem rL_distinctOf_0 {G : kz_G} {d : Nat} {Qr : Option Value → kz_M → Prop} {Qx : String → kz_M → Prop} {p0 : Nat}  {M : kz_M} (h : zL_distinctOf_4 G d Qr Qx p0 0 0 M) : kz_C G (d + 1) 0 0 mL_distinctOf [.ref p0] M Qr Qx := by
  refine kz_enter (n := 1) kmL_distinctOf.1 (Nat.le_of_ble_eq_true rfl) (ls := [(0, .ref p0)]) rfl ?_
  refine kz_iconst (pc := 0) (v := 0) (by decide) dL_distinctOf_0 ?_
  refine kz_istore_n (pc := 1) (i := 1) (ls' := [(0, .ref p0)]) rfl (by decide) rfl dL_distinctOf_1 ?_
  refine kz_iconst (pc := 2) (v := 0) (by decide) dL_distinctOf_2 ?_
  refine kz_istore_n (pc := 3) (i := 2) (ls' := [(1, .int 0), (0, .ref p0)]) rfl (by decide) rfl dL_distinctOf_3 ?_
  refine kz_sub [2, 1, 0] rfl ?_
  exact h
theorem rL_distinctOf_4 {G : kz_G} {d : Nat} {Qr : Option Value → kz_M → Prop} {Qx : String → kz_M → Prop} {x0 : Nat} {x1 : Int32} {x2 : Int32}  {M : kz_M} (h : ((4 : Int32) ≤ x2 → Qr (some (.int x1)) M) ∧ (¬ (4 : Int32) ≤ x2 → kz_C G (d + 0) 0 0 mL_many [.ref x0, .int x2] M (fun v M1 => ∃ r2 : Int32, v = some (.int r2) ∧ ((r2 ≤ 0 → zL_distinctOf_4 G d Qr Qx x0 (x1 + 0) (x2 + 1) M1) ∧ (¬ r2 ≤ 0 → zL_distinctOf_4 G d Qr Qx x0 (x1 + 1) (x2 + 1) M1))) Qx)) : zL_distinctOf_4 G d Qr Qx x0 x1 x2  M := by
  show kz_Z G (d + 1) 0 0 mL_distinctOf Qr Qx 4 [(0, .ref x0), (1, .int x1), (2, .int x2)] [] M 0 0
  refine kz_iload_n (pc := 4) 2 (i := 2) rfl rfl dL_distinctOf_4 ?_
  refine kz_iconst (pc := 5) (v := 4) (by decide) dL_distinctOf_5 ?_
  refine kz_icmp_ge (pc := 6) (tgt := 31) (by decide) dL_distinctOf_6 (fun hb => ?_) (fun hb => ?_)
  · replace h := h.1 hb
    refine kz_iload_n (pc := 31) 1 (i := 1) rfl rfl dL_distinctOf_31 ?_
    exact kz_iret (pc := 32) rfl (Nat.le_refl _) (Nat.le_refl _) dL_distinctOf_32 h
  · replace h := h.2 hb
    refine kz_iload_n (pc := 9) 1 (i := 1) rfl rfl dL_distinctOf_9 ?_
    refine kz_aload_n (pc := 10) 0 (v := .ref x0) (i := 0) rfl rfl rfl dL_distinctOf_10 ?_
    refine kz_iload_n (pc := 11) 2 (i := 2) rfl rfl dL_distinctOf_11 ?_
    refine kz_callS (pc := 12) (μ' := mL_many) (d' := d + 0) (mc' := 0) (ms' := 0) (As := [.ref x0, .int x2]) (st := [.int x1]) (c := 0) (sl := 0) kmL_many kw_998 (by omega) rfl (Nat.le_of_ble_eq_true rfl) (Nat.le_refl _) (Nat.le_refl _) dL_distinctOf_12 (fun E M9 hx => kz_Tout rfl (Nat.le_refl _) (Nat.le_refl _) hx) (kz_Cmono (fun v M1 h => ?_) (fun _ _ h => h) h)
    obtain ⟨r2, rfl, h⟩ := h
    show kz_Z G (d + 1) 0 0 mL_distinctOf Qr Qx 15 [(0, .ref x0), (1, .int x1), (2, .int x2)] [.int r2, .int x1] M1 0 0
    refine kz_if_le (pc := 15) (tgt := 22) (by decide) dL_distinctOf_15 (fun hb => ?_) (fun hb => ?_)
    · replace h := h.1 hb
      refine kz_iconst (pc := 22) (v := 0) (by decide) dL_distinctOf_22 ?_
      refine kz_iadd (pc := 23) dL_distinctOf_23 ?_
      refine kz_istore_n (pc := 24) (i := 1) (ls' := [(0, .ref x0), (2, .int x2)]) rfl (by decide) rfl dL_distinctOf_24 ?_
      refine kz_iinc (pc := 25) 2 (i := 2) (v := x2 + 1) (ls' := [(1, .int (x1 + 0)), (0, .ref x0)]) rfl (congrArg (fun z => x2 + z) (by decide)) (by decide) rfl dL_distinctOf_25 ?_
      refine kz_goto (pc := 28) (tgt := 4) (by decide) dL_distinctOf_28 ?_
      refine kz_sub [2, 1, 0] rfl ?_
      exact h
    · replace h := h.2 hb
      refine kz_iconst (pc := 18) (v := 1) (by decide) dL_distinctOf_18 ?_
      refine kz_goto (pc := 19) (tgt := 23) (by decide) dL_distinctOf_19 ?_
      refine kz_iadd (pc := 23) dL_distinctOf_23 ?_
      refine kz_istore_n (pc := 24) (i := 1) (ls' := [(0, .ref x0), (2, .int x2)]) rfl (by decide) rfl dL_distinctOf_24 ?_
      refine kz_iinc (pc := 25) 2 (i := 2) (v := x2 + 1) (ls' := [(1, .int (x1 + 1)), (0, .ref x0)]) rfl (congrArg (fun z => x2 + z) (by decide)) (by decide) rfl dL_distinctOf_25 ?_
      refine kz_goto (pc := 28) (tgt := 4) (by decide) dL_distinctOf_28 ?_
      refine kz_sub [2, 1, 0] rfl ?_
      exact h
theorem dL_takes_0 : decode cL_takes 0 = .ok (.aload_n 0, 1) := by decide +kernel
theorem dL_takes_1 : decode cL_takes 1 = .ok (.dup, 1) := by decide +kernel
theorem dL_takes_2 : decode cL_takes 2 = .ok (.getfield 165, 3) := by decide +kernel
theorem dL_takes_5 : decode cL_takes 5 = .ok (.iload_n 1, 1) := by decide +kernel
theorem dL_takes_6 : decode cL_takes 6 = .ok (.invokestatic 168, 3) := by decide +kernel
theorem dL_takes_9 : decode cL_takes 9 = .ok (.aload_n 0, 1) := by decide +kernel
theorem dL_takes_10 : decode cL_takes 10 = .ok (.getfield 115, 3) := by decide +kernel
theorem dL_takes_13 : decode cL_takes 13 = .ok (.ifCond .le 7, 3) := by decide +kernel
theorem dL_takes_16 : decode cL_takes 16 = .ok (.iconst 1, 1) := by decide +kernel
theorem dL_takes_17 : decode cL_takes 17 = .ok (.goto 4, 3) := by decide +kernel
theorem dL_takes_20 : decode cL_takes 20 = .ok (.iconst 0, 1) := by decide +kernel
theorem dL_takes_21 : decode cL_takes 21 = .ok (.iadd, 1) := by decide +kernel
theorem dL_takes_22 : decode cL_takes 22 = .ok (.iadd, 1) := by decide +kernel
theorem dL_takes_23 : decode cL_takes 23 = .ok (.putfield 165, 3) := by decide +kernel
theorem dL_takes_26 : decode cL_takes 26 = .ok (.aload_n 0, 1) := by decide +kernel
theorem dL_takes_27 : decode cL_takes 27 = .ok (.getfield 120, 3) := by decide +kernel
theorem dL_takes_30 : decode cL_takes 30 = .ok (.aload_n 0, 1) := by decide +kernel
theorem dL_takes_31 : decode cL_takes 31 = .ok (.getfield 115, 3) := by decide +kernel
theorem dL_takes_34 : decode cL_takes 34 = .ok (.iload_n 1, 1) := by decide +kernel
theorem dL_takes_35 : decode cL_takes 35 = .ok (.iastore, 1) := by decide +kernel
theorem dL_takes_36 : decode cL_takes 36 = .ok (.aload_n 0, 1) := by decide +kernel
theorem dL_takes_37 : decode cL_takes 37 = .ok (.dup, 1) := by decide +kernel
theorem dL_takes_38 : decode cL_takes 38 = .ok (.getfield 115, 3) := by decide +kernel
theorem dL_takes_41 : decode cL_takes 41 = .ok (.iconst 1, 1) := by decide +kernel
theorem dL_takes_42 : decode cL_takes 42 = .ok (.iadd, 1) := by decide +kernel
theorem dL_takes_43 : decode cL_takes 43 = .ok (.putfield 115, 3) := by decide +kernel
theorem dL_takes_46 : decode cL_takes 46 = .ok (.return_, 1) := by decide +kernel
theorem rL_takes_0 {G : kz_G} {d : Nat} {Qr : Option Value → kz_M → Prop} {Qx : String → kz_M → Prop} {p0 : Nat} {p1 : Int32}  {M : kz_M} (h : ∃ fs1 v2, (M).1 p0 = some (.inl (11, fs1)) ∧ fs1[2]? = some (.int v2) ∧ (kz_C G (d + 0) 0 0 mL_letters [.int p1] M (fun v M3 => ∃ r4 : Int32, v = some (.int r4) ∧ (∃ fs6 v7, (M3).1 p0 = some (.inl (11, fs6)) ∧ fs6[1]? = some (.int v7) ∧ ((v7 ≤ 0 → ∃ fs8, (M3).1 p0 = some (.inl (11, fs8)) ∧ 2 < fs8.length ∧ (∃ fs9 v10, ((kz_up M3 p0 (.inl (11, fs8.set 2 (.int (v2 + (r4 + 0))))))).1 p0 = some (.inl (11, fs9)) ∧ fs9[0]? = some (.ref v10) ∧ (∃ fs11 v12, ((kz_up M3 p0 (.inl (11, fs8.set 2 (.int (v2 + (r4 + 0))))))).1 p0 = some (.inl (11, fs11)) ∧ fs11[1]? = some (.int v12) ∧ (∃ n13 f14, ((kz_up M3 p0 (.inl (11, fs8.set 2 (.int (v2 + (r4 + 0))))))).1 v10 = some (.inr (.int, n13, .inl f14)) ∧ vp_in v12 n13 ∧ (∃ fs15 v16, ((kz_up (kz_up M3 p0 (.inl (11, fs8.set 2 (.int (v2 + (r4 + 0)))))) v10 (.inr (.int, n13, .inl (upd f14 (v12 : Int32).toNatClampNeg p1))))).1 p0 = some (.inl (11, fs15)) ∧ fs15[1]? = some (.int v16) ∧ (∃ fs17, ((kz_up (kz_up M3 p0 (.inl (11, fs8.set 2 (.int (v2 + (r4 + 0)))))) v10 (.inr (.int, n13, .inl (upd f14 (v12 : Int32).toNatClampNeg p1))))).1 p0 = some (.inl (11, fs17)) ∧ 1 < fs17.length ∧ ∀ M18, M18 = kz_up (kz_up (kz_up M3 p0 (.inl (11, fs8.set 2 (.int (v2 + (r4 + 0)))))) v10 (.inr (.int, n13, .inl (upd f14 (v12 : Int32).toNatClampNeg p1)))) p0 (.inl (11, fs17.set 1 (.int (v16 + 1)))) → Qr none M18)))))) ∧ (¬ v7 ≤ 0 → ∃ fs19, (M3).1 p0 = some (.inl (11, fs19)) ∧ 2 < fs19.length ∧ (∃ fs20 v21, ((kz_up M3 p0 (.inl (11, fs19.set 2 (.int (v2 + (r4 + 1))))))).1 p0 = some (.inl (11, fs20)) ∧ fs20[0]? = some (.ref v21) ∧ (∃ fs22 v23, ((kz_up M3 p0 (.inl (11, fs19.set 2 (.int (v2 + (r4 + 1))))))).1 p0 = some (.inl (11, fs22)) ∧ fs22[1]? = some (.int v23) ∧ (∃ n24 f25, ((kz_up M3 p0 (.inl (11, fs19.set 2 (.int (v2 + (r4 + 1))))))).1 v21 = some (.inr (.int, n24, .inl f25)) ∧ vp_in v23 n24 ∧ (∃ fs26 v27, ((kz_up (kz_up M3 p0 (.inl (11, fs19.set 2 (.int (v2 + (r4 + 1)))))) v21 (.inr (.int, n24, .inl (upd f25 (v23 : Int32).toNatClampNeg p1))))).1 p0 = some (.inl (11, fs26)) ∧ fs26[1]? = some (.int v27) ∧ (∃ fs28, ((kz_up (kz_up M3 p0 (.inl (11, fs19.set 2 (.int (v2 + (r4 + 1)))))) v21 (.inr (.int, n24, .inl (upd f25 (v23 : Int32).toNatClampNeg p1))))).1 p0 = some (.inl (11, fs28)) ∧ 1 < fs28.length ∧ ∀ M29, M29 = kz_up (kz_up (kz_up M3 p0 (.inl (11, fs19.set 2 (.int (v2 + (r4 + 1)))))) v21 (.inr (.int, n24, .inl (upd f25 (v23 : Int32).toNatClampNeg p1)))) p0 (.inl (11, fs28.set 1 (.int (v27 + 1)))) → Qr none M29))))))))) Qx)) : kz_C G (d + 1) 0 0 mL_takes [.ref p0, .int p1] M Qr Qx := by
  refine kz_enter (n := 2) kmL_takes.1 (Nat.le_of_ble_eq_true rfl) (ls := [(0, .ref p0), (1, .int p1)]) rfl ?_
  refine kz_aload_n (pc := 0) 0 (v := .ref p0) (i := 0) rfl rfl rfl dL_takes_0 ?_
  refine kz_dup (pc := 1) rfl dL_takes_1 ?_
  obtain ⟨fs1, v2, hM, hv, h⟩ := h
  refine kz_getfN (pc := 2) (k := 2) kcX12 hM hv (by decide) kw_1270 dL_takes_2 ?_
  refine kz_iload_n (pc := 5) 1 (i := 1) rfl rfl dL_takes_5 ?_
  refine kz_callS (pc := 6) (μ' := mL_letters) (d' := d + 0) (mc' := 0) (ms' := 0) (As := [.int p1]) (st := [.int v2, .ref p0]) (c := 0) (sl := 0) kmL_letters kw_1290 (by omega) rfl (Nat.le_of_ble_eq_true rfl) (Nat.le_refl _) (Nat.le_refl _) dL_takes_6 (fun E M9 hx => kz_Tout rfl (Nat.le_refl _) (Nat.le_refl _) hx) (kz_Cmono (fun v M3 h => ?_) (fun _ _ h => h) h)
  obtain ⟨r4, rfl, h⟩ := h
  show kz_Z G (d + 1) 0 0 mL_takes Qr Qx 9 [(0, .ref p0), (1, .int p1)] [.int r4, .int v2, .ref p0] M3 0 0
  refine kz_aload_n (pc := 9) 0 (v := .ref p0) (i := 0) rfl rfl rfl dL_takes_9 ?_
  obtain ⟨fs6, v7, hM, hv, h⟩ := h
  refine kz_getfN (pc := 10) (k := 1) kcX12 hM hv (by decide) kw_1269 dL_takes_10 ?_
  refine kz_if_le (pc := 13) (tgt := 20) (by decide) dL_takes_13 (fun hb => ?_) (fun hb => ?_)
  · replace h := h.1 hb
    refine kz_iconst (pc := 20) (v := 0) (by decide) dL_takes_20 ?_
    refine kz_iadd (pc := 21) dL_takes_21 ?_
    refine kz_iadd (pc := 22) dL_takes_22 ?_
    obtain ⟨fs8, hM, hlen, h⟩ := h
    refine kz_putfN (pc := 23) (k := 2) kcX12 hM (by decide) hlen kw_1270 rfl rfl rfl dL_takes_23 ?_
    refine kz_aload_n (pc := 26) 0 (v := .ref p0) (i := 0) rfl rfl rfl dL_takes_26 ?_
    obtain ⟨fs9, v10, hM, hv, h⟩ := h
    refine kz_getfN (pc := 27) (k := 0) kcX12 hM hv (by decide) kw_1268 dL_takes_27 ?_
    refine kz_aload_n (pc := 30) 0 (v := .ref p0) (i := 0) rfl rfl rfl dL_takes_30 ?_
    obtain ⟨fs11, v12, hM, hv, h⟩ := h
    refine kz_getfN (pc := 31) (k := 1) kcX12 hM hv (by decide) kw_1269 dL_takes_31 ?_
    refine kz_iload_n (pc := 34) 1 (i := 1) rfl rfl dL_takes_34 ?_
    obtain ⟨n13, f14, hM, hi, h⟩ := h
    refine kz_iast (pc := 35) hM hi dL_takes_35 ?_
    refine kz_aload_n (pc := 36) 0 (v := .ref p0) (i := 0) rfl rfl rfl dL_takes_36 ?_
    refine kz_dup (pc := 37) rfl dL_takes_37 ?_
    obtain ⟨fs15, v16, hM, hv, h⟩ := h
    refine kz_getfN (pc := 38) (k := 1) kcX12 hM hv (by decide) kw_1269 dL_takes_38 ?_
    refine kz_iconst (pc := 41) (v := 1) (by decide) dL_takes_41 ?_
    refine kz_iadd (pc := 42) dL_takes_42 ?_
    obtain ⟨fs17, hM, hlen, h⟩ := h
    refine kz_putfN (pc := 43) (k := 1) kcX12 hM (by decide) hlen kw_1269 rfl rfl rfl dL_takes_43 ?_
    refine kz_nameM (fun M18 e9 => ?_)
    replace h := h M18 e9
    exact kz_vret (pc := 46) rfl (Nat.le_refl _) (Nat.le_refl _) dL_takes_46 h
  · replace h := h.2 hb
    refine kz_iconst (pc := 16) (v := 1) (by decide) dL_takes_16 ?_
    refine kz_goto (pc := 17) (tgt := 21) (by decide) dL_takes_17 ?_
    refine kz_iadd (pc := 21) dL_takes_21 ?_
    refine kz_iadd (pc := 22) dL_takes_22 ?_
    obtain ⟨fs19, hM, hlen, h⟩ := h
    refine kz_putfN (pc := 23) (k := 2) kcX12 hM (by decide) hlen kw_1270 rfl rfl rfl dL_takes_23 ?_
    refine kz_aload_n (pc := 26) 0 (v := .ref p0) (i := 0) rfl rfl rfl dL_takes_26 ?_
    obtain ⟨fs20, v21, hM, hv, h⟩ := h
    refine kz_getfN (pc := 27) (k := 0) kcX12 hM hv (by decide) kw_1268 dL_takes_27 ?_
    refine kz_aload_n (pc := 30) 0 (v := .ref p0) (i := 0) rfl rfl rfl dL_takes_30 ?_
    obtain ⟨fs22, v23, hM, hv, h⟩ := h
    refine kz_getfN (pc := 31) (k := 1) kcX12 hM hv (by decide) kw_1269 dL_takes_31 ?_
    refine kz_iload_n (pc := 34) 1 (i := 1) rfl rfl dL_takes_34 ?_
    obtain ⟨n24, f25, hM, hi, h⟩ := h
    refine kz_iast (pc := 35) hM hi dL_takes_35 ?_
    refine kz_aload_n (pc := 36) 0 (v := .ref p0) (i := 0) rfl rfl rfl dL_takes_36 ?_
    refine kz_dup (pc := 37) rfl dL_takes_37 ?_
    obtain ⟨fs26, v27, hM, hv, h⟩ := h
    refine kz_getfN (pc := 38) (k := 1) kcX12 hM hv (by decide) kw_1269 dL_takes_38 ?_
    refine kz_iconst (pc := 41) (v := 1) (by decide) dL_takes_41 ?_
    refine kz_iadd (pc := 42) dL_takes_42 ?_
    obtain ⟨fs28, hM, hlen, h⟩ := h
    refine kz_putfN (pc := 43) (k := 1) kcX12 hM (by decide) hlen kw_1269 rfl rfl rfl dL_takes_43 ?_
    refine kz_nameM (fun M29 e9 => ?_)
    replace h := h M29 e9
    exact kz_vret (pc := 46) rfl (Nat.le_refl _) (Nat.le_refl _) dL_takes_46 h
theorem dL_told_0 : decode cL_told 0 = .ok (.iconst 0, 1) := by decide +kernel
theorem dL_told_1 : decode cL_told 1 = .ok (.istore_n 2, 1) := by decide +kernel
theorem dL_told_2 : decode cL_told 2 = .ok (.iload_n 2, 1) := by decide +kernel
theorem dL_told_3 : decode cL_told 3 = .ok (.aload_n 1, 1) := by decide +kernel
theorem dL_told_4 : decode cL_told 4 = .ok (.invokevirtual 1, 3) := by decide +kernel
theorem dL_told_7 : decode cL_told 7 = .ok (.if_icmp .ge 89, 3) := by decide +kernel
theorem dL_told_10 : decode cL_told 10 = .ok (.iconst 5, 1) := by decide +kernel
theorem dL_told_11 : decode cL_told 11 = .ok (.newarray .int, 2) := by decide +kernel
theorem dL_told_13 : decode cL_told 13 = .ok (.astore_n 3, 1) := by decide +kernel
theorem dL_told_14 : decode cL_told 14 = .ok (.iconst 0, 1) := by decide +kernel
theorem dL_told_15 : decode cL_told 15 = .ok (.istore 4, 2) := by decide +kernel
theorem dL_told_17 : decode cL_told 17 = .ok (.iload 4, 2) := by decide +kernel
theorem dL_told_19 : decode cL_told 19 = .ok (.bipush 20, 2) := by decide +kernel
theorem dL_told_21 : decode cL_told 21 = .ok (.if_icmp .ge 49, 3) := by decide +kernel
theorem dL_told_24 : decode cL_told 24 = .ok (.aload_n 3, 1) := by decide +kernel
theorem dL_told_25 : decode cL_told 25 = .ok (.iload 4, 2) := by decide +kernel
theorem dL_told_27 : decode cL_told 27 = .ok (.iconst 4, 1) := by decide +kernel
theorem dL_told_28 : decode cL_told 28 = .ok (.idiv, 1) := by decide +kernel
theorem dL_told_29 : decode cL_told 29 = .ok (.aload_n 3, 1) := by decide +kernel
theorem dL_told_30 : decode cL_told 30 = .ok (.iload 4, 2) := by decide +kernel
theorem dL_told_32 : decode cL_told 32 = .ok (.iconst 4, 1) := by decide +kernel
theorem dL_told_33 : decode cL_told 33 = .ok (.idiv, 1) := by decide +kernel
theorem dL_told_34 : decode cL_told 34 = .ok (.iaload, 1) := by decide +kernel
theorem dL_told_35 : decode cL_told 35 = .ok (.bipush 8, 2) := by decide +kernel
theorem dL_told_37 : decode cL_told 37 = .ok (.ishl, 1) := by decide +kernel
theorem dL_told_38 : decode cL_told 38 = .ok (.iload_n 2, 1) := by decide +kernel
theorem dL_told_39 : decode cL_told 39 = .ok (.iload 4, 2) := by decide +kernel
theorem dL_told_41 : decode cL_told 41 = .ok (.iadd, 1) := by decide +kernel
theorem dL_told_42 : decode cL_told 42 = .ok (.aload_n 1, 1) := by decide +kernel
theorem dL_told_43 : decode cL_told 43 = .ok (.invokevirtual 1, 3) := by decide +kernel
theorem dL_told_46 : decode cL_told 46 = .ok (.if_icmp .ge 14, 3) := by decide +kernel
theorem dL_told_49 : decode cL_told 49 = .ok (.aload_n 1, 1) := by decide +kernel
theorem dL_told_50 : decode cL_told 50 = .ok (.iload_n 2, 1) := by decide +kernel
theorem dL_told_51 : decode cL_told 51 = .ok (.iload 4, 2) := by decide +kernel
theorem dL_told_53 : decode cL_told 53 = .ok (.iadd, 1) := by decide +kernel
theorem dL_told_54 : decode cL_told 54 = .ok (.invokevirtual 7, 3) := by decide +kernel
theorem dL_told_57 : decode cL_told 57 = .ok (.goto 5, 3) := by decide +kernel
theorem dL_told_60 : decode cL_told 60 = .ok (.bipush 32, 2) := by decide +kernel
theorem dL_told_62 : decode cL_told 62 = .ok (.ior, 1) := by decide +kernel
theorem dL_told_63 : decode cL_told 63 = .ok (.iastore, 1) := by decide +kernel
theorem dL_told_64 : decode cL_told 64 = .ok (.iinc 4 1, 3) := by decide +kernel
theorem dL_told_67 : decode cL_told 67 = .ok (.goto (-50), 3) := by decide +kernel
theorem dL_told_70 : decode cL_told 70 = .ok (.aload_n 0, 1) := by decide +kernel
theorem dL_told_71 : decode cL_told 71 = .ok (.aload_n 3, 1) := by decide +kernel
theorem dL_told_72 : decode cL_told 72 = .ok (.iconst 0, 1) := by decide +kernel
theorem dL_told_73 : decode cL_told 73 = .ok (.iaload, 1) := by decide +kernel
theorem dL_told_74 : decode cL_told 74 = .ok (.aload_n 3, 1) := by decide +kernel
theorem dL_told_75 : decode cL_told 75 = .ok (.iconst 1, 1) := by decide +kernel
theorem dL_told_76 : decode cL_told 76 = .ok (.iaload, 1) := by decide +kernel
theorem dL_told_77 : decode cL_told 77 = .ok (.aload_n 3, 1) := by decide +kernel
theorem dL_told_78 : decode cL_told 78 = .ok (.iconst 2, 1) := by decide +kernel
theorem dL_told_79 : decode cL_told 79 = .ok (.iaload, 1) := by decide +kernel
theorem dL_told_80 : decode cL_told 80 = .ok (.aload_n 3, 1) := by decide +kernel
theorem dL_told_81 : decode cL_told 81 = .ok (.iconst 3, 1) := by decide +kernel
theorem dL_told_82 : decode cL_told 82 = .ok (.iaload, 1) := by decide +kernel
theorem dL_told_83 : decode cL_told 83 = .ok (.aload_n 3, 1) := by decide +kernel
theorem dL_told_84 : decode cL_told 84 = .ok (.iconst 4, 1) := by decide +kernel
theorem dL_told_85 : decode cL_told 85 = .ok (.iaload, 1) := by decide +kernel
theorem dL_told_86 : decode cL_told 86 = .ok (.invokevirtual 11, 3) := by decide +kernel
theorem dL_told_89 : decode cL_told 89 = .ok (.pop, 1) := by decide +kernel
theorem dL_told_90 : decode cL_told 90 = .ok (.iinc 2 20, 3) := by decide +kernel
theorem dL_told_93 : decode cL_told 93 = .ok (.goto (-91), 3) := by decide +kernel
theorem dL_told_96 : decode cL_told 96 = .ok (.aload_n 0, 1) := by decide +kernel
theorem dL_told_97 : decode cL_told 97 = .ok (.aload_n 1, 1) := by decide +kernel
theorem dL_told_98 : decode cL_told 98 = .ok (.invokevirtual 1, 3) := by decide +kernel
theorem dL_told_101 : decode cL_told 101 = .ok (.invokevirtual 17, 3) := by decide +kernel
theorem dL_told_104 : decode cL_told 104 = .ok (.pop, 1) := by decide +kernel
theorem dL_told_105 : decode cL_told 105 = .ok (.return_, 1) := by decide +kernel
def zL_told_2 (G : kz_G) (d mc ms : Nat) (Qr : Option Value → kz_M → Prop) (Qx : String → kz_M → Prop) (x0 : Nat) (x1 : Nat) (x2 : Int32)  (M : kz_M) (c sl : Nat) : Prop := kz_Z G (d + 4) mc ms mL_told Qr Qx 2 [(0, .ref x0), (1, .ref x1), (2, .int x2)] [] M c sl
def zL_told_17 (G : kz_G) (d mc ms : Nat) (Qr : Option Value → kz_M → Prop) (Qx : String → kz_M → Prop) (x0 : Nat) (x1 : Nat) (x2 : Int32) (x3 : Nat) (x4 : Int32)  (M : kz_M) (c sl : Nat) : Prop := kz_Z G (d + 4) mc ms mL_told Qr Qx 17 [(0, .ref x0), (1, .ref x1), (2, .int x2), (3, .ref x3), (4, .int x4)] [] M c sl
def zL_told_24 (G : kz_G) (d mc ms : Nat) (Qr : Option Value → kz_M → Prop) (Qx : String → kz_M → Prop) (x0 : Nat) (x1 : Nat) (x2 : Int32) (x3 : Nat) (x4 : Int32)  (M : kz_M) (c sl : Nat) : Prop := kz_Z G (d + 4) mc ms mL_told Qr Qx 24 [(0, .ref x0), (1, .ref x1), (2, .int x2), (3, .ref x3), (4, .int x4)] [] M c sl
def zL_told_70 (G : kz_G) (d mc ms : Nat) (Qr : Option Value → kz_M → Prop) (Qx : String → kz_M → Prop) (x0 : Nat) (x1 : Nat) (x2 : Int32) (x3 : Nat)  (M : kz_M) (c sl : Nat) : Prop := kz_Z G (d + 4) mc ms mL_told Qr Qx 70 [(0, .ref x0), (1, .ref x1), (2, .int x2), (3, .ref x3)] [] M c sl
theorem rL_told_0 {G : kz_G} {d : Nat} {mc ms : Nat} {Qr : Option Value → kz_M → Prop} {Qx : String → kz_M → Prop} {p0 : Nat} {p1 : Nat}  {M : kz_M} (h : zL_told_2 G d mc ms Qr Qx p0 p1 0 M 0 0) : kz_C G (d + 4) mc ms mL_told [.ref p0, .ref p1] M Qr Qx := by
  refine kz_enter (n := 2) kmL_told.1 (Nat.le_of_ble_eq_true rfl) (ls := [(0, .ref p0), (1, .ref p1)]) rfl ?_
  refine kz_iconst (pc := 0) (v := 0) (by decide) dL_told_0 ?_
  refine kz_istore_n (pc := 1) (i := 2) (ls' := [(0, .ref p0), (1, .ref p1)]) rfl (by decide) rfl dL_told_1 ?_
  refine kz_sub [1, 2, 0] rfl ?_
  exact h
theorem rL_told_2 {G : kz_G} {d : Nat} {mc ms : Nat} {Qr : Option Value → kz_M → Prop} {Qx : String → kz_M → Prop} {x0 : Nat} {x1 : Nat} {x2 : Int32}  {M : kz_M} {c sl : Nat} (hc : c ≤ mc) (hs : sl ≤ ms) (h : (∃ fs14, (M).1 x1 = some (.inl (14, fs14))) ∧ kz_C G (d + 3) 0 0 mJ0_length_8abf5 [.ref x1] M (fun v M1 => ∃ r2 : Int32, v = some (.int r2) ∧ ((r2 ≤ x2 → (∃ fs11, (M1).1 x1 = some (.inl (14, fs11))) ∧ kz_C G (d + 3) 0 0 mJ0_length_8abf5 [.ref x1] M1 (fun v M4 => ∃ r5 : Int32, v = some (.int r5) ∧ ((∃ fs10, (M4).1 x0 = some (.inl (10, fs10))) ∧ kz_C G (d + 3) 0 0 mX11_truncateInput [.ref x0, .int r5] M4 (fun v M7 => ∃ r8 : Int32, v = some (.int r8) ∧ (Qr none M7)) Qx)) Qx) ∧ (¬ r2 ≤ x2 → ∃ N12, ¬ (5 : Int32) < 0 ∧ (5 : Int32).toNatClampNeg = N12 ∧ N12 ≤ 60000000 ∧ c + 1 ≤ mc ∧ sl + N12 ≤ ms ∧ (zL_told_17 G d mc ms Qr Qx x0 x1 x2 ((M1).2) 0 (kz_nw M1 (.inr (.int, N12, .inl (fun _ => 0)))) (c + 1) (sl + N12))))) Qx) : zL_told_2 G d mc ms Qr Qx x0 x1 x2  M c sl := by
  show kz_Z G (d + 4) mc ms mL_told Qr Qx 2 [(0, .ref x0), (1, .ref x1), (2, .int x2)] [] M c sl
  refine kz_iload_n (pc := 2) 2 (i := 2) rfl rfl dL_told_2 ?_
  refine kz_aload_n (pc := 3) 1 (v := .ref x1) (i := 1) rfl rfl rfl dL_told_3 ?_
  obtain ⟨⟨fs14, he⟩, h⟩ := h
  refine kz_callV (pc := 4) (μ' := mJ0_length_8abf5) (ci := 14) (q := (RJ0, TJ0, 4)) (b := x1) (d' := d + 3) (mc' := 0) (ms' := 0) (As := []) (st := [.int x2]) (c := c) (sl := sl) kmJ0_length_8abf5 kw_425 (by omega) rfl (Nat.le_of_ble_eq_true rfl) he rfl rfl hc hs dL_told_4 (fun E M9 hx => kz_Tout rfl hc hs hx) (kz_Cmono (fun v M1 h => ?_) (fun _ _ h => h) h)
  obtain ⟨r2, rfl, h⟩ := h
  show kz_Z G (d + 4) mc ms mL_told Qr Qx 7 [(0, .ref x0), (1, .ref x1), (2, .int x2)] [.int r2, .int x2] M1 c sl
  refine kz_icmp_ge (pc := 7) (tgt := 96) (by decide) dL_told_7 (fun hb => ?_) (fun hb => ?_)
  · replace h := h.1 hb
    refine kz_aload_n (pc := 96) 0 (v := .ref x0) (i := 0) rfl rfl rfl dL_told_96 ?_
    refine kz_aload_n (pc := 97) 1 (v := .ref x1) (i := 1) rfl rfl rfl dL_told_97 ?_
    obtain ⟨⟨fs11, he⟩, h⟩ := h
    refine kz_callV (pc := 98) (μ' := mJ0_length_8abf5) (ci := 14) (q := (RJ0, TJ0, 4)) (b := x1) (d' := d + 3) (mc' := 0) (ms' := 0) (As := []) (st := [.ref x0]) (c := c) (sl := sl) kmJ0_length_8abf5 kw_425 (by omega) rfl (Nat.le_of_ble_eq_true rfl) he rfl rfl hc hs dL_told_98 (fun E M9 hx => kz_Tout rfl hc hs hx) (kz_Cmono (fun v M4 h => ?_) (fun _ _ h => h) h)
    obtain ⟨r5, rfl, h⟩ := h
    show kz_Z G (d + 4) mc ms mL_told Qr Qx 101 [(0, .ref x0), (1, .ref x1), (2, .int x2)] [.int r5, .ref x0] M4 c sl
    obtain ⟨⟨fs10, he⟩, h⟩ := h
    refine kz_callV (pc := 101) (μ' := mX11_truncateInput) (ci := 10) (q := (RX11, TX11, 10)) (b := x0) (d' := d + 3) (mc' := 0) (ms' := 0) (As := [.int r5]) (st := []) (c := c) (sl := sl) kmX11_truncateInput kw_443 (by omega) rfl (Nat.le_of_ble_eq_true rfl) he rfl rfl hc hs dL_told_101 (fun E M9 hx => kz_Tout rfl hc hs hx) (kz_Cmono (fun v M7 h => ?_) (fun _ _ h => h) h)
    obtain ⟨r8, rfl, h⟩ := h
    show kz_Z G (d + 4) mc ms mL_told Qr Qx 104 [(0, .ref x0), (1, .ref x1), (2, .int x2)] [.int r8] M7 c sl
    refine kz_pop (pc := 104) rfl dL_told_104 ?_
    exact kz_vret (pc := 105) rfl hc hs dL_told_105 h
  · replace h := h.2 hb
    refine kz_iconst (pc := 10) (v := 5) (by decide) dL_told_10 ?_
    obtain ⟨N12, hn, hN, hb8, hc13, hs13, h⟩ := h
    refine kz_newaI (pc := 11) N12 kw_98 hn hN hb8 hc13 hs13 dL_told_11 ?_
    refine kz_astore_n (pc := 13) (i := 3) (v := .ref ((M1).2)) (ls' := [(0, .ref x0), (1, .ref x1), (2, .int x2)]) rfl rfl (by decide) rfl dL_told_13 ?_
    refine kz_iconst (pc := 14) (v := 0) (by decide) dL_told_14 ?_
    refine kz_istore (pc := 15) (i := 4) (ls' := [(3, .ref ((M1).2)), (0, .ref x0), (1, .ref x1), (2, .int x2)]) (by decide) rfl dL_told_15 ?_
    refine kz_sub [2, 3, 4, 1, 0] rfl ?_
    exact h
theorem rL_told_17 {G : kz_G} {d : Nat} {mc ms : Nat} {Qr : Option Value → kz_M → Prop} {Qx : String → kz_M → Prop} {x0 : Nat} {x1 : Nat} {x2 : Int32} {x3 : Nat} {x4 : Int32}  {M : kz_M} {c sl : Nat} (hc : c ≤ mc) (hs : sl ≤ ms) (h : ((20 : Int32) ≤ x4 → zL_told_70 G d mc ms Qr Qx x0 x1 x2 x3 M c sl) ∧ (¬ (20 : Int32) ≤ x4 → zL_told_24 G d mc ms Qr Qx x0 x1 x2 x3 x4 M c sl)) : zL_told_17 G d mc ms Qr Qx x0 x1 x2 x3 x4  M c sl := by
  show kz_Z G (d + 4) mc ms mL_told Qr Qx 17 [(0, .ref x0), (1, .ref x1), (2, .int x2), (3, .ref x3), (4, .int x4)] [] M c sl
  refine kz_iload (pc := 17) 4 (i := 4) rfl dL_told_17 ?_
  refine kz_bipush (pc := 19) (v := 20) (by decide) dL_told_19 ?_
  refine kz_icmp_ge (pc := 21) (tgt := 70) (by decide) dL_told_21 (fun hb => ?_) (fun hb => ?_)
  · replace h := h.1 hb
    refine kz_sub [0, 1, 2, 3] rfl ?_
    exact h
  · replace h := h.2 hb
    exact h
theorem rL_told_24 {G : kz_G} {d : Nat} {mc ms : Nat} {Qr : Option Value → kz_M → Prop} {Qx : String → kz_M → Prop} {x0 : Nat} {x1 : Nat} {x2 : Int32} {x3 : Nat} {x4 : Int32}  {M : kz_M} {c sl : Nat} (hc : c ≤ mc) (hs : sl ≤ ms) (h : ∃ n1 f2, (M).1 x3 = some (.inr (.int, n1, .inl f2)) ∧ vp_in (x4 / 4) n1 ∧ ((∃ fs14, (M).1 x1 = some (.inl (14, fs14))) ∧ kz_C G (d + 3) 0 0 mJ0_length_8abf5 [.ref x1] M (fun v M3 => ∃ r4 : Int32, v = some (.int r4) ∧ ((r4 ≤ (x2 + x4) → ∃ n6 f7, (M3).1 x3 = some (.inr (.int, n6, .inl f7)) ∧ vp_in (x4 / 4) n6 ∧ (zL_told_17 G d mc ms Qr Qx x0 x1 x2 x3 (x4 + 1) (kz_up M3 x3 (.inr (.int, n6, .inl (upd f7 (x4 / 4 : Int32).toNatClampNeg (((f2 (x4 / 4).toNatClampNeg) <<< (8 &&& 31)) ||| 32))))) c sl)) ∧ (¬ r4 ≤ (x2 + x4) → (∃ fs13, (M3).1 x1 = some (.inl (14, fs13))) ∧ kz_C G (d + 3) 0 0 mJ0_charAt_5068e [.ref x1, .int (x2 + x4)] M3 (fun v M8 => ∃ r9 : Int32, v = some (.int r9) ∧ (∃ n11 f12, (M8).1 x3 = some (.inr (.int, n11, .inl f12)) ∧ vp_in (x4 / 4) n11 ∧ (zL_told_17 G d mc ms Qr Qx x0 x1 x2 x3 (x4 + 1) (kz_up M8 x3 (.inr (.int, n11, .inl (upd f12 (x4 / 4 : Int32).toNatClampNeg (((f2 (x4 / 4).toNatClampNeg) <<< (8 &&& 31)) ||| r9))))) c sl))) Qx))) Qx)) : zL_told_24 G d mc ms Qr Qx x0 x1 x2 x3 x4  M c sl := by
  show kz_Z G (d + 4) mc ms mL_told Qr Qx 24 [(0, .ref x0), (1, .ref x1), (2, .int x2), (3, .ref x3), (4, .int x4)] [] M c sl
  refine kz_aload_n (pc := 24) 3 (v := .ref x3) (i := 3) rfl rfl rfl dL_told_24 ?_
  refine kz_iload (pc := 25) 4 (i := 4) rfl dL_told_25 ?_
  refine kz_iconst (pc := 27) (v := 4) (by decide) dL_told_27 ?_
  refine kz_idiv (pc := 28) (by decide) dL_told_28 ?_
  refine kz_aload_n (pc := 29) 3 (v := .ref x3) (i := 3) rfl rfl rfl dL_told_29 ?_
  refine kz_iload (pc := 30) 4 (i := 4) rfl dL_told_30 ?_
  refine kz_iconst (pc := 32) (v := 4) (by decide) dL_told_32 ?_
  refine kz_idiv (pc := 33) (by decide) dL_told_33 ?_
  obtain ⟨n1, f2, hM, hi, h⟩ := h
  refine kz_iald (pc := 34) hM hi dL_told_34 ?_
  refine kz_bipush (pc := 35) (v := 8) (by decide) dL_told_35 ?_
  refine kz_ishl (pc := 37) dL_told_37 ?_
  refine kz_iload_n (pc := 38) 2 (i := 2) rfl rfl dL_told_38 ?_
  refine kz_iload (pc := 39) 4 (i := 4) rfl dL_told_39 ?_
  refine kz_iadd (pc := 41) dL_told_41 ?_
  refine kz_aload_n (pc := 42) 1 (v := .ref x1) (i := 1) rfl rfl rfl dL_told_42 ?_
  obtain ⟨⟨fs14, he⟩, h⟩ := h
  refine kz_callV (pc := 43) (μ' := mJ0_length_8abf5) (ci := 14) (q := (RJ0, TJ0, 4)) (b := x1) (d' := d + 3) (mc' := 0) (ms' := 0) (As := []) (st := [.int (x2 + x4), .int ((f2 (x4 / 4).toNatClampNeg) <<< (8 &&& 31)), .int (x4 / 4), .ref x3]) (c := c) (sl := sl) kmJ0_length_8abf5 kw_425 (by omega) rfl (Nat.le_of_ble_eq_true rfl) he rfl rfl hc hs dL_told_43 (fun E M9 hx => kz_Tout rfl hc hs hx) (kz_Cmono (fun v M3 h => ?_) (fun _ _ h => h) h)
  obtain ⟨r4, rfl, h⟩ := h
  show kz_Z G (d + 4) mc ms mL_told Qr Qx 46 [(0, .ref x0), (1, .ref x1), (2, .int x2), (3, .ref x3), (4, .int x4)] [.int r4, .int (x2 + x4), .int ((f2 (x4 / 4).toNatClampNeg) <<< (8 &&& 31)), .int (x4 / 4), .ref x3] M3 c sl
  refine kz_icmp_ge (pc := 46) (tgt := 60) (by decide) dL_told_46 (fun hb => ?_) (fun hb => ?_)
  · replace h := h.1 hb
    refine kz_bipush (pc := 60) (v := 32) (by decide) dL_told_60 ?_
    refine kz_ior (pc := 62) dL_told_62 ?_
    obtain ⟨n6, f7, hM, hi, h⟩ := h
    refine kz_iast (pc := 63) hM hi dL_told_63 ?_
    refine kz_iinc (pc := 64) 4 (i := 4) (v := x4 + 1) (ls' := [(0, .ref x0), (1, .ref x1), (2, .int x2), (3, .ref x3)]) rfl (congrArg (fun z => x4 + z) (by decide)) (by decide) rfl dL_told_64 ?_
    refine kz_goto (pc := 67) (tgt := 17) (by decide) dL_told_67 ?_
    refine kz_sub [1, 2, 3, 4, 0] rfl ?_
    exact h
  · replace h := h.2 hb
    refine kz_aload_n (pc := 49) 1 (v := .ref x1) (i := 1) rfl rfl rfl dL_told_49 ?_
    refine kz_iload_n (pc := 50) 2 (i := 2) rfl rfl dL_told_50 ?_
    refine kz_iload (pc := 51) 4 (i := 4) rfl dL_told_51 ?_
    refine kz_iadd (pc := 53) dL_told_53 ?_
    obtain ⟨⟨fs13, he⟩, h⟩ := h
    refine kz_callV (pc := 54) (μ' := mJ0_charAt_5068e) (ci := 14) (q := (RJ0, TJ0, 4)) (b := x1) (d' := d + 3) (mc' := 0) (ms' := 0) (As := [.int (x2 + x4)]) (st := [.int ((f2 (x4 / 4).toNatClampNeg) <<< (8 &&& 31)), .int (x4 / 4), .ref x3]) (c := c) (sl := sl) kmJ0_charAt_5068e kw_426 (by omega) rfl (Nat.le_of_ble_eq_true rfl) he rfl rfl hc hs dL_told_54 (fun E M9 hx => kz_Tout rfl hc hs hx) (kz_Cmono (fun v M8 h => ?_) (fun _ _ h => h) h)
    obtain ⟨r9, rfl, h⟩ := h
    show kz_Z G (d + 4) mc ms mL_told Qr Qx 57 [(0, .ref x0), (1, .ref x1), (2, .int x2), (3, .ref x3), (4, .int x4)] [.int r9, .int ((f2 (x4 / 4).toNatClampNeg) <<< (8 &&& 31)), .int (x4 / 4), .ref x3] M8 c sl
    refine kz_goto (pc := 57) (tgt := 62) (by decide) dL_told_57 ?_
    refine kz_ior (pc := 62) dL_told_62 ?_
    obtain ⟨n11, f12, hM, hi, h⟩ := h
    refine kz_iast (pc := 63) hM hi dL_told_63 ?_
    refine kz_iinc (pc := 64) 4 (i := 4) (v := x4 + 1) (ls' := [(0, .ref x0), (1, .ref x1), (2, .int x2), (3, .ref x3)]) rfl (congrArg (fun z => x4 + z) (by decide)) (by decide) rfl dL_told_64 ?_
    refine kz_goto (pc := 67) (tgt := 17) (by decide) dL_told_67 ?_
    refine kz_sub [1, 2, 3, 4, 0] rfl ?_
    exact h
theorem rL_told_70 {G : kz_G} {d : Nat} {mc ms : Nat} {Qr : Option Value → kz_M → Prop} {Qx : String → kz_M → Prop} {x0 : Nat} {x1 : Nat} {x2 : Int32} {x3 : Nat}  {M : kz_M} {c sl : Nat} (hc : c ≤ mc) (hs : sl ≤ ms) (h : ∃ n1 f2, (M).1 x3 = some (.inr (.int, n1, .inl f2)) ∧ vp_in (0 : Int32) n1 ∧ (∃ n3 f4, (M).1 x3 = some (.inr (.int, n3, .inl f4)) ∧ vp_in (1 : Int32) n3 ∧ (∃ n5 f6, (M).1 x3 = some (.inr (.int, n5, .inl f6)) ∧ vp_in (2 : Int32) n5 ∧ (∃ n7 f8, (M).1 x3 = some (.inr (.int, n7, .inl f8)) ∧ vp_in (3 : Int32) n7 ∧ (∃ n9 f10, (M).1 x3 = some (.inr (.int, n9, .inl f10)) ∧ vp_in (4 : Int32) n9 ∧ ((∃ fs14, (M).1 x0 = some (.inl (10, fs14))) ∧ kz_C G (d + 3) 0 0 mX11_appendInput [.ref x0, .int (f2 (0 : Int32).toNatClampNeg), .int (f4 (1 : Int32).toNatClampNeg), .int (f6 (2 : Int32).toNatClampNeg), .int (f8 (3 : Int32).toNatClampNeg), .int (f10 (4 : Int32).toNatClampNeg)] M (fun v M11 => ∃ r12 : Int32, v = some (.int r12) ∧ (zL_told_2 G d mc ms Qr Qx x0 x1 (x2 + 20) M11 c sl)) Qx)))))) : zL_told_70 G d mc ms Qr Qx x0 x1 x2 x3  M c sl := by
  show kz_Z G (d + 4) mc ms mL_told Qr Qx 70 [(0, .ref x0), (1, .ref x1), (2, .int x2), (3, .ref x3)] [] M c sl
  refine kz_aload_n (pc := 70) 0 (v := .ref x0) (i := 0) rfl rfl rfl dL_told_70 ?_
  refine kz_aload_n (pc := 71) 3 (v := .ref x3) (i := 3) rfl rfl rfl dL_told_71 ?_
  refine kz_iconst (pc := 72) (v := 0) (by decide) dL_told_72 ?_
  obtain ⟨n1, f2, hM, hi, h⟩ := h
  refine kz_iald (pc := 73) hM hi dL_told_73 ?_
  refine kz_aload_n (pc := 74) 3 (v := .ref x3) (i := 3) rfl rfl rfl dL_told_74 ?_
  refine kz_iconst (pc := 75) (v := 1) (by decide) dL_told_75 ?_
  obtain ⟨n3, f4, hM, hi, h⟩ := h
  refine kz_iald (pc := 76) hM hi dL_told_76 ?_
  refine kz_aload_n (pc := 77) 3 (v := .ref x3) (i := 3) rfl rfl rfl dL_told_77 ?_
  refine kz_iconst (pc := 78) (v := 2) (by decide) dL_told_78 ?_
  obtain ⟨n5, f6, hM, hi, h⟩ := h
  refine kz_iald (pc := 79) hM hi dL_told_79 ?_
  refine kz_aload_n (pc := 80) 3 (v := .ref x3) (i := 3) rfl rfl rfl dL_told_80 ?_
  refine kz_iconst (pc := 81) (v := 3) (by decide) dL_told_81 ?_
  obtain ⟨n7, f8, hM, hi, h⟩ := h
  refine kz_iald (pc := 82) hM hi dL_told_82 ?_
  refine kz_aload_n (pc := 83) 3 (v := .ref x3) (i := 3) rfl rfl rfl dL_told_83 ?_
  refine kz_iconst (pc := 84) (v := 4) (by decide) dL_told_84 ?_
  obtain ⟨n9, f10, hM, hi, h⟩ := h
  refine kz_iald (pc := 85) hM hi dL_told_85 ?_
  obtain ⟨⟨fs14, he⟩, h⟩ := h
  refine kz_callV (pc := 86) (μ' := mX11_appendInput) (ci := 10) (q := (RX11, TX11, 10)) (b := x0) (d' := d + 3) (mc' := 0) (ms' := 0) (As := [.int (f2 (0 : Int32).toNatClampNeg), .int (f4 (1 : Int32).toNatClampNeg), .int (f6 (2 : Int32).toNatClampNeg), .int (f8 (3 : Int32).toNatClampNeg), .int (f10 (4 : Int32).toNatClampNeg)]) (st := []) (c := c) (sl := sl) kmX11_appendInput kw_427 (by omega) rfl (Nat.le_of_ble_eq_true rfl) he rfl rfl hc hs dL_told_86 (fun E M9 hx => kz_Tout rfl hc hs hx) (kz_Cmono (fun v M11 h => ?_) (fun _ _ h => h) h)
  obtain ⟨r12, rfl, h⟩ := h
  show kz_Z G (d + 4) mc ms mL_told Qr Qx 89 [(0, .ref x0), (1, .ref x1), (2, .int x2), (3, .ref x3)] [.int r12] M11 c sl
  refine kz_pop (pc := 89) rfl dL_told_89 ?_
  refine kz_iinc (pc := 90) 2 (i := 2) (v := x2 + 20) (ls' := [(0, .ref x0), (1, .ref x1), (3, .ref x3)]) rfl (congrArg (fun z => x2 + z) (by decide)) (by decide) rfl dL_told_90 ?_
  refine kz_goto (pc := 93) (tgt := 2) (by decide) dL_told_93 ?_
  refine kz_sub [1, 2, 0] rfl ?_
  exact h
theorem dL_past_0 : decode cL_past 0 = .ok (.new 27, 3) := by decide +kernel
theorem dL_past_3 : decode cL_past 3 = .ok (.dup, 1) := by decide +kernel
theorem dL_past_4 : decode cL_past 4 = .ok (.invokespecial 29, 3) := by decide +kernel
theorem dL_past_7 : decode cL_past 7 = .ok (.astore_n 3, 1) := by decide +kernel
theorem dL_past_8 : decode cL_past 8 = .ok (.aload_n 0, 1) := by decide +kernel
theorem dL_past_9 : decode cL_past 9 = .ok (.getfield 30, 3) := by decide +kernel
theorem dL_past_12 : decode cL_past 12 = .ok (.invokeinterface 123 1, 5) := by decide +kernel
theorem dL_past_17 : decode cL_past 17 = .ok (.astore 4, 2) := by decide +kernel
theorem dL_past_19 : decode cL_past 19 = .ok (.aload 4, 2) := by decide +kernel
theorem dL_past_21 : decode cL_past 21 = .ok (.invokeinterface 129 1, 5) := by decide +kernel
theorem dL_past_26 : decode cL_past 26 = .ok (.ifCond .eq 86, 3) := by decide +kernel
theorem dL_past_29 : decode cL_past 29 = .ok (.aload 4, 2) := by decide +kernel
theorem dL_past_31 : decode cL_past 31 = .ok (.invokeinterface 135 1, 5) := by decide +kernel
theorem dL_past_36 : decode cL_past 36 = .ok (.checkcast 139, 3) := by decide +kernel
theorem dL_past_39 : decode cL_past 39 = .ok (.astore 5, 2) := by decide +kernel
theorem dL_past_41 : decode cL_past 41 = .ok (.aload 5, 2) := by decide +kernel
theorem dL_past_43 : decode cL_past 43 = .ok (.getfield 141, 3) := by decide +kernel
theorem dL_past_46 : decode cL_past 46 = .ok (.iload_n 1, 1) := by decide +kernel
theorem dL_past_47 : decode cL_past 47 = .ok (.if_icmp .eq 6, 3) := by decide +kernel
theorem dL_past_50 : decode cL_past 50 = .ok (.goto (-31), 3) := by decide +kernel
theorem dL_past_53 : decode cL_past 53 = .ok (.aload 5, 2) := by decide +kernel
theorem dL_past_55 : decode cL_past 55 = .ok (.getfield 144, 3) := by decide +kernel
theorem dL_past_58 : decode cL_past 58 = .ok (.invokeinterface 123 1, 5) := by decide +kernel
theorem dL_past_63 : decode cL_past 63 = .ok (.astore 6, 2) := by decide +kernel
theorem dL_past_65 : decode cL_past 65 = .ok (.aload 6, 2) := by decide +kernel
theorem dL_past_67 : decode cL_past 67 = .ok (.invokeinterface 129 1, 5) := by decide +kernel
theorem dL_past_72 : decode cL_past 72 = .ok (.ifCond .eq 37, 3) := by decide +kernel
theorem dL_past_75 : decode cL_past 75 = .ok (.aload 6, 2) := by decide +kernel
theorem dL_past_77 : decode cL_past 77 = .ok (.invokeinterface 135 1, 5) := by decide +kernel
theorem dL_past_82 : decode cL_past 82 = .ok (.checkcast 116, 3) := by decide +kernel
theorem dL_past_85 : decode cL_past 85 = .ok (.astore 7, 2) := by decide +kernel
theorem dL_past_87 : decode cL_past 87 = .ok (.aload 7, 2) := by decide +kernel
theorem dL_past_89 : decode cL_past 89 = .ok (.getfield 147, 3) := by decide +kernel
theorem dL_past_92 : decode cL_past 92 = .ok (.iconst 2, 1) := by decide +kernel
theorem dL_past_93 : decode cL_past 93 = .ok (.irem, 1) := by decide +kernel
theorem dL_past_94 : decode cL_past 94 = .ok (.ifCond .ne 12, 3) := by decide +kernel
theorem dL_past_97 : decode cL_past 97 = .ok (.aload_n 3, 1) := by decide +kernel
theorem dL_past_98 : decode cL_past 98 = .ok (.aload 7, 2) := by decide +kernel
theorem dL_past_100 : decode cL_past 100 = .ok (.invokeinterface 150 2, 5) := by decide +kernel
theorem dL_past_105 : decode cL_past 105 = .ok (.pop, 1) := by decide +kernel
theorem dL_past_106 : decode cL_past 106 = .ok (.goto (-41), 3) := by decide +kernel
theorem dL_past_109 : decode cL_past 109 = .ok (.goto (-90), 3) := by decide +kernel
theorem dL_past_112 : decode cL_past 112 = .ok (.aload_n 2, 1) := by decide +kernel
theorem dL_past_113 : decode cL_past 113 = .ok (.invokeinterface 123 1, 5) := by decide +kernel
theorem dL_past_118 : decode cL_past 118 = .ok (.astore 4, 2) := by decide +kernel
theorem dL_past_120 : decode cL_past 120 = .ok (.aload 4, 2) := by decide +kernel
theorem dL_past_122 : decode cL_past 122 = .ok (.invokeinterface 129 1, 5) := by decide +kernel
theorem dL_past_127 : decode cL_past 127 = .ok (.ifCond .eq 35, 3) := by decide +kernel
theorem dL_past_130 : decode cL_past 130 = .ok (.aload 4, 2) := by decide +kernel
theorem dL_past_132 : decode cL_past 132 = .ok (.invokeinterface 135 1, 5) := by decide +kernel
theorem dL_past_137 : decode cL_past 137 = .ok (.checkcast 116, 3) := by decide +kernel
theorem dL_past_140 : decode cL_past 140 = .ok (.astore 5, 2) := by decide +kernel
theorem dL_past_142 : decode cL_past 142 = .ok (.aload 5, 2) := by decide +kernel
theorem dL_past_144 : decode cL_past 144 = .ok (.getfield 154, 3) := by decide +kernel
theorem dL_past_147 : decode cL_past 147 = .ok (.ifCond .ne 12, 3) := by decide +kernel
theorem dL_past_150 : decode cL_past 150 = .ok (.aload_n 3, 1) := by decide +kernel
theorem dL_past_151 : decode cL_past 151 = .ok (.aload 5, 2) := by decide +kernel
theorem dL_past_153 : decode cL_past 153 = .ok (.invokeinterface 150 2, 5) := by decide +kernel
theorem dL_past_158 : decode cL_past 158 = .ok (.pop, 1) := by decide +kernel
theorem dL_past_159 : decode cL_past 159 = .ok (.goto (-39), 3) := by decide +kernel
theorem dL_past_162 : decode cL_past 162 = .ok (.aload_n 3, 1) := by decide +kernel
theorem dL_past_163 : decode cL_past 163 = .ok (.areturn, 1) := by decide +kernel
def zL_past_19 (G : kz_G) (d mc ms : Nat) (Qr : Option Value → kz_M → Prop) (Qx : String → kz_M → Prop) (x1 : Int32) (x2 : Nat) (x3 : Nat) (x4 : Nat)  (M : kz_M) (c sl : Nat) : Prop := kz_Z G (d + 7) mc ms mL_past Qr Qx 19 [(1, .int x1), (2, .ref x2), (3, .ref x3), (4, .ref x4)] [] M c sl
def zL_past_65 (G : kz_G) (d mc ms : Nat) (Qr : Option Value → kz_M → Prop) (Qx : String → kz_M → Prop) (x1 : Int32) (x2 : Nat) (x3 : Nat) (x4 : Nat) (x6 : Nat)  (M : kz_M) (c sl : Nat) : Prop := kz_Z G (d + 7) mc ms mL_past Qr Qx 65 [(1, .int x1), (2, .ref x2), (3, .ref x3), (4, .ref x4), (6, .ref x6)] [] M c sl
def zL_past_120 (G : kz_G) (d mc ms : Nat) (Qr : Option Value → kz_M → Prop) (Qx : String → kz_M → Prop) (x3 : Nat) (x4 : Nat)  (M : kz_M) (c sl : Nat) : Prop := kz_Z G (d + 7) mc ms mL_past Qr Qx 120 [(3, .ref x3), (4, .ref x4)] [] M c sl
theorem rL_past_0 {G : kz_G} {d : Nat} {mc ms : Nat} {Qr : Option Value → kz_M → Prop} {Qx : String → kz_M → Prop} {a0 : Nat} {p1 : Int32} {p2 : Nat}  {M : kz_M} (h : 0 + 1 ≤ mc ∧ 0 + 3 ≤ ms ∧ (kz_C G (d + 6) 0 0 mJx4a65c_init_da8c8 [.ref ((M).2)] (kz_nw M (.inl (16, [.int 0, .null, .int 0]))) (fun v M2 => v = none ∧ (∃ fs5 v6, (M2).1 a0 = some (.inl (13, fs5)) ∧ fs5[0]? = some (.ref v6) ∧ ((∃ fs10, (M2).1 v6 = some (.inl (16, fs10))) ∧ ∃ mc9 ms9, 0 + 1 + mc9 ≤ mc ∧ 0 + 3 + ms9 ≤ ms ∧ kz_C G (d + 6) mc9 ms9 mJx4a65c_iterator_32c93 [.ref v6] M2 (fun v M7 => ∃ r8 : Nat, v = some (.ref r8) ∧ (zL_past_19 G d mc ms Qr Qx p1 p2 ((M).2) r8 M7 (0 + 1 + mc9) (0 + 3 + ms9))) (fun _ _ => False)))) Qx)) : kz_C G (d + 7) mc ms mL_past [.ref a0, .int p1, .ref p2] M Qr Qx := by
  refine kz_enter (n := 2) kmL_past.1 (Nat.le_of_ble_eq_true rfl) (ls := [(0, .ref a0), (1, .int p1), (2, .ref p2)]) rfl ?_
  obtain ⟨hc1, hs1, h⟩ := h
  refine kz_newc (pc := 0) kcJx4a65c rfl kw_453 kw_454 kw_3 hc1 hs1 dL_past_0 ?_
  refine kz_dup (pc := 3) rfl dL_past_3 ?_
  refine kz_callI (pc := 4) (μ' := mJx4a65c_init_da8c8) (b := (M).2) (d' := d + 6) (mc' := 0) (ms' := 0) (As := []) (st := [.ref ((M).2)]) (c := 0 + 1) (sl := 0 + 3) kmJx4a65c_init_da8c8 kw_455 (by omega) rfl (Nat.le_of_ble_eq_true rfl) hc1 hs1 dL_past_4 (fun E M9 hx => kz_Tout rfl hc1 hs1 hx) (kz_Cmono (fun v M2 h => ?_) (fun _ _ h => h) h)
  obtain ⟨rfl, h⟩ := h
  show kz_Z G (d + 7) mc ms mL_past Qr Qx 7 [(0, .ref a0), (1, .int p1), (2, .ref p2)] [.ref ((M).2)] M2 (0 + 1) (0 + 3)
  refine kz_astore_n (pc := 7) (i := 3) (v := .ref ((M).2)) (ls' := [(0, .ref a0), (1, .int p1), (2, .ref p2)]) rfl rfl (by decide) rfl dL_past_7 ?_
  refine kz_aload_n (pc := 8) 1 (v := .ref a0) (i := 0) rfl rfl rfl dL_past_8 ?_
  obtain ⟨fs5, v6, hM, hv, h⟩ := h
  refine kz_getf (pc := 9) (k := 0) kcL hM hv (by decide) kw_660 dL_past_9 ?_
  obtain ⟨⟨fs10, he⟩, h⟩ := h
  obtain ⟨mc9, ms9, hc9, hs9, h⟩ := h
  refine kz_callF (pc := 12) (μ' := mJx4a65c_iterator_32c93) (x := ⟨"java/util/List", "iterator", "()Ljava/util/Iterator;"⟩) (ci := 16) (q := (RJx4a65c, TJx4a65c, 3)) (b := v6) (d' := d + 6) (mc' := mc9) (ms' := ms9) (As := []) (st := []) (c := 0 + 1) (sl := 0 + 3) kmJx4a65c_iterator_32c93 rfl kw_1303 (List.mem_of_getElem? (i := 3) rfl) (by decide +kernel) kw_1301 kw_1298 (by omega) rfl (Nat.le_of_ble_eq_true rfl) he rfl hc9 hs9 dL_past_12 (kz_Cmono (fun v M7 h => ?_) (fun _ _ h => h) h)
  obtain ⟨r8, rfl, h⟩ := h
  show kz_Z G (d + 7) mc ms mL_past Qr Qx 17 [(3, .ref ((M).2)), (0, .ref a0), (1, .int p1), (2, .ref p2)] [.ref r8] M7 (0 + 1 + mc9) (0 + 3 + ms9)
  refine kz_astore (pc := 17) (i := 4) (v := .ref r8) (ls' := [(3, .ref ((M).2)), (0, .ref a0), (1, .int p1), (2, .ref p2)]) rfl (by decide) rfl dL_past_17 ?_
  refine kz_sub [3, 4, 1, 0] rfl ?_
  exact h
theorem rL_past_19 {G : kz_G} {d : Nat} {mc ms : Nat} {Qr : Option Value → kz_M → Prop} {Qx : String → kz_M → Prop} {x1 : Int32} {x2 : Nat} {x3 : Nat} {x4 : Nat}  {M : kz_M} {c sl : Nat} (hc : c ≤ mc) (hs : sl ≤ ms) (h : (∃ fs21, (M).1 x4 = some (.inl (17, fs21))) ∧ kz_C G (d + 6) 0 0 mJx35411_hasNext_aae02 [.ref x4] M (fun v M1 => ∃ r2 : Int32, v = some (.int r2) ∧ ((r2 = 0 → (∃ fs7, (M1).1 x2 = some (.inl (16, fs7))) ∧ ∃ mc6 ms6, c + mc6 ≤ mc ∧ sl + ms6 ≤ ms ∧ kz_C G (d + 6) mc6 ms6 mJx4a65c_iterator_32c93 [.ref x2] M1 (fun v M4 => ∃ r5 : Nat, v = some (.ref r5) ∧ (zL_past_120 G d mc ms Qr Qx x3 r5 M4 (c + mc6) (sl + ms6))) (fun _ _ => False)) ∧ (¬ r2 = 0 → (∃ fs20, (M1).1 x4 = some (.inl (17, fs20))) ∧ kz_C G (d + 6) 0 0 mJx35411_next_0502b [.ref x4] M1 (fun v M8 => ∃ r9 : Nat, v = some (.ref r9) ∧ ((∃ fs11, (M8).1 r9 = some (.inl (12, fs11))) ∧ (∃ fs12 v13, (M8).1 r9 = some (.inl (12, fs12)) ∧ fs12[0]? = some (.int v13) ∧ ((v13 = x1 → ∃ fs14 v15, (M8).1 r9 = some (.inl (12, fs14)) ∧ fs14[2]? = some (.ref v15) ∧ ((∃ fs19, (M8).1 v15 = some (.inl (16, fs19))) ∧ ∃ mc18 ms18, c + mc18 ≤ mc ∧ sl + ms18 ≤ ms ∧ kz_C G (d + 6) mc18 ms18 mJx4a65c_iterator_32c93 [.ref v15] M8 (fun v M16 => ∃ r17 : Nat, v = some (.ref r17) ∧ (zL_past_65 G d mc ms Qr Qx x1 x2 x3 x4 r17 M16 (c + mc18) (sl + ms18))) (fun _ _ => False))) ∧ (¬ v13 = x1 → zL_past_19 G d mc ms Qr Qx x1 x2 x3 x4 M8 c sl))))) (fun _ _ => False)))) (fun _ _ => False)) : zL_past_19 G d mc ms Qr Qx x1 x2 x3 x4  M c sl := by
  show kz_Z G (d + 7) mc ms mL_past Qr Qx 19 [(1, .int x1), (2, .ref x2), (3, .ref x3), (4, .ref x4)] [] M c sl
  refine kz_aload (pc := 19) 3 (v := .ref x4) (i := 4) rfl rfl dL_past_19 ?_
  obtain ⟨⟨fs21, he⟩, h⟩ := h
  refine kz_callF (pc := 21) (μ' := mJx35411_hasNext_aae02) (x := ⟨"java/util/Iterator", "hasNext", "()Z"⟩) (ci := 17) (q := (RJx35411, TJx35411, 4)) (b := x4) (d' := d + 6) (mc' := 0) (ms' := 0) (As := []) (st := []) (c := c) (sl := sl) kmJx35411_hasNext_aae02 rfl kw_1332 (List.mem_of_getElem? (i := 5) rfl) (by decide +kernel) kw_1330 kw_1326 (by omega) rfl (Nat.le_of_ble_eq_true rfl) he rfl hc hs dL_past_21 (kz_Cmono (fun v M1 h => ?_) (fun _ _ h => h) h)
  obtain ⟨r2, rfl, h⟩ := h
  show kz_Z G (d + 7) mc ms mL_past Qr Qx 26 [(1, .int x1), (2, .ref x2), (3, .ref x3), (4, .ref x4)] [.int r2] M1 c sl
  refine kz_if_eq (pc := 26) (tgt := 112) (by decide) dL_past_26 (fun hb => ?_) (fun hb => ?_)
  · replace h := h.1 hb
    refine kz_aload_n (pc := 112) 1 (v := .ref x2) (i := 2) rfl rfl rfl dL_past_112 ?_
    obtain ⟨⟨fs7, he⟩, h⟩ := h
    obtain ⟨mc6, ms6, hc6, hs6, h⟩ := h
    refine kz_callF (pc := 113) (μ' := mJx4a65c_iterator_32c93) (x := ⟨"java/util/List", "iterator", "()Ljava/util/Iterator;"⟩) (ci := 16) (q := (RJx4a65c, TJx4a65c, 3)) (b := x2) (d' := d + 6) (mc' := mc6) (ms' := ms6) (As := []) (st := []) (c := c) (sl := sl) kmJx4a65c_iterator_32c93 rfl kw_1303 (List.mem_of_getElem? (i := 3) rfl) (by decide +kernel) kw_1301 kw_1298 (by omega) rfl (Nat.le_of_ble_eq_true rfl) he rfl hc6 hs6 dL_past_113 (kz_Cmono (fun v M4 h => ?_) (fun _ _ h => h) h)
    obtain ⟨r5, rfl, h⟩ := h
    show kz_Z G (d + 7) mc ms mL_past Qr Qx 118 [(1, .int x1), (2, .ref x2), (3, .ref x3), (4, .ref x4)] [.ref r5] M4 (c + mc6) (sl + ms6)
    refine kz_astore (pc := 118) (i := 4) (v := .ref r5) (ls' := [(1, .int x1), (2, .ref x2), (3, .ref x3)]) rfl (by decide) rfl dL_past_118 ?_
    refine kz_sub [3, 0] rfl ?_
    exact h
  · replace h := h.2 hb
    refine kz_aload (pc := 29) 3 (v := .ref x4) (i := 4) rfl rfl dL_past_29 ?_
    obtain ⟨⟨fs20, he⟩, h⟩ := h
    refine kz_callF (pc := 31) (μ' := mJx35411_next_0502b) (x := ⟨"java/util/Iterator", "next", "()Ljava/lang/Object;"⟩) (ci := 17) (q := (RJx35411, TJx35411, 4)) (b := x4) (d' := d + 6) (mc' := 0) (ms' := 0) (As := []) (st := []) (c := c) (sl := sl) kmJx35411_next_0502b rfl kw_1341 (List.mem_of_getElem? (i := 6) rfl) (by decide +kernel) kw_1339 kw_1336 (by omega) rfl (Nat.le_of_ble_eq_true rfl) he rfl hc hs dL_past_31 (kz_Cmono (fun v M8 h => ?_) (fun _ _ h => h) h)
    obtain ⟨r9, rfl, h⟩ := h
    show kz_Z G (d + 7) mc ms mL_past Qr Qx 36 [(1, .int x1), (2, .ref x2), (3, .ref x3), (4, .ref x4)] [.ref r9] M8 c sl
    obtain ⟨⟨fs11, hM⟩, h⟩ := h
    refine kz_castS (pc := 36) (ci := 12) (q := (RX13, TX13, 3)) rfl kw_954 hM dL_past_36 ?_
    refine kz_astore (pc := 39) (i := 5) (v := .ref r9) (ls' := [(1, .int x1), (2, .ref x2), (3, .ref x3), (4, .ref x4)]) rfl (by decide) rfl dL_past_39 ?_
    refine kz_aload (pc := 41) 0 (v := .ref r9) (i := 5) rfl rfl dL_past_41 ?_
    obtain ⟨fs12, v13, hM, hv, h⟩ := h
    refine kz_getfN (pc := 43) (k := 0) kcX13 hM hv (by decide) kw_1251 dL_past_43 ?_
    refine kz_iload_n (pc := 46) 1 (i := 1) rfl rfl dL_past_46 ?_
    refine kz_icmp_eq (pc := 47) (tgt := 53) (by decide) dL_past_47 (fun hb => ?_) (fun hb => ?_)
    · replace h := h.1 hb
      refine kz_aload (pc := 53) 0 (v := .ref r9) (i := 5) rfl rfl dL_past_53 ?_
      obtain ⟨fs14, v15, hM, hv, h⟩ := h
      refine kz_getfN (pc := 55) (k := 2) kcX13 hM hv (by decide) kw_1254 dL_past_55 ?_
      obtain ⟨⟨fs19, he⟩, h⟩ := h
      obtain ⟨mc18, ms18, hc18, hs18, h⟩ := h
      refine kz_callF (pc := 58) (μ' := mJx4a65c_iterator_32c93) (x := ⟨"java/util/List", "iterator", "()Ljava/util/Iterator;"⟩) (ci := 16) (q := (RJx4a65c, TJx4a65c, 3)) (b := v15) (d' := d + 6) (mc' := mc18) (ms' := ms18) (As := []) (st := []) (c := c) (sl := sl) kmJx4a65c_iterator_32c93 rfl kw_1303 (List.mem_of_getElem? (i := 3) rfl) (by decide +kernel) kw_1301 kw_1298 (by omega) rfl (Nat.le_of_ble_eq_true rfl) he rfl hc18 hs18 dL_past_58 (kz_Cmono (fun v M16 h => ?_) (fun _ _ h => h) h)
      obtain ⟨r17, rfl, h⟩ := h
      show kz_Z G (d + 7) mc ms mL_past Qr Qx 63 [(5, .ref r9), (1, .int x1), (2, .ref x2), (3, .ref x3), (4, .ref x4)] [.ref r17] M16 (c + mc18) (sl + ms18)
      refine kz_astore (pc := 63) (i := 6) (v := .ref r17) (ls' := [(5, .ref r9), (1, .int x1), (2, .ref x2), (3, .ref x3), (4, .ref x4)]) rfl (by decide) rfl dL_past_63 ?_
      refine kz_sub [2, 3, 4, 5, 0] rfl ?_
      exact h
    · replace h := h.2 hb
      refine kz_goto (pc := 50) (tgt := 19) (by decide) dL_past_50 ?_
      refine kz_sub [1, 2, 3, 4] rfl ?_
      exact h
theorem rL_past_65 {G : kz_G} {d : Nat} {mc ms : Nat} {Qr : Option Value → kz_M → Prop} {Qx : String → kz_M → Prop} {x1 : Int32} {x2 : Nat} {x3 : Nat} {x4 : Nat} {x6 : Nat}  {M : kz_M} {c sl : Nat} (hc : c ≤ mc) (hs : sl ≤ ms) (h : (∃ fs15, (M).1 x6 = some (.inl (17, fs15))) ∧ kz_C G (d + 6) 0 0 mJx35411_hasNext_aae02 [.ref x6] M (fun v M1 => ∃ r2 : Int32, v = some (.int r2) ∧ ((r2 = 0 → zL_past_19 G d mc ms Qr Qx x1 x2 x3 x4 M1 c sl) ∧ (¬ r2 = 0 → (∃ fs14, (M1).1 x6 = some (.inl (17, fs14))) ∧ kz_C G (d + 6) 0 0 mJx35411_next_0502b [.ref x6] M1 (fun v M4 => ∃ r5 : Nat, v = some (.ref r5) ∧ ((∃ fs7, (M4).1 r5 = some (.inl (11, fs7))) ∧ (∃ fs8 v9, (M4).1 r5 = some (.inl (11, fs8)) ∧ fs8[5]? = some (.int v9) ∧ ((¬ (v9 - v9 / 2 * 2) = 0 → zL_past_65 G d mc ms Qr Qx x1 x2 x3 x4 x6 M4 c sl) ∧ ((v9 - v9 / 2 * 2) = 0 → (∃ fs13, (M4).1 x3 = some (.inl (16, fs13))) ∧ ∃ mc12 ms12, c + mc12 ≤ mc ∧ sl + ms12 ≤ ms ∧ kz_C G (d + 6) mc12 ms12 mJx4a65c_add_9ea2d [.ref x3, .ref r5] M4 (fun v M10 => ∃ r11 : Int32, v = some (.int r11) ∧ (zL_past_65 G d mc ms Qr Qx x1 x2 x3 x4 x6 M10 (c + mc12) (sl + ms12))) (fun _ _ => False)))))) (fun _ _ => False)))) (fun _ _ => False)) : zL_past_65 G d mc ms Qr Qx x1 x2 x3 x4 x6  M c sl := by
  show kz_Z G (d + 7) mc ms mL_past Qr Qx 65 [(1, .int x1), (2, .ref x2), (3, .ref x3), (4, .ref x4), (6, .ref x6)] [] M c sl
  refine kz_aload (pc := 65) 4 (v := .ref x6) (i := 6) rfl rfl dL_past_65 ?_
  obtain ⟨⟨fs15, he⟩, h⟩ := h
  refine kz_callF (pc := 67) (μ' := mJx35411_hasNext_aae02) (x := ⟨"java/util/Iterator", "hasNext", "()Z"⟩) (ci := 17) (q := (RJx35411, TJx35411, 4)) (b := x6) (d' := d + 6) (mc' := 0) (ms' := 0) (As := []) (st := []) (c := c) (sl := sl) kmJx35411_hasNext_aae02 rfl kw_1332 (List.mem_of_getElem? (i := 5) rfl) (by decide +kernel) kw_1330 kw_1326 (by omega) rfl (Nat.le_of_ble_eq_true rfl) he rfl hc hs dL_past_67 (kz_Cmono (fun v M1 h => ?_) (fun _ _ h => h) h)
  obtain ⟨r2, rfl, h⟩ := h
  show kz_Z G (d + 7) mc ms mL_past Qr Qx 72 [(1, .int x1), (2, .ref x2), (3, .ref x3), (4, .ref x4), (6, .ref x6)] [.int r2] M1 c sl
  refine kz_if_eq (pc := 72) (tgt := 109) (by decide) dL_past_72 (fun hb => ?_) (fun hb => ?_)
  · replace h := h.1 hb
    refine kz_goto (pc := 109) (tgt := 19) (by decide) dL_past_109 ?_
    refine kz_sub [0, 1, 2, 3] rfl ?_
    exact h
  · replace h := h.2 hb
    refine kz_aload (pc := 75) 4 (v := .ref x6) (i := 6) rfl rfl dL_past_75 ?_
    obtain ⟨⟨fs14, he⟩, h⟩ := h
    refine kz_callF (pc := 77) (μ' := mJx35411_next_0502b) (x := ⟨"java/util/Iterator", "next", "()Ljava/lang/Object;"⟩) (ci := 17) (q := (RJx35411, TJx35411, 4)) (b := x6) (d' := d + 6) (mc' := 0) (ms' := 0) (As := []) (st := []) (c := c) (sl := sl) kmJx35411_next_0502b rfl kw_1341 (List.mem_of_getElem? (i := 6) rfl) (by decide +kernel) kw_1339 kw_1336 (by omega) rfl (Nat.le_of_ble_eq_true rfl) he rfl hc hs dL_past_77 (kz_Cmono (fun v M4 h => ?_) (fun _ _ h => h) h)
    obtain ⟨r5, rfl, h⟩ := h
    show kz_Z G (d + 7) mc ms mL_past Qr Qx 82 [(1, .int x1), (2, .ref x2), (3, .ref x3), (4, .ref x4), (6, .ref x6)] [.ref r5] M4 c sl
    obtain ⟨⟨fs7, hM⟩, h⟩ := h
    refine kz_castS (pc := 82) (ci := 11) (q := (RX12, TX12, 6)) rfl kw_978 hM dL_past_82 ?_
    refine kz_astore (pc := 85) (i := 7) (v := .ref r5) (ls' := [(1, .int x1), (2, .ref x2), (3, .ref x3), (4, .ref x4), (6, .ref x6)]) rfl (by decide) rfl dL_past_85 ?_
    refine kz_aload (pc := 87) 0 (v := .ref r5) (i := 7) rfl rfl dL_past_87 ?_
    obtain ⟨fs8, v9, hM, hv, h⟩ := h
    refine kz_getfN (pc := 89) (k := 5) kcX12 hM hv (by decide) kw_1273 dL_past_89 ?_
    refine kz_iconst (pc := 92) (v := 2) (by decide) dL_past_92 ?_
    refine kz_irem (pc := 93) (by decide) dL_past_93 ?_
    refine kz_if_ne (pc := 94) (tgt := 106) (by decide) dL_past_94 (fun hb => ?_) (fun hb => ?_)
    · replace h := h.1 hb
      refine kz_goto (pc := 106) (tgt := 65) (by decide) dL_past_106 ?_
      refine kz_sub [1, 2, 3, 4, 5] rfl ?_
      exact h
    · replace h := h.2 hb
      refine kz_aload_n (pc := 97) 3 (v := .ref x3) (i := 3) rfl rfl rfl dL_past_97 ?_
      refine kz_aload (pc := 98) 0 (v := .ref r5) (i := 7) rfl rfl dL_past_98 ?_
      obtain ⟨⟨fs13, he⟩, h⟩ := h
      obtain ⟨mc12, ms12, hc12, hs12, h⟩ := h
      refine kz_callF (pc := 100) (μ' := mJx4a65c_add_9ea2d) (x := ⟨"java/util/List", "add", "(Ljava/lang/Object;)Z"⟩) (ci := 16) (q := (RJx4a65c, TJx4a65c, 3)) (b := x3) (d' := d + 6) (mc' := mc12) (ms' := ms12) (As := [.ref r5]) (st := []) (c := c) (sl := sl) kmJx4a65c_add_9ea2d rfl kw_1354 (List.mem_of_getElem? (i := 4) rfl) (by decide +kernel) kw_1352 kw_1349 (by omega) rfl (Nat.le_of_ble_eq_true rfl) he rfl hc12 hs12 dL_past_100 (kz_Cmono (fun v M10 h => ?_) (fun _ _ h => h) h)
      obtain ⟨r11, rfl, h⟩ := h
      show kz_Z G (d + 7) mc ms mL_past Qr Qx 105 [(7, .ref r5), (1, .int x1), (2, .ref x2), (3, .ref x3), (4, .ref x4), (6, .ref x6)] [.int r11] M10 (c + mc12) (sl + ms12)
      refine kz_pop (pc := 105) rfl dL_past_105 ?_
      refine kz_goto (pc := 106) (tgt := 65) (by decide) dL_past_106 ?_
      refine kz_sub [1, 2, 3, 4, 5] rfl ?_
      exact h
theorem rL_past_120 {G : kz_G} {d : Nat} {mc ms : Nat} {Qr : Option Value → kz_M → Prop} {Qx : String → kz_M → Prop} {x3 : Nat} {x4 : Nat}  {M : kz_M} {c sl : Nat} (hc : c ≤ mc) (hs : sl ≤ ms) (h : (∃ fs15, (M).1 x4 = some (.inl (17, fs15))) ∧ kz_C G (d + 6) 0 0 mJx35411_hasNext_aae02 [.ref x4] M (fun v M1 => ∃ r2 : Int32, v = some (.int r2) ∧ ((r2 = 0 → Qr (some (.ref x3)) M1) ∧ (¬ r2 = 0 → (∃ fs14, (M1).1 x4 = some (.inl (17, fs14))) ∧ kz_C G (d + 6) 0 0 mJx35411_next_0502b [.ref x4] M1 (fun v M4 => ∃ r5 : Nat, v = some (.ref r5) ∧ ((∃ fs7, (M4).1 r5 = some (.inl (11, fs7))) ∧ (∃ fs8 v9, (M4).1 r5 = some (.inl (11, fs8)) ∧ fs8[4]? = some (.int v9) ∧ ((¬ v9 = 0 → zL_past_120 G d mc ms Qr Qx x3 x4 M4 c sl) ∧ (v9 = 0 → (∃ fs13, (M4).1 x3 = some (.inl (16, fs13))) ∧ ∃ mc12 ms12, c + mc12 ≤ mc ∧ sl + ms12 ≤ ms ∧ kz_C G (d + 6) mc12 ms12 mJx4a65c_add_9ea2d [.ref x3, .ref r5] M4 (fun v M10 => ∃ r11 : Int32, v = some (.int r11) ∧ (zL_past_120 G d mc ms Qr Qx x3 x4 M10 (c + mc12) (sl + ms12))) (fun _ _ => False)))))) (fun _ _ => False)))) (fun _ _ => False)) : zL_past_120 G d mc ms Qr Qx x3 x4  M c sl := by
  show kz_Z G (d + 7) mc ms mL_past Qr Qx 120 [(3, .ref x3), (4, .ref x4)] [] M c sl
  refine kz_aload (pc := 120) 1 (v := .ref x4) (i := 4) rfl rfl dL_past_120 ?_
  obtain ⟨⟨fs15, he⟩, h⟩ := h
  refine kz_callF (pc := 122) (μ' := mJx35411_hasNext_aae02) (x := ⟨"java/util/Iterator", "hasNext", "()Z"⟩) (ci := 17) (q := (RJx35411, TJx35411, 4)) (b := x4) (d' := d + 6) (mc' := 0) (ms' := 0) (As := []) (st := []) (c := c) (sl := sl) kmJx35411_hasNext_aae02 rfl kw_1332 (List.mem_of_getElem? (i := 5) rfl) (by decide +kernel) kw_1330 kw_1326 (by omega) rfl (Nat.le_of_ble_eq_true rfl) he rfl hc hs dL_past_122 (kz_Cmono (fun v M1 h => ?_) (fun _ _ h => h) h)
  obtain ⟨r2, rfl, h⟩ := h
  show kz_Z G (d + 7) mc ms mL_past Qr Qx 127 [(3, .ref x3), (4, .ref x4)] [.int r2] M1 c sl
  refine kz_if_eq (pc := 127) (tgt := 162) (by decide) dL_past_127 (fun hb => ?_) (fun hb => ?_)
  · replace h := h.1 hb
    refine kz_aload_n (pc := 162) 0 (v := .ref x3) (i := 3) rfl rfl rfl dL_past_162 ?_
    exact kz_aret (pc := 163) (v := .ref x3) rfl rfl (Or.inl ⟨_, rfl⟩) hc hs dL_past_163 h
  · replace h := h.2 hb
    refine kz_aload (pc := 130) 1 (v := .ref x4) (i := 4) rfl rfl dL_past_130 ?_
    obtain ⟨⟨fs14, he⟩, h⟩ := h
    refine kz_callF (pc := 132) (μ' := mJx35411_next_0502b) (x := ⟨"java/util/Iterator", "next", "()Ljava/lang/Object;"⟩) (ci := 17) (q := (RJx35411, TJx35411, 4)) (b := x4) (d' := d + 6) (mc' := 0) (ms' := 0) (As := []) (st := []) (c := c) (sl := sl) kmJx35411_next_0502b rfl kw_1341 (List.mem_of_getElem? (i := 6) rfl) (by decide +kernel) kw_1339 kw_1336 (by omega) rfl (Nat.le_of_ble_eq_true rfl) he rfl hc hs dL_past_132 (kz_Cmono (fun v M4 h => ?_) (fun _ _ h => h) h)
    obtain ⟨r5, rfl, h⟩ := h
    show kz_Z G (d + 7) mc ms mL_past Qr Qx 137 [(3, .ref x3), (4, .ref x4)] [.ref r5] M4 c sl
    obtain ⟨⟨fs7, hM⟩, h⟩ := h
    refine kz_castS (pc := 137) (ci := 11) (q := (RX12, TX12, 6)) rfl kw_978 hM dL_past_137 ?_
    refine kz_astore (pc := 140) (i := 5) (v := .ref r5) (ls' := [(3, .ref x3), (4, .ref x4)]) rfl (by decide) rfl dL_past_140 ?_
    refine kz_aload (pc := 142) 0 (v := .ref r5) (i := 5) rfl rfl dL_past_142 ?_
    obtain ⟨fs8, v9, hM, hv, h⟩ := h
    refine kz_getfN (pc := 144) (k := 4) kcX12 hM hv (by decide) kw_1272 dL_past_144 ?_
    refine kz_if_ne (pc := 147) (tgt := 159) (by decide) dL_past_147 (fun hb => ?_) (fun hb => ?_)
    · replace h := h.1 hb
      refine kz_goto (pc := 159) (tgt := 120) (by decide) dL_past_159 ?_
      refine kz_sub [1, 2] rfl ?_
      exact h
    · replace h := h.2 hb
      refine kz_aload_n (pc := 150) 1 (v := .ref x3) (i := 3) rfl rfl rfl dL_past_150 ?_
      refine kz_aload (pc := 151) 0 (v := .ref r5) (i := 5) rfl rfl dL_past_151 ?_
      obtain ⟨⟨fs13, he⟩, h⟩ := h
      obtain ⟨mc12, ms12, hc12, hs12, h⟩ := h
      refine kz_callF (pc := 153) (μ' := mJx4a65c_add_9ea2d) (x := ⟨"java/util/List", "add", "(Ljava/lang/Object;)Z"⟩) (ci := 16) (q := (RJx4a65c, TJx4a65c, 3)) (b := x3) (d' := d + 6) (mc' := mc12) (ms' := ms12) (As := [.ref r5]) (st := []) (c := c) (sl := sl) kmJx4a65c_add_9ea2d rfl kw_1354 (List.mem_of_getElem? (i := 4) rfl) (by decide +kernel) kw_1352 kw_1349 (by omega) rfl (Nat.le_of_ble_eq_true rfl) he rfl hc12 hs12 dL_past_153 (kz_Cmono (fun v M10 h => ?_) (fun _ _ h => h) h)
      obtain ⟨r11, rfl, h⟩ := h
      show kz_Z G (d + 7) mc ms mL_past Qr Qx 158 [(5, .ref r5), (3, .ref x3), (4, .ref x4)] [.int r11] M10 (c + mc12) (sl + ms12)
      refine kz_pop (pc := 158) rfl dL_past_158 ?_
      refine kz_goto (pc := 159) (tgt := 120) (by decide) dL_past_159 ?_
      refine kz_sub [1, 2] rfl ?_
      exact h
theorem dL_reason_0 : decode cL_reason 0 = .ok (.aload_n 2, 1) := by decide +kernel
theorem dL_reason_1 : decode cL_reason 1 = .ok (.invokeinterface 123 1, 5) := by decide +kernel
theorem dL_reason_6 : decode cL_reason 6 = .ok (.astore_n 3, 1) := by decide +kernel
theorem dL_reason_7 : decode cL_reason 7 = .ok (.aload_n 3, 1) := by decide +kernel
theorem dL_reason_8 : decode cL_reason 8 = .ok (.invokeinterface 129 1, 5) := by decide +kernel
theorem dL_reason_13 : decode cL_reason 13 = .ok (.ifCond .eq 28, 3) := by decide +kernel
theorem dL_reason_16 : decode cL_reason 16 = .ok (.aload_n 3, 1) := by decide +kernel
theorem dL_reason_17 : decode cL_reason 17 = .ok (.invokeinterface 135 1, 5) := by decide +kernel
theorem dL_reason_22 : decode cL_reason 22 = .ok (.checkcast 116, 3) := by decide +kernel
theorem dL_reason_25 : decode cL_reason 25 = .ok (.astore 4, 2) := by decide +kernel
theorem dL_reason_27 : decode cL_reason 27 = .ok (.aload 4, 2) := by decide +kernel
theorem dL_reason_29 : decode cL_reason 29 = .ok (.aload_n 1, 1) := by decide +kernel
theorem dL_reason_30 : decode cL_reason 30 = .ok (.invokestatic 157, 3) := by decide +kernel
theorem dL_reason_33 : decode cL_reason 33 = .ok (.ifCond .eq 5, 3) := by decide +kernel
theorem dL_reason_36 : decode cL_reason 36 = .ok (.iconst 1, 1) := by decide +kernel
theorem dL_reason_37 : decode cL_reason 37 = .ok (.ireturn, 1) := by decide +kernel
theorem dL_reason_38 : decode cL_reason 38 = .ok (.goto (-31), 3) := by decide +kernel
theorem dL_reason_41 : decode cL_reason 41 = .ok (.iconst 0, 1) := by decide +kernel
theorem dL_reason_42 : decode cL_reason 42 = .ok (.istore_n 3, 1) := by decide +kernel
theorem dL_reason_43 : decode cL_reason 43 = .ok (.iload_n 3, 1) := by decide +kernel
theorem dL_reason_44 : decode cL_reason 44 = .ok (.iconst 4, 1) := by decide +kernel
theorem dL_reason_45 : decode cL_reason 45 = .ok (.if_icmp .ge 23, 3) := by decide +kernel
theorem dL_reason_48 : decode cL_reason 48 = .ok (.aload_n 1, 1) := by decide +kernel
theorem dL_reason_49 : decode cL_reason 49 = .ok (.iload_n 3, 1) := by decide +kernel
theorem dL_reason_50 : decode cL_reason 50 = .ok (.invokestatic 161, 3) := by decide +kernel
theorem dL_reason_53 : decode cL_reason 53 = .ok (.aload_n 0, 1) := by decide +kernel
theorem dL_reason_54 : decode cL_reason 54 = .ok (.getfield 50, 3) := by decide +kernel
theorem dL_reason_57 : decode cL_reason 57 = .ok (.if_icmp .lt 5, 3) := by decide +kernel
theorem dL_reason_60 : decode cL_reason 60 = .ok (.iconst 2, 1) := by decide +kernel
theorem dL_reason_61 : decode cL_reason 61 = .ok (.ireturn, 1) := by decide +kernel
theorem dL_reason_62 : decode cL_reason 62 = .ok (.iinc 3 1, 3) := by decide +kernel
theorem dL_reason_65 : decode cL_reason 65 = .ok (.goto (-22), 3) := by decide +kernel
theorem dL_reason_68 : decode cL_reason 68 = .ok (.iconst 0, 1) := by decide +kernel
theorem dL_reason_69 : decode cL_reason 69 = .ok (.istore_n 3, 1) := by decide +kernel
theorem dL_reason_70 : decode cL_reason 70 = .ok (.iload_n 3, 1) := by decide +kernel
theorem dL_reason_71 : decode cL_reason 71 = .ok (.iconst 4, 1) := by decide +kernel
theorem dL_reason_72 : decode cL_reason 72 = .ok (.if_icmp .ge 86, 3) := by decide +kernel
theorem dL_reason_75 : decode cL_reason 75 = .ok (.aload_n 1, 1) := by decide +kernel
theorem dL_reason_76 : decode cL_reason 76 = .ok (.iload_n 3, 1) := by decide +kernel
theorem dL_reason_77 : decode cL_reason 77 = .ok (.invokestatic 161, 3) := by decide +kernel
theorem dL_reason_80 : decode cL_reason 80 = .ok (.ifCond .ne 6, 3) := by decide +kernel
theorem dL_reason_83 : decode cL_reason 83 = .ok (.goto 69, 3) := by decide +kernel
theorem dL_reason_86 : decode cL_reason 86 = .ok (.iconst 0, 1) := by decide +kernel
theorem dL_reason_87 : decode cL_reason 87 = .ok (.istore 4, 2) := by decide +kernel
theorem dL_reason_89 : decode cL_reason 89 = .ok (.aload_n 2, 1) := by decide +kernel
theorem dL_reason_90 : decode cL_reason 90 = .ok (.invokeinterface 123 1, 5) := by decide +kernel
theorem dL_reason_95 : decode cL_reason 95 = .ok (.astore 5, 2) := by decide +kernel
theorem dL_reason_97 : decode cL_reason 97 = .ok (.aload 5, 2) := by decide +kernel
theorem dL_reason_99 : decode cL_reason 99 = .ok (.invokeinterface 129 1, 5) := by decide +kernel
theorem dL_reason_104 : decode cL_reason 104 = .ok (.ifCond .eq 37, 3) := by decide +kernel
theorem dL_reason_107 : decode cL_reason 107 = .ok (.aload 5, 2) := by decide +kernel
theorem dL_reason_109 : decode cL_reason 109 = .ok (.invokeinterface 135 1, 5) := by decide +kernel
theorem dL_reason_114 : decode cL_reason 114 = .ok (.checkcast 116, 3) := by decide +kernel
theorem dL_reason_117 : decode cL_reason 117 = .ok (.astore 6, 2) := by decide +kernel
theorem dL_reason_119 : decode cL_reason 119 = .ok (.iload 4, 2) := by decide +kernel
theorem dL_reason_121 : decode cL_reason 121 = .ok (.aload 6, 2) := by decide +kernel
theorem dL_reason_123 : decode cL_reason 123 = .ok (.iload_n 3, 1) := by decide +kernel
theorem dL_reason_124 : decode cL_reason 124 = .ok (.invokestatic 161, 3) := by decide +kernel
theorem dL_reason_127 : decode cL_reason 127 = .ok (.ifCond .le 7, 3) := by decide +kernel
theorem dL_reason_130 : decode cL_reason 130 = .ok (.iconst 1, 1) := by decide +kernel
theorem dL_reason_131 : decode cL_reason 131 = .ok (.goto 4, 3) := by decide +kernel
theorem dL_reason_134 : decode cL_reason 134 = .ok (.iconst 0, 1) := by decide +kernel
theorem dL_reason_135 : decode cL_reason 135 = .ok (.iadd, 1) := by decide +kernel
theorem dL_reason_136 : decode cL_reason 136 = .ok (.istore 4, 2) := by decide +kernel
theorem dL_reason_138 : decode cL_reason 138 = .ok (.goto (-41), 3) := by decide +kernel
theorem dL_reason_141 : decode cL_reason 141 = .ok (.iload 4, 2) := by decide +kernel
theorem dL_reason_143 : decode cL_reason 143 = .ok (.aload_n 0, 1) := by decide +kernel
theorem dL_reason_144 : decode cL_reason 144 = .ok (.getfield 53, 3) := by decide +kernel
theorem dL_reason_147 : decode cL_reason 147 = .ok (.if_icmp .ge 5, 3) := by decide +kernel
theorem dL_reason_150 : decode cL_reason 150 = .ok (.iconst 0, 1) := by decide +kernel
theorem dL_reason_151 : decode cL_reason 151 = .ok (.ireturn, 1) := by decide +kernel
theorem dL_reason_152 : decode cL_reason 152 = .ok (.iinc 3 1, 3) := by decide +kernel
theorem dL_reason_155 : decode cL_reason 155 = .ok (.goto (-85), 3) := by decide +kernel
theorem dL_reason_158 : decode cL_reason 158 = .ok (.iconst 3, 1) := by decide +kernel
theorem dL_reason_159 : decode cL_reason 159 = .ok (.ireturn, 1) := by decide +kernel
def zL_reason_7 (G : kz_G) (d mc ms : Nat) (Qr : Option Value → kz_M → Prop) (Qx : String → kz_M → Prop) (x0 : Nat) (x1 : Nat) (x2 : Nat) (x3 : Nat)  (M : kz_M) (c sl : Nat) : Prop := kz_Z G (d + 3) mc ms mL_reason Qr Qx 7 [(0, .ref x0), (1, .ref x1), (2, .ref x2), (3, .ref x3)] [] M c sl
def zL_reason_43 (G : kz_G) (d mc ms : Nat) (Qr : Option Value → kz_M → Prop) (Qx : String → kz_M → Prop) (x0 : Nat) (x1 : Nat) (x2 : Nat) (x3 : Int32)  (M : kz_M) (c sl : Nat) : Prop := kz_Z G (d + 3) mc ms mL_reason Qr Qx 43 [(0, .ref x0), (1, .ref x1), (2, .ref x2), (3, .int x3)] [] M c sl
def zL_reason_70 (G : kz_G) (d mc ms : Nat) (Qr : Option Value → kz_M → Prop) (Qx : String → kz_M → Prop) (x0 : Nat) (x1 : Nat) (x2 : Nat) (x3 : Int32)  (M : kz_M) (c sl : Nat) : Prop := kz_Z G (d + 3) mc ms mL_reason Qr Qx 70 [(0, .ref x0), (1, .ref x1), (2, .ref x2), (3, .int x3)] [] M c sl
def zL_reason_97 (G : kz_G) (d mc ms : Nat) (Qr : Option Value → kz_M → Prop) (Qx : String → kz_M → Prop) (x0 : Nat) (x1 : Nat) (x2 : Nat) (x3 : Int32) (x4 : Int32) (x5 : Nat)  (M : kz_M) (c sl : Nat) : Prop := kz_Z G (d + 3) mc ms mL_reason Qr Qx 97 [(0, .ref x0), (1, .ref x1), (2, .ref x2), (3, .int x3), (4, .int x4), (5, .ref x5)] [] M c sl
theorem rL_reason_0 {G : kz_G} {d : Nat} {mc ms : Nat} {Qr : Option Value → kz_M → Prop} {Qx : String → kz_M → Prop} {a0 : Nat} {p1 : Nat} {p2 : Nat}  {M : kz_M} (h : (∃ fs4, (M).1 p2 = some (.inl (16, fs4))) ∧ ∃ mc3 ms3, 0 + mc3 ≤ mc ∧ 0 + ms3 ≤ ms ∧ kz_C G (d + 2) mc3 ms3 mJx4a65c_iterator_32c93 [.ref p2] M (fun v M1 => ∃ r2 : Nat, v = some (.ref r2) ∧ (zL_reason_7 G d mc ms Qr Qx a0 p1 p2 r2 M1 (0 + mc3) (0 + ms3))) (fun _ _ => False)) : kz_C G (d + 3) mc ms mL_reason [.ref a0, .ref p1, .ref p2] M Qr Qx := by
  refine kz_enter (n := 2) kmL_reason.1 (Nat.le_of_ble_eq_true rfl) (ls := [(0, .ref a0), (1, .ref p1), (2, .ref p2)]) rfl ?_
  refine kz_aload_n (pc := 0) 2 (v := .ref p2) (i := 2) rfl rfl rfl dL_reason_0 ?_
  obtain ⟨⟨fs4, he⟩, h⟩ := h
  obtain ⟨mc3, ms3, hc3, hs3, h⟩ := h
  refine kz_callF (pc := 1) (μ' := mJx4a65c_iterator_32c93) (x := ⟨"java/util/List", "iterator", "()Ljava/util/Iterator;"⟩) (ci := 16) (q := (RJx4a65c, TJx4a65c, 3)) (b := p2) (d' := d + 2) (mc' := mc3) (ms' := ms3) (As := []) (st := []) (c := 0) (sl := 0) kmJx4a65c_iterator_32c93 rfl kw_1303 (List.mem_of_getElem? (i := 3) rfl) (by decide +kernel) kw_1301 kw_1298 (by omega) rfl (Nat.le_of_ble_eq_true rfl) he rfl hc3 hs3 dL_reason_1 (kz_Cmono (fun v M1 h => ?_) (fun _ _ h => h) h)
  obtain ⟨r2, rfl, h⟩ := h
  show kz_Z G (d + 3) mc ms mL_reason Qr Qx 6 [(0, .ref a0), (1, .ref p1), (2, .ref p2)] [.ref r2] M1 (0 + mc3) (0 + ms3)
  refine kz_astore_n (pc := 6) (i := 3) (v := .ref r2) (ls' := [(0, .ref a0), (1, .ref p1), (2, .ref p2)]) rfl rfl (by decide) rfl dL_reason_6 ?_
  refine kz_sub [1, 2, 3, 0] rfl ?_
  exact h
theorem rL_reason_7 {G : kz_G} {d : Nat} {mc ms : Nat} {Qr : Option Value → kz_M → Prop} {Qx : String → kz_M → Prop} {x0 : Nat} {x1 : Nat} {x2 : Nat} {x3 : Nat}  {M : kz_M} {c sl : Nat} (hc : c ≤ mc) (hs : sl ≤ ms) (h : (∃ fs13, (M).1 x3 = some (.inl (17, fs13))) ∧ kz_C G (d + 2) 0 0 mJx35411_hasNext_aae02 [.ref x3] M (fun v M1 => ∃ r2 : Int32, v = some (.int r2) ∧ ((r2 = 0 → zL_reason_43 G d mc ms Qr Qx x0 x1 x2 0 M1 c sl) ∧ (¬ r2 = 0 → (∃ fs12, (M1).1 x3 = some (.inl (17, fs12))) ∧ kz_C G (d + 2) 0 0 mJx35411_next_0502b [.ref x3] M1 (fun v M4 => ∃ r5 : Nat, v = some (.ref r5) ∧ ((∃ fs7, (M4).1 r5 = some (.inl (11, fs7))) ∧ (kz_C G (d + 2) 0 0 mL_areAlike [.ref r5, .ref x1] M4 (fun v M8 => ∃ r9 : Int32, v = some (.int r9) ∧ ((r9 = 0 → zL_reason_7 G d mc ms Qr Qx x0 x1 x2 x3 M8 c sl) ∧ (¬ r9 = 0 → Qr (some (.int 1)) M8))) Qx))) (fun _ _ => False)))) (fun _ _ => False)) : zL_reason_7 G d mc ms Qr Qx x0 x1 x2 x3  M c sl := by
  show kz_Z G (d + 3) mc ms mL_reason Qr Qx 7 [(0, .ref x0), (1, .ref x1), (2, .ref x2), (3, .ref x3)] [] M c sl
  refine kz_aload_n (pc := 7) 3 (v := .ref x3) (i := 3) rfl rfl rfl dL_reason_7 ?_
  obtain ⟨⟨fs13, he⟩, h⟩ := h
  refine kz_callF (pc := 8) (μ' := mJx35411_hasNext_aae02) (x := ⟨"java/util/Iterator", "hasNext", "()Z"⟩) (ci := 17) (q := (RJx35411, TJx35411, 4)) (b := x3) (d' := d + 2) (mc' := 0) (ms' := 0) (As := []) (st := []) (c := c) (sl := sl) kmJx35411_hasNext_aae02 rfl kw_1332 (List.mem_of_getElem? (i := 5) rfl) (by decide +kernel) kw_1330 kw_1326 (by omega) rfl (Nat.le_of_ble_eq_true rfl) he rfl hc hs dL_reason_8 (kz_Cmono (fun v M1 h => ?_) (fun _ _ h => h) h)
  obtain ⟨r2, rfl, h⟩ := h
  show kz_Z G (d + 3) mc ms mL_reason Qr Qx 13 [(0, .ref x0), (1, .ref x1), (2, .ref x2), (3, .ref x3)] [.int r2] M1 c sl
  refine kz_if_eq (pc := 13) (tgt := 41) (by decide) dL_reason_13 (fun hb => ?_) (fun hb => ?_)
  · replace h := h.1 hb
    refine kz_iconst (pc := 41) (v := 0) (by decide) dL_reason_41 ?_
    refine kz_istore_n (pc := 42) (i := 3) (ls' := [(0, .ref x0), (1, .ref x1), (2, .ref x2)]) rfl (by decide) rfl dL_reason_42 ?_
    refine kz_sub [1, 2, 3, 0] rfl ?_
    exact h
  · replace h := h.2 hb
    refine kz_aload_n (pc := 16) 3 (v := .ref x3) (i := 3) rfl rfl rfl dL_reason_16 ?_
    obtain ⟨⟨fs12, he⟩, h⟩ := h
    refine kz_callF (pc := 17) (μ' := mJx35411_next_0502b) (x := ⟨"java/util/Iterator", "next", "()Ljava/lang/Object;"⟩) (ci := 17) (q := (RJx35411, TJx35411, 4)) (b := x3) (d' := d + 2) (mc' := 0) (ms' := 0) (As := []) (st := []) (c := c) (sl := sl) kmJx35411_next_0502b rfl kw_1341 (List.mem_of_getElem? (i := 6) rfl) (by decide +kernel) kw_1339 kw_1336 (by omega) rfl (Nat.le_of_ble_eq_true rfl) he rfl hc hs dL_reason_17 (kz_Cmono (fun v M4 h => ?_) (fun _ _ h => h) h)
    obtain ⟨r5, rfl, h⟩ := h
    show kz_Z G (d + 3) mc ms mL_reason Qr Qx 22 [(0, .ref x0), (1, .ref x1), (2, .ref x2), (3, .ref x3)] [.ref r5] M4 c sl
    obtain ⟨⟨fs7, hM⟩, h⟩ := h
    refine kz_castS (pc := 22) (ci := 11) (q := (RX12, TX12, 6)) rfl kw_978 hM dL_reason_22 ?_
    refine kz_astore (pc := 25) (i := 4) (v := .ref r5) (ls' := [(0, .ref x0), (1, .ref x1), (2, .ref x2), (3, .ref x3)]) rfl (by decide) rfl dL_reason_25 ?_
    refine kz_aload (pc := 27) 0 (v := .ref r5) (i := 4) rfl rfl dL_reason_27 ?_
    refine kz_aload_n (pc := 29) 2 (v := .ref x1) (i := 1) rfl rfl rfl dL_reason_29 ?_
    refine kz_callS (pc := 30) (μ' := mL_areAlike) (d' := d + 2) (mc' := 0) (ms' := 0) (As := [.ref r5, .ref x1]) (st := []) (c := c) (sl := sl) kmL_areAlike kw_1411 (by omega) rfl (Nat.le_of_ble_eq_true rfl) hc hs dL_reason_30 (fun E M9 hx => kz_Tout rfl hc hs hx) (kz_Cmono (fun v M8 h => ?_) (fun _ _ h => h) h)
    obtain ⟨r9, rfl, h⟩ := h
    show kz_Z G (d + 3) mc ms mL_reason Qr Qx 33 [(4, .ref r5), (0, .ref x0), (1, .ref x1), (2, .ref x2), (3, .ref x3)] [.int r9] M8 c sl
    refine kz_if_eq (pc := 33) (tgt := 38) (by decide) dL_reason_33 (fun hb => ?_) (fun hb => ?_)
    · replace h := h.1 hb
      refine kz_goto (pc := 38) (tgt := 7) (by decide) dL_reason_38 ?_
      refine kz_sub [1, 2, 3, 4] rfl ?_
      exact h
    · replace h := h.2 hb
      refine kz_iconst (pc := 36) (v := 1) (by decide) dL_reason_36 ?_
      exact kz_iret (pc := 37) rfl hc hs dL_reason_37 h
theorem rL_reason_43 {G : kz_G} {d : Nat} {mc ms : Nat} {Qr : Option Value → kz_M → Prop} {Qx : String → kz_M → Prop} {x0 : Nat} {x1 : Nat} {x2 : Nat} {x3 : Int32}  {M : kz_M} {c sl : Nat} (hc : c ≤ mc) (hs : sl ≤ ms) (h : ((4 : Int32) ≤ x3 → zL_reason_70 G d mc ms Qr Qx x0 x1 x2 0 M c sl) ∧ (¬ (4 : Int32) ≤ x3 → kz_C G (d + 2) 0 0 mL_many [.ref x1, .int x3] M (fun v M1 => ∃ r2 : Int32, v = some (.int r2) ∧ (∃ fs4 v5, (M1).1 x0 = some (.inl (13, fs4)) ∧ fs4[7]? = some (.int v5) ∧ ((r2 < v5 → zL_reason_43 G d mc ms Qr Qx x0 x1 x2 (x3 + 1) M1 c sl) ∧ (¬ r2 < v5 → Qr (some (.int 2)) M1)))) Qx)) : zL_reason_43 G d mc ms Qr Qx x0 x1 x2 x3  M c sl := by
  show kz_Z G (d + 3) mc ms mL_reason Qr Qx 43 [(0, .ref x0), (1, .ref x1), (2, .ref x2), (3, .int x3)] [] M c sl
  refine kz_iload_n (pc := 43) 3 (i := 3) rfl rfl dL_reason_43 ?_
  refine kz_iconst (pc := 44) (v := 4) (by decide) dL_reason_44 ?_
  refine kz_icmp_ge (pc := 45) (tgt := 68) (by decide) dL_reason_45 (fun hb => ?_) (fun hb => ?_)
  · replace h := h.1 hb
    refine kz_iconst (pc := 68) (v := 0) (by decide) dL_reason_68 ?_
    refine kz_istore_n (pc := 69) (i := 3) (ls' := [(0, .ref x0), (1, .ref x1), (2, .ref x2)]) rfl (by decide) rfl dL_reason_69 ?_
    refine kz_sub [1, 2, 3, 0] rfl ?_
    exact h
  · replace h := h.2 hb
    refine kz_aload_n (pc := 48) 1 (v := .ref x1) (i := 1) rfl rfl rfl dL_reason_48 ?_
    refine kz_iload_n (pc := 49) 3 (i := 3) rfl rfl dL_reason_49 ?_
    refine kz_callS (pc := 50) (μ' := mL_many) (d' := d + 2) (mc' := 0) (ms' := 0) (As := [.ref x1, .int x3]) (st := []) (c := c) (sl := sl) kmL_many kw_998 (by omega) rfl (Nat.le_of_ble_eq_true rfl) hc hs dL_reason_50 (fun E M9 hx => kz_Tout rfl hc hs hx) (kz_Cmono (fun v M1 h => ?_) (fun _ _ h => h) h)
    obtain ⟨r2, rfl, h⟩ := h
    show kz_Z G (d + 3) mc ms mL_reason Qr Qx 53 [(0, .ref x0), (1, .ref x1), (2, .ref x2), (3, .int x3)] [.int r2] M1 c sl
    refine kz_aload_n (pc := 53) 0 (v := .ref x0) (i := 0) rfl rfl rfl dL_reason_53 ?_
    obtain ⟨fs4, v5, hM, hv, h⟩ := h
    refine kz_getf (pc := 54) (k := 7) kcL hM hv (by decide) kw_667 dL_reason_54 ?_
    refine kz_icmp_lt (pc := 57) (tgt := 62) (by decide) dL_reason_57 (fun hb => ?_) (fun hb => ?_)
    · replace h := h.1 hb
      refine kz_iinc (pc := 62) 3 (i := 3) (v := x3 + 1) (ls' := [(0, .ref x0), (1, .ref x1), (2, .ref x2)]) rfl (congrArg (fun z => x3 + z) (by decide)) (by decide) rfl dL_reason_62 ?_
      refine kz_goto (pc := 65) (tgt := 43) (by decide) dL_reason_65 ?_
      refine kz_sub [1, 2, 3, 0] rfl ?_
      exact h
    · replace h := h.2 hb
      refine kz_iconst (pc := 60) (v := 2) (by decide) dL_reason_60 ?_
      exact kz_iret (pc := 61) rfl hc hs dL_reason_61 h
theorem rL_reason_70 {G : kz_G} {d : Nat} {mc ms : Nat} {Qr : Option Value → kz_M → Prop} {Qx : String → kz_M → Prop} {x0 : Nat} {x1 : Nat} {x2 : Nat} {x3 : Int32}  {M : kz_M} {c sl : Nat} (hc : c ≤ mc) (hs : sl ≤ ms) (h : ((4 : Int32) ≤ x3 → Qr (some (.int 3)) M) ∧ (¬ (4 : Int32) ≤ x3 → kz_C G (d + 2) 0 0 mL_many [.ref x1, .int x3] M (fun v M1 => ∃ r2 : Int32, v = some (.int r2) ∧ ((¬ r2 = 0 → (∃ fs7, (M1).1 x2 = some (.inl (16, fs7))) ∧ ∃ mc6 ms6, c + mc6 ≤ mc ∧ sl + ms6 ≤ ms ∧ kz_C G (d + 2) mc6 ms6 mJx4a65c_iterator_32c93 [.ref x2] M1 (fun v M4 => ∃ r5 : Nat, v = some (.ref r5) ∧ (zL_reason_97 G d mc ms Qr Qx x0 x1 x2 x3 0 r5 M4 (c + mc6) (sl + ms6))) (fun _ _ => False)) ∧ (r2 = 0 → zL_reason_70 G d mc ms Qr Qx x0 x1 x2 (x3 + 1) M1 c sl))) Qx)) : zL_reason_70 G d mc ms Qr Qx x0 x1 x2 x3  M c sl := by
  show kz_Z G (d + 3) mc ms mL_reason Qr Qx 70 [(0, .ref x0), (1, .ref x1), (2, .ref x2), (3, .int x3)] [] M c sl
  refine kz_iload_n (pc := 70) 3 (i := 3) rfl rfl dL_reason_70 ?_
  refine kz_iconst (pc := 71) (v := 4) (by decide) dL_reason_71 ?_
  refine kz_icmp_ge (pc := 72) (tgt := 158) (by decide) dL_reason_72 (fun hb => ?_) (fun hb => ?_)
  · replace h := h.1 hb
    refine kz_iconst (pc := 158) (v := 3) (by decide) dL_reason_158 ?_
    exact kz_iret (pc := 159) rfl hc hs dL_reason_159 h
  · replace h := h.2 hb
    refine kz_aload_n (pc := 75) 1 (v := .ref x1) (i := 1) rfl rfl rfl dL_reason_75 ?_
    refine kz_iload_n (pc := 76) 3 (i := 3) rfl rfl dL_reason_76 ?_
    refine kz_callS (pc := 77) (μ' := mL_many) (d' := d + 2) (mc' := 0) (ms' := 0) (As := [.ref x1, .int x3]) (st := []) (c := c) (sl := sl) kmL_many kw_998 (by omega) rfl (Nat.le_of_ble_eq_true rfl) hc hs dL_reason_77 (fun E M9 hx => kz_Tout rfl hc hs hx) (kz_Cmono (fun v M1 h => ?_) (fun _ _ h => h) h)
    obtain ⟨r2, rfl, h⟩ := h
    show kz_Z G (d + 3) mc ms mL_reason Qr Qx 80 [(0, .ref x0), (1, .ref x1), (2, .ref x2), (3, .int x3)] [.int r2] M1 c sl
    refine kz_if_ne (pc := 80) (tgt := 86) (by decide) dL_reason_80 (fun hb => ?_) (fun hb => ?_)
    · replace h := h.1 hb
      refine kz_iconst (pc := 86) (v := 0) (by decide) dL_reason_86 ?_
      refine kz_istore (pc := 87) (i := 4) (ls' := [(0, .ref x0), (1, .ref x1), (2, .ref x2), (3, .int x3)]) (by decide) rfl dL_reason_87 ?_
      refine kz_aload_n (pc := 89) 3 (v := .ref x2) (i := 2) rfl rfl rfl dL_reason_89 ?_
      obtain ⟨⟨fs7, he⟩, h⟩ := h
      obtain ⟨mc6, ms6, hc6, hs6, h⟩ := h
      refine kz_callF (pc := 90) (μ' := mJx4a65c_iterator_32c93) (x := ⟨"java/util/List", "iterator", "()Ljava/util/Iterator;"⟩) (ci := 16) (q := (RJx4a65c, TJx4a65c, 3)) (b := x2) (d' := d + 2) (mc' := mc6) (ms' := ms6) (As := []) (st := []) (c := c) (sl := sl) kmJx4a65c_iterator_32c93 rfl kw_1303 (List.mem_of_getElem? (i := 3) rfl) (by decide +kernel) kw_1301 kw_1298 (by omega) rfl (Nat.le_of_ble_eq_true rfl) he rfl hc6 hs6 dL_reason_90 (kz_Cmono (fun v M4 h => ?_) (fun _ _ h => h) h)
      obtain ⟨r5, rfl, h⟩ := h
      show kz_Z G (d + 3) mc ms mL_reason Qr Qx 95 [(4, .int 0), (0, .ref x0), (1, .ref x1), (2, .ref x2), (3, .int x3)] [.ref r5] M4 (c + mc6) (sl + ms6)
      refine kz_astore (pc := 95) (i := 5) (v := .ref r5) (ls' := [(4, .int 0), (0, .ref x0), (1, .ref x1), (2, .ref x2), (3, .int x3)]) rfl (by decide) rfl dL_reason_95 ?_
      refine kz_sub [2, 3, 4, 5, 1, 0] rfl ?_
      exact h
    · replace h := h.2 hb
      refine kz_goto (pc := 83) (tgt := 152) (by decide) dL_reason_83 ?_
      refine kz_iinc (pc := 152) 3 (i := 3) (v := x3 + 1) (ls' := [(0, .ref x0), (1, .ref x1), (2, .ref x2)]) rfl (congrArg (fun z => x3 + z) (by decide)) (by decide) rfl dL_reason_152 ?_
      refine kz_goto (pc := 155) (tgt := 70) (by decide) dL_reason_155 ?_
      refine kz_sub [1, 2, 3, 0] rfl ?_
      exact h
theorem rL_reason_97 {G : kz_G} {d : Nat} {mc ms : Nat} {Qr : Option Value → kz_M → Prop} {Qx : String → kz_M → Prop} {x0 : Nat} {x1 : Nat} {x2 : Nat} {x3 : Int32} {x4 : Int32} {x5 : Nat}  {M : kz_M} {c sl : Nat} (hc : c ≤ mc) (hs : sl ≤ ms) (h : (∃ fs15, (M).1 x5 = some (.inl (17, fs15))) ∧ kz_C G (d + 2) 0 0 mJx35411_hasNext_aae02 [.ref x5] M (fun v M1 => ∃ r2 : Int32, v = some (.int r2) ∧ ((r2 = 0 → ∃ fs4 v5, (M1).1 x0 = some (.inl (13, fs4)) ∧ fs4[8]? = some (.int v5) ∧ ((v5 ≤ x4 → zL_reason_70 G d mc ms Qr Qx x0 x1 x2 (x3 + 1) M1 c sl) ∧ (¬ v5 ≤ x4 → Qr (some (.int 0)) M1))) ∧ (¬ r2 = 0 → (∃ fs14, (M1).1 x5 = some (.inl (17, fs14))) ∧ kz_C G (d + 2) 0 0 mJx35411_next_0502b [.ref x5] M1 (fun v M6 => ∃ r7 : Nat, v = some (.ref r7) ∧ ((∃ fs9, (M6).1 r7 = some (.inl (11, fs9))) ∧ (kz_C G (d + 2) 0 0 mL_many [.ref r7, .int x3] M6 (fun v M10 => ∃ r11 : Int32, v = some (.int r11) ∧ ((r11 ≤ 0 → zL_reason_97 G d mc ms Qr Qx x0 x1 x2 x3 (x4 + 0) x5 M10 c sl) ∧ (¬ r11 ≤ 0 → zL_reason_97 G d mc ms Qr Qx x0 x1 x2 x3 (x4 + 1) x5 M10 c sl))) Qx))) (fun _ _ => False)))) (fun _ _ => False)) : zL_reason_97 G d mc ms Qr Qx x0 x1 x2 x3 x4 x5  M c sl := by
  show kz_Z G (d + 3) mc ms mL_reason Qr Qx 97 [(0, .ref x0), (1, .ref x1), (2, .ref x2), (3, .int x3), (4, .int x4), (5, .ref x5)] [] M c sl
  refine kz_aload (pc := 97) 5 (v := .ref x5) (i := 5) rfl rfl dL_reason_97 ?_
  obtain ⟨⟨fs15, he⟩, h⟩ := h
  refine kz_callF (pc := 99) (μ' := mJx35411_hasNext_aae02) (x := ⟨"java/util/Iterator", "hasNext", "()Z"⟩) (ci := 17) (q := (RJx35411, TJx35411, 4)) (b := x5) (d' := d + 2) (mc' := 0) (ms' := 0) (As := []) (st := []) (c := c) (sl := sl) kmJx35411_hasNext_aae02 rfl kw_1332 (List.mem_of_getElem? (i := 5) rfl) (by decide +kernel) kw_1330 kw_1326 (by omega) rfl (Nat.le_of_ble_eq_true rfl) he rfl hc hs dL_reason_99 (kz_Cmono (fun v M1 h => ?_) (fun _ _ h => h) h)
  obtain ⟨r2, rfl, h⟩ := h
  show kz_Z G (d + 3) mc ms mL_reason Qr Qx 104 [(0, .ref x0), (1, .ref x1), (2, .ref x2), (3, .int x3), (4, .int x4), (5, .ref x5)] [.int r2] M1 c sl
  refine kz_if_eq (pc := 104) (tgt := 141) (by decide) dL_reason_104 (fun hb => ?_) (fun hb => ?_)
  · replace h := h.1 hb
    refine kz_iload (pc := 141) 4 (i := 4) rfl dL_reason_141 ?_
    refine kz_aload_n (pc := 143) 0 (v := .ref x0) (i := 0) rfl rfl rfl dL_reason_143 ?_
    obtain ⟨fs4, v5, hM, hv, h⟩ := h
    refine kz_getf (pc := 144) (k := 8) kcL hM hv (by decide) kw_668 dL_reason_144 ?_
    refine kz_icmp_ge (pc := 147) (tgt := 152) (by decide) dL_reason_147 (fun hb => ?_) (fun hb => ?_)
    · replace h := h.1 hb
      refine kz_iinc (pc := 152) 3 (i := 3) (v := x3 + 1) (ls' := [(0, .ref x0), (1, .ref x1), (2, .ref x2), (4, .int x4), (5, .ref x5)]) rfl (congrArg (fun z => x3 + z) (by decide)) (by decide) rfl dL_reason_152 ?_
      refine kz_goto (pc := 155) (tgt := 70) (by decide) dL_reason_155 ?_
      refine kz_sub [1, 2, 3, 0] rfl ?_
      exact h
    · replace h := h.2 hb
      refine kz_iconst (pc := 150) (v := 0) (by decide) dL_reason_150 ?_
      exact kz_iret (pc := 151) rfl hc hs dL_reason_151 h
  · replace h := h.2 hb
    refine kz_aload (pc := 107) 5 (v := .ref x5) (i := 5) rfl rfl dL_reason_107 ?_
    obtain ⟨⟨fs14, he⟩, h⟩ := h
    refine kz_callF (pc := 109) (μ' := mJx35411_next_0502b) (x := ⟨"java/util/Iterator", "next", "()Ljava/lang/Object;"⟩) (ci := 17) (q := (RJx35411, TJx35411, 4)) (b := x5) (d' := d + 2) (mc' := 0) (ms' := 0) (As := []) (st := []) (c := c) (sl := sl) kmJx35411_next_0502b rfl kw_1341 (List.mem_of_getElem? (i := 6) rfl) (by decide +kernel) kw_1339 kw_1336 (by omega) rfl (Nat.le_of_ble_eq_true rfl) he rfl hc hs dL_reason_109 (kz_Cmono (fun v M6 h => ?_) (fun _ _ h => h) h)
    obtain ⟨r7, rfl, h⟩ := h
    show kz_Z G (d + 3) mc ms mL_reason Qr Qx 114 [(0, .ref x0), (1, .ref x1), (2, .ref x2), (3, .int x3), (4, .int x4), (5, .ref x5)] [.ref r7] M6 c sl
    obtain ⟨⟨fs9, hM⟩, h⟩ := h
    refine kz_castS (pc := 114) (ci := 11) (q := (RX12, TX12, 6)) rfl kw_978 hM dL_reason_114 ?_
    refine kz_astore (pc := 117) (i := 6) (v := .ref r7) (ls' := [(0, .ref x0), (1, .ref x1), (2, .ref x2), (3, .int x3), (4, .int x4), (5, .ref x5)]) rfl (by decide) rfl dL_reason_117 ?_
    refine kz_iload (pc := 119) 5 (i := 4) rfl dL_reason_119 ?_
    refine kz_aload (pc := 121) 0 (v := .ref r7) (i := 6) rfl rfl dL_reason_121 ?_
    refine kz_iload_n (pc := 123) 4 (i := 3) rfl rfl dL_reason_123 ?_
    refine kz_callS (pc := 124) (μ' := mL_many) (d' := d + 2) (mc' := 0) (ms' := 0) (As := [.ref r7, .int x3]) (st := [.int x4]) (c := c) (sl := sl) kmL_many kw_998 (by omega) rfl (Nat.le_of_ble_eq_true rfl) hc hs dL_reason_124 (fun E M9 hx => kz_Tout rfl hc hs hx) (kz_Cmono (fun v M10 h => ?_) (fun _ _ h => h) h)
    obtain ⟨r11, rfl, h⟩ := h
    show kz_Z G (d + 3) mc ms mL_reason Qr Qx 127 [(6, .ref r7), (0, .ref x0), (1, .ref x1), (2, .ref x2), (3, .int x3), (4, .int x4), (5, .ref x5)] [.int r11, .int x4] M10 c sl
    refine kz_if_le (pc := 127) (tgt := 134) (by decide) dL_reason_127 (fun hb => ?_) (fun hb => ?_)
    · replace h := h.1 hb
      refine kz_iconst (pc := 134) (v := 0) (by decide) dL_reason_134 ?_
      refine kz_iadd (pc := 135) dL_reason_135 ?_
      refine kz_istore (pc := 136) (i := 4) (ls' := [(6, .ref r7), (0, .ref x0), (1, .ref x1), (2, .ref x2), (3, .int x3), (5, .ref x5)]) (by decide) rfl dL_reason_136 ?_
      refine kz_goto (pc := 138) (tgt := 97) (by decide) dL_reason_138 ?_
      refine kz_sub [2, 3, 4, 5, 0, 6] rfl ?_
      exact h
    · replace h := h.2 hb
      refine kz_iconst (pc := 130) (v := 1) (by decide) dL_reason_130 ?_
      refine kz_goto (pc := 131) (tgt := 135) (by decide) dL_reason_131 ?_
      refine kz_iadd (pc := 135) dL_reason_135 ?_
      refine kz_istore (pc := 136) (i := 4) (ls' := [(6, .ref r7), (0, .ref x0), (1, .ref x1), (2, .ref x2), (3, .int x3), (5, .ref x5)]) (by decide) rfl dL_reason_136 ?_
      refine kz_goto (pc := 138) (tgt := 97) (by decide) dL_reason_138 ?_
      refine kz_sub [2, 3, 4, 5, 0, 6] rfl ?_
      exact h
