/-! The rules of 14.rledger: printed by program (wip/whole/rules.py) -/
theorem dX0_init_0 : decode cX0_init 0 = .ok (.aload_n 0, 1) := by decide +kernel
theorem dX0_init_1 : decode cX0_init 1 = .ok (.invokespecial 3, 3) := by decide +kernel
theorem dX0_init_4 : decode cX0_init 4 = .ok (.aload_n 0, 1) := by decide +kernel
theorem dX0_init_5 : decode cX0_init 5 = .ok (.bipush 8, 2) := by decide +kernel
theorem dX0_init_7 : decode cX0_init 7 = .ok (.anewarray 9, 3) := by decide +kernel
theorem dX0_init_10 : decode cX0_init 10 = .ok (.putfield 11, 3) := by decide +kernel
theorem dX0_init_13 : decode cX0_init 13 = .ok (.iconst 0, 1) := by decide +kernel
theorem dX0_init_14 : decode cX0_init 14 = .ok (.istore_n 1, 1) := by decide +kernel
theorem dX0_init_15 : decode cX0_init 15 = .ok (.iload_n 1, 1) := by decide +kernel
theorem dX0_init_16 : decode cX0_init 16 = .ok (.aload_n 0, 1) := by decide +kernel
theorem dX0_init_17 : decode cX0_init 17 = .ok (.getfield 11, 3) := by decide +kernel
theorem dX0_init_20 : decode cX0_init 20 = .ok (.arraylength, 1) := by decide +kernel
theorem dX0_init_21 : decode cX0_init 21 = .ok (.if_icmp .ge 22, 3) := by decide +kernel
theorem dX0_init_24 : decode cX0_init 24 = .ok (.aload_n 0, 1) := by decide +kernel
theorem dX0_init_25 : decode cX0_init 25 = .ok (.getfield 11, 3) := by decide +kernel
theorem dX0_init_28 : decode cX0_init 28 = .ok (.iload_n 1, 1) := by decide +kernel
theorem dX0_init_29 : decode cX0_init 29 = .ok (.new 9, 3) := by decide +kernel
theorem dX0_init_32 : decode cX0_init 32 = .ok (.dup, 1) := by decide +kernel
theorem dX0_init_33 : decode cX0_init 33 = .ok (.invokespecial 17, 3) := by decide +kernel
theorem dX0_init_36 : decode cX0_init 36 = .ok (.aastore, 1) := by decide +kernel
theorem dX0_init_37 : decode cX0_init 37 = .ok (.iinc 1 1, 3) := by decide +kernel
theorem dX0_init_40 : decode cX0_init 40 = .ok (.goto (-25), 3) := by decide +kernel
theorem dX0_init_43 : decode cX0_init 43 = .ok (.return_, 1) := by decide +kernel
def zX0_init_15 (G : kz_G) (d mc ms : Nat) (Qr : Option Value → kz_M → Prop) (Qx : String → kz_M → Prop) (x0 : Nat) (x1 : Int32)  (M : kz_M) (c sl : Nat) : Prop := kz_Z G (d + 3) mc ms mX0_init Qr Qx 15 [(0, .ref x0), (1, .int x1)] [] M c sl
theorem rX0_init_0 {G : kz_G} {d : Nat} {mc ms : Nat} {Qr : Option Value → kz_M → Prop} {Qx : String → kz_M → Prop} {a0 : Nat}  {M : kz_M} (h : ∃ N1, ¬ (8 : Int32) < 0 ∧ (8 : Int32).toNatClampNeg = N1 ∧ N1 ≤ 60000000 ∧ 0 + 1 ≤ mc ∧ 0 + N1 ≤ ms ∧ (∃ fs3, ((kz_nw M (.inr (.object "LineOffice$State", N1, .inr (.inr (.inr (.inr (fun _ => none)))))))).1 a0 = some (.inl (0, fs3)) ∧ 0 < fs3.length ∧ (zX0_init_15 G d mc ms Qr Qx a0 0 (kz_up (kz_nw M (.inr (.object "LineOffice$State", N1, .inr (.inr (.inr (.inr (fun _ => none))))))) a0 (.inl (0, fs3.set 0 (.ref ((M).2))))) (0 + 1) (0 + N1)))) : kz_C G (d + 3) mc ms mX0_init [.ref a0] M Qr Qx := by
  refine kz_enter (n := 0) kmX0_init.1 (Nat.le_of_ble_eq_true rfl) (ls := [(0, .ref a0)]) rfl ?_
  refine kz_aload_n (pc := 0) 0 (v := .ref a0) (i := 0) rfl rfl rfl dX0_init_0 ?_
  refine kz_objInit (pc := 1) kw_145 kw_34 kw_35 (by omega) (Nat.le_of_ble_eq_true rfl) dX0_init_1 ?_
  refine kz_aload_n (pc := 4) 0 (v := .ref a0) (i := 0) rfl rfl rfl dX0_init_4 ?_
  refine kz_bipush (pc := 5) (v := 8) (by decide) dX0_init_5 ?_
  obtain ⟨N1, hn, hN, hb8, hc2, hs2, h⟩ := h
  refine kz_anew (pc := 7) (C := "LineOffice$State") N1 kw_146 kw_147 hn hN hb8 hc2 hs2 dX0_init_7 ?_
  obtain ⟨fs3, hM, hlen, h⟩ := h
  refine kz_putF (pc := 10) (k := 0) kcX0 hM (by decide) hlen rfl rfl kw_149 rfl rfl rfl dX0_init_10 ?_
  refine kz_iconst (pc := 13) (v := 0) (by decide) dX0_init_13 ?_
  refine kz_istore_n (pc := 14) (i := 1) (ls' := [(0, .ref a0)]) rfl (by decide) rfl dX0_init_14 ?_
  refine kz_sub [1, 0] rfl ?_
  exact h
theorem rX0_init_15 {G : kz_G} {d : Nat} {mc ms : Nat} {Qr : Option Value → kz_M → Prop} {Qx : String → kz_M → Prop} {x0 : Nat} {x1 : Int32}  {M : kz_M} {c sl : Nat} (hc : c ≤ mc) (hs : sl ≤ ms) (h : ∃ fs1 v2, (M).1 x0 = some (.inl (0, fs1)) ∧ fs1[0]? = some (.ref v2) ∧ (∃ ty3 A4, (M).1 v2 = some (.inr (ty3, A4)) ∧ (((Int32.ofNat A4.1) ≤ x1 → Qr none M) ∧ (¬ (Int32.ofNat A4.1) ≤ x1 → ∃ fs5 v6, (M).1 x0 = some (.inl (0, fs5)) ∧ fs5[0]? = some (.ref v6) ∧ (c + 1 ≤ mc ∧ sl + 10 ≤ ms ∧ (∃ mc10 ms10, c + 1 + mc10 ≤ mc ∧ sl + 10 + ms10 ≤ ms ∧ kz_C G (d + 2) mc10 ms10 mX9_init [.ref ((M).2)] (kz_nw M (.inl (8, [.int 0, .int 0, .int 0, .int 0, .null, .null, .null, .null, .null, .null]))) (fun v M8 => v = none ∧ (∃ n11 f12 vs13, (M8).1 v6 = some (.inr (.object "LineOffice$State", n11, .inr (.inr (.inr (.inr f12))))) ∧ (M8).1 ((M).2) = some (.inl (8, vs13)) ∧ vp_in x1 n11 ∧ (zX0_init_15 G d mc ms Qr Qx x0 (x1 + 1) (kz_up M8 v6 (.inr (.object "LineOffice$State", n11, .inr (.inr (.inr (.inr (va_up f12 (x1 : Int32).toNatClampNeg (some ((M).2))))))))) (c + 1 + mc10) (sl + 10 + ms10)))) Qx)))))) : zX0_init_15 G d mc ms Qr Qx x0 x1  M c sl := by
  show kz_Z G (d + 3) mc ms mX0_init Qr Qx 15 [(0, .ref x0), (1, .int x1)] [] M c sl
  refine kz_iload_n (pc := 15) 1 (i := 1) rfl rfl dX0_init_15 ?_
  refine kz_aload_n (pc := 16) 0 (v := .ref x0) (i := 0) rfl rfl rfl dX0_init_16 ?_
  obtain ⟨fs1, v2, hM, hv, h⟩ := h
  refine kz_getf (pc := 17) (k := 0) kcX0 hM hv (by decide) kw_149 dX0_init_17 ?_
  obtain ⟨ty3, A4, hM, h⟩ := h
  refine kz_alen (pc := 20) hM rfl dX0_init_20 ?_
  refine kz_icmp_ge (pc := 21) (tgt := 43) (by decide) dX0_init_21 (fun hb => ?_) (fun hb => ?_)
  · replace h := h.1 hb
    exact kz_vret (pc := 43) rfl hc hs dX0_init_43 h
  · replace h := h.2 hb
    refine kz_aload_n (pc := 24) 0 (v := .ref x0) (i := 0) rfl rfl rfl dX0_init_24 ?_
    obtain ⟨fs5, v6, hM, hv, h⟩ := h
    refine kz_getf (pc := 25) (k := 0) kcX0 hM hv (by decide) kw_149 dX0_init_25 ?_
    refine kz_iload_n (pc := 28) 1 (i := 1) rfl rfl dX0_init_28 ?_
    obtain ⟨hc7, hs7, h⟩ := h
    refine kz_newc (pc := 29) kcX9 rfl kw_146 kw_67 kw_4 hc7 hs7 dX0_init_29 ?_
    refine kz_dup (pc := 32) rfl dX0_init_32 ?_
    obtain ⟨mc10, ms10, hc10, hs10, h⟩ := h
    refine kz_callI (pc := 33) (μ' := mX9_init) (b := (M).2) (d' := d + 2) (mc' := mc10) (ms' := ms10) (As := []) (st := [.ref ((M).2), .int x1, .ref v6]) (c := c + 1) (sl := sl + 10) kmX9_init kw_148 (by omega) rfl (Nat.le_of_ble_eq_true rfl) hc10 hs10 dX0_init_33 (fun E M9 hx => kz_Tout rfl hc10 hs10 hx) (kz_Cmono (fun v M8 h => ?_) (fun _ _ h => h) h)
    obtain ⟨rfl, h⟩ := h
    show kz_Z G (d + 3) mc ms mX0_init Qr Qx 36 [(0, .ref x0), (1, .int x1)] [.ref ((M).2), .int x1, .ref v6] M8 (c + 1 + mc10) (sl + 10 + ms10)
    obtain ⟨n11, f12, vs13, hM, hx, hi, h⟩ := h
    refine kz_aast (pc := 36) (ci := 8) (r := (RX9, TX9, 10)) rfl hM hx hi dX0_init_36 ?_
    refine kz_iinc (pc := 37) 1 (i := 1) (v := x1 + 1) (ls' := [(0, .ref x0)]) rfl (congrArg (fun z => x1 + z) (by decide)) (by decide) rfl dX0_init_37 ?_
    refine kz_goto (pc := 40) (tgt := 15) (by decide) dX0_init_40 ?_
    refine kz_sub [1, 0] rfl ?_
    exact h
theorem dX0_forget_0 : decode cX0_forget 0 = .ok (.aload_n 0, 1) := by decide +kernel
theorem dX0_forget_1 : decode cX0_forget 1 = .ok (.iconst 0, 1) := by decide +kernel
theorem dX0_forget_2 : decode cX0_forget 2 = .ok (.putfield 18, 3) := by decide +kernel
theorem dX0_forget_5 : decode cX0_forget 5 = .ok (.return_, 1) := by decide +kernel
theorem rX0_forget_0 {G : kz_G} {d : Nat} {Qr : Option Value → kz_M → Prop} {Qx : String → kz_M → Prop} {a0 : Nat}  {M : kz_M} (h : ∃ fs1, (M).1 a0 = some (.inl (0, fs1)) ∧ 2 < fs1.length ∧ (Qr none (kz_up M a0 (.inl (0, fs1.set 2 (.int 0)))))) : kz_C G d 0 0 mX0_forget [.ref a0] M Qr Qx := by
  refine kz_enter (n := 0) kmX0_forget.1 (Nat.le_of_ble_eq_true rfl) (ls := [(0, .ref a0)]) rfl ?_
  refine kz_aload_n (pc := 0) 0 (v := .ref a0) (i := 0) rfl rfl rfl dX0_forget_0 ?_
  refine kz_iconst (pc := 1) (v := 0) (by decide) dX0_forget_1 ?_
  obtain ⟨fs1, hM, hlen, h⟩ := h
  refine kz_putf (pc := 2) (k := 2) kcX0 hM (by decide) hlen kw_151 rfl rfl rfl dX0_forget_2 ?_
  exact kz_vret (pc := 5) rfl (Nat.le_refl _) (Nat.le_refl _) dX0_forget_5 h
theorem dX0_keep_0 : decode cX0_keep 0 = .ok (.aload_n 0, 1) := by decide +kernel
theorem dX0_keep_1 : decode cX0_keep 1 = .ok (.getfield 18, 3) := by decide +kernel
theorem dX0_keep_4 : decode cX0_keep 4 = .ok (.bipush 8, 2) := by decide +kernel
theorem dX0_keep_6 : decode cX0_keep 6 = .ok (.if_icmp .lt 22, 3) := by decide +kernel
theorem dX0_keep_9 : decode cX0_keep 9 = .ok (.aload_n 0, 1) := by decide +kernel
theorem dX0_keep_10 : decode cX0_keep 10 = .ok (.aload_n 0, 1) := by decide +kernel
theorem dX0_keep_11 : decode cX0_keep 11 = .ok (.getfield 22, 3) := by decide +kernel
theorem dX0_keep_14 : decode cX0_keep 14 = .ok (.iconst 1, 1) := by decide +kernel
theorem dX0_keep_15 : decode cX0_keep 15 = .ok (.iadd, 1) := by decide +kernel
theorem dX0_keep_16 : decode cX0_keep 16 = .ok (.bipush 8, 2) := by decide +kernel
theorem dX0_keep_18 : decode cX0_keep 18 = .ok (.irem, 1) := by decide +kernel
theorem dX0_keep_19 : decode cX0_keep 19 = .ok (.putfield 22, 3) := by decide +kernel
theorem dX0_keep_22 : decode cX0_keep 22 = .ok (.aload_n 0, 1) := by decide +kernel
theorem dX0_keep_23 : decode cX0_keep 23 = .ok (.bipush 7, 2) := by decide +kernel
theorem dX0_keep_25 : decode cX0_keep 25 = .ok (.putfield 18, 3) := by decide +kernel
theorem dX0_keep_28 : decode cX0_keep 28 = .ok (.aload_n 0, 1) := by decide +kernel
theorem dX0_keep_29 : decode cX0_keep 29 = .ok (.aload_n 0, 1) := by decide +kernel
theorem dX0_keep_30 : decode cX0_keep 30 = .ok (.getfield 18, 3) := by decide +kernel
theorem dX0_keep_33 : decode cX0_keep 33 = .ok (.invokevirtual 25, 3) := by decide +kernel
theorem dX0_keep_36 : decode cX0_keep 36 = .ok (.astore_n 2, 1) := by decide +kernel
theorem dX0_keep_37 : decode cX0_keep 37 = .ok (.aload_n 2, 1) := by decide +kernel
theorem dX0_keep_38 : decode cX0_keep 38 = .ok (.ifnull 18, 3) := by decide +kernel
theorem dX0_keep_41 : decode cX0_keep 41 = .ok (.aload_n 2, 1) := by decide +kernel
theorem dX0_keep_42 : decode cX0_keep 42 = .ok (.aload_n 1, 1) := by decide +kernel
theorem dX0_keep_43 : decode cX0_keep 43 = .ok (.invokevirtual 29, 3) := by decide +kernel
theorem dX0_keep_46 : decode cX0_keep 46 = .ok (.aload_n 0, 1) := by decide +kernel
theorem dX0_keep_47 : decode cX0_keep 47 = .ok (.dup, 1) := by decide +kernel
theorem dX0_keep_48 : decode cX0_keep 48 = .ok (.getfield 18, 3) := by decide +kernel
theorem dX0_keep_51 : decode cX0_keep 51 = .ok (.iconst 1, 1) := by decide +kernel
theorem dX0_keep_52 : decode cX0_keep 52 = .ok (.iadd, 1) := by decide +kernel
theorem dX0_keep_53 : decode cX0_keep 53 = .ok (.putfield 18, 3) := by decide +kernel
theorem dX0_keep_56 : decode cX0_keep 56 = .ok (.return_, 1) := by decide +kernel
theorem rX0_keep_0 {G : kz_G} {d : Nat} {Qr : Option Value → kz_M → Prop} {Qx : String → kz_M → Prop} {a0 : Nat} {p1 : Nat}  {M : kz_M} (h : ∃ fs1 v2, (M).1 a0 = some (.inl (0, fs1)) ∧ fs1[2]? = some (.int v2) ∧ ((v2 < (8 : Int32) → ∃ fs3 v4, (M).1 a0 = some (.inl (0, fs3)) ∧ fs3[2]? = some (.int v4) ∧ ((∃ fs16, (M).1 a0 = some (.inl (0, fs16))) ∧ kz_C G (d + 2) 0 0 mX0_slotAt [.ref a0, .int v4] M (fun v M5 => ∃ r6 : Option Nat, v = some (kz_rf r6) ∧ ((r6 = none → Qr none M5) ∧ (∀ y8, r6 = some y8 → (∃ fs15, (M5).1 y8 = some (.inl (8, fs15))) ∧ kz_C G (d + 2) 0 0 mX9_takeOver [.ref y8, .ref p1] M5 (fun v M9 => v = none ∧ (∃ fs12 v13, (M9).1 a0 = some (.inl (0, fs12)) ∧ fs12[2]? = some (.int v13) ∧ (∃ fs14, (M9).1 a0 = some (.inl (0, fs14)) ∧ 2 < fs14.length ∧ (Qr none (kz_up M9 a0 (.inl (0, fs14.set 2 (.int (v13 + 1))))))))) Qx))) Qx)) ∧ (¬ v2 < (8 : Int32) → ∃ fs17 v18, (M).1 a0 = some (.inl (0, fs17)) ∧ fs17[1]? = some (.int v18) ∧ (∃ fs19, (M).1 a0 = some (.inl (0, fs19)) ∧ 1 < fs19.length ∧ (∃ fs20, ((kz_up M a0 (.inl (0, fs19.set 1 (.int ((v18 + 1) - (v18 + 1) / 8 * 8)))))).1 a0 = some (.inl (0, fs20)) ∧ 2 < fs20.length ∧ (∃ fs21 v22, ((kz_up (kz_up M a0 (.inl (0, fs19.set 1 (.int ((v18 + 1) - (v18 + 1) / 8 * 8))))) a0 (.inl (0, fs20.set 2 (.int 7))))).1 a0 = some (.inl (0, fs21)) ∧ fs21[2]? = some (.int v22) ∧ ((∃ fs34, ((kz_up (kz_up M a0 (.inl (0, fs19.set 1 (.int ((v18 + 1) - (v18 + 1) / 8 * 8))))) a0 (.inl (0, fs20.set 2 (.int 7))))).1 a0 = some (.inl (0, fs34))) ∧ kz_C G (d + 2) 0 0 mX0_slotAt [.ref a0, .int v22] (kz_up (kz_up M a0 (.inl (0, fs19.set 1 (.int ((v18 + 1) - (v18 + 1) / 8 * 8))))) a0 (.inl (0, fs20.set 2 (.int 7)))) (fun v M23 => ∃ r24 : Option Nat, v = some (kz_rf r24) ∧ ((r24 = none → Qr none M23) ∧ (∀ y26, r24 = some y26 → (∃ fs33, (M23).1 y26 = some (.inl (8, fs33))) ∧ kz_C G (d + 2) 0 0 mX9_takeOver [.ref y26, .ref p1] M23 (fun v M27 => v = none ∧ (∃ fs30 v31, (M27).1 a0 = some (.inl (0, fs30)) ∧ fs30[2]? = some (.int v31) ∧ (∃ fs32, (M27).1 a0 = some (.inl (0, fs32)) ∧ 2 < fs32.length ∧ (Qr none (kz_up M27 a0 (.inl (0, fs32.set 2 (.int (v31 + 1))))))))) Qx))) Qx))))))) : kz_C G (d + 3) 0 0 mX0_keep [.ref a0, .ref p1] M Qr Qx := by
  refine kz_enter (n := 1) kmX0_keep.1 (Nat.le_of_ble_eq_true rfl) (ls := [(0, .ref a0), (1, .ref p1)]) rfl ?_
  refine kz_aload_n (pc := 0) 0 (v := .ref a0) (i := 0) rfl rfl rfl dX0_keep_0 ?_
  obtain ⟨fs1, v2, hM, hv, h⟩ := h
  refine kz_getf (pc := 1) (k := 2) kcX0 hM hv (by decide) kw_151 dX0_keep_1 ?_
  refine kz_bipush (pc := 4) (v := 8) (by decide) dX0_keep_4 ?_
  refine kz_icmp_lt (pc := 6) (tgt := 28) (by decide) dX0_keep_6 (fun hb => ?_) (fun hb => ?_)
  · replace h := h.1 hb
    refine kz_aload_n (pc := 28) 0 (v := .ref a0) (i := 0) rfl rfl rfl dX0_keep_28 ?_
    refine kz_aload_n (pc := 29) 0 (v := .ref a0) (i := 0) rfl rfl rfl dX0_keep_29 ?_
    obtain ⟨fs3, v4, hM, hv, h⟩ := h
    refine kz_getf (pc := 30) (k := 2) kcX0 hM hv (by decide) kw_151 dX0_keep_30 ?_
    obtain ⟨⟨fs16, he⟩, h⟩ := h
    refine kz_callV (pc := 33) (μ' := mX0_slotAt) (ci := 0) (q := (RX0, TX0, 3)) (b := a0) (d' := d + 2) (mc' := 0) (ms' := 0) (As := [.int v4]) (st := []) (c := 0) (sl := 0) kmX0_slotAt kw_468 (by omega) rfl (Nat.le_of_ble_eq_true rfl) he rfl rfl (Nat.le_refl _) (Nat.le_refl _) dX0_keep_33 (fun E M9 hx => kz_Tout rfl (Nat.le_refl _) (Nat.le_refl _) hx) (kz_Cmono (fun v M5 h => ?_) (fun _ _ h => h) h)
    obtain ⟨r6, rfl, h⟩ := h
    show kz_Z G (d + 3) 0 0 mX0_keep Qr Qx 36 [(0, .ref a0), (1, .ref p1)] [kz_rf r6] M5 0 0
    refine kz_astore_n (pc := 36) (i := 2) (v := kz_rf r6) (ls' := [(0, .ref a0), (1, .ref p1)]) rfl (kz_isr_rf _) (by decide) rfl dX0_keep_36 ?_
    refine kz_aload_n (pc := 37) 0 (v := kz_rf r6) (i := 2) rfl rfl (kz_isr_rf _) dX0_keep_37 ?_
    rcases r6 with _ | y8
    · replace h := h.1 rfl
      refine kz_ifnull (pc := 38) (tgt := 56) rfl (by decide) dX0_keep_38 (fun _ => ?_) (fun hn => absurd rfl hn)
      exact kz_vret (pc := 56) rfl (Nat.le_refl _) (Nat.le_refl _) dX0_keep_56 h
    · replace h := h.2 y8 rfl
      refine kz_ifnull (pc := 38) (tgt := 56) rfl (by decide) dX0_keep_38 (fun hn => by cases hn) (fun _ => ?_)
      refine kz_aload_n (pc := 41) 0 (v := .ref y8) (i := 2) rfl rfl rfl dX0_keep_41 ?_
      refine kz_aload_n (pc := 42) 2 (v := .ref p1) (i := 1) rfl rfl rfl dX0_keep_42 ?_
      obtain ⟨⟨fs15, he⟩, h⟩ := h
      refine kz_callV (pc := 43) (μ' := mX9_takeOver) (ci := 8) (q := (RX9, TX9, 10)) (b := y8) (d' := d + 2) (mc' := 0) (ms' := 0) (As := [.ref p1]) (st := []) (c := 0) (sl := 0) kmX9_takeOver kw_472 (by omega) rfl (Nat.le_of_ble_eq_true rfl) he rfl rfl (Nat.le_refl _) (Nat.le_refl _) dX0_keep_43 (fun E M9 hx => kz_Tout rfl (Nat.le_refl _) (Nat.le_refl _) hx) (kz_Cmono (fun v M9 h => ?_) (fun _ _ h => h) h)
      obtain ⟨rfl, h⟩ := h
      show kz_Z G (d + 3) 0 0 mX0_keep Qr Qx 46 [(2, .ref y8), (0, .ref a0), (1, .ref p1)] [] M9 0 0
      refine kz_aload_n (pc := 46) 1 (v := .ref a0) (i := 0) rfl rfl rfl dX0_keep_46 ?_
      refine kz_dup (pc := 47) rfl dX0_keep_47 ?_
      obtain ⟨fs12, v13, hM, hv, h⟩ := h
      refine kz_getf (pc := 48) (k := 2) kcX0 hM hv (by decide) kw_151 dX0_keep_48 ?_
      refine kz_iconst (pc := 51) (v := 1) (by decide) dX0_keep_51 ?_
      refine kz_iadd (pc := 52) dX0_keep_52 ?_
      obtain ⟨fs14, hM, hlen, h⟩ := h
      refine kz_putf (pc := 53) (k := 2) kcX0 hM (by decide) hlen kw_151 rfl rfl rfl dX0_keep_53 ?_
      exact kz_vret (pc := 56) rfl (Nat.le_refl _) (Nat.le_refl _) dX0_keep_56 h
  · replace h := h.2 hb
    refine kz_aload_n (pc := 9) 0 (v := .ref a0) (i := 0) rfl rfl rfl dX0_keep_9 ?_
    refine kz_aload_n (pc := 10) 0 (v := .ref a0) (i := 0) rfl rfl rfl dX0_keep_10 ?_
    obtain ⟨fs17, v18, hM, hv, h⟩ := h
    refine kz_getf (pc := 11) (k := 1) kcX0 hM hv (by decide) kw_150 dX0_keep_11 ?_
    refine kz_iconst (pc := 14) (v := 1) (by decide) dX0_keep_14 ?_
    refine kz_iadd (pc := 15) dX0_keep_15 ?_
    refine kz_bipush (pc := 16) (v := 8) (by decide) dX0_keep_16 ?_
    refine kz_irem (pc := 18) (by decide) dX0_keep_18 ?_
    obtain ⟨fs19, hM, hlen, h⟩ := h
    refine kz_putf (pc := 19) (k := 1) kcX0 hM (by decide) hlen kw_150 rfl rfl rfl dX0_keep_19 ?_
    refine kz_aload_n (pc := 22) 0 (v := .ref a0) (i := 0) rfl rfl rfl dX0_keep_22 ?_
    refine kz_bipush (pc := 23) (v := 7) (by decide) dX0_keep_23 ?_
    obtain ⟨fs20, hM, hlen, h⟩ := h
    refine kz_putf (pc := 25) (k := 2) kcX0 hM (by decide) hlen kw_151 rfl rfl rfl dX0_keep_25 ?_
    refine kz_aload_n (pc := 28) 0 (v := .ref a0) (i := 0) rfl rfl rfl dX0_keep_28 ?_
    refine kz_aload_n (pc := 29) 0 (v := .ref a0) (i := 0) rfl rfl rfl dX0_keep_29 ?_
    obtain ⟨fs21, v22, hM, hv, h⟩ := h
    refine kz_getf (pc := 30) (k := 2) kcX0 hM hv (by decide) kw_151 dX0_keep_30 ?_
    obtain ⟨⟨fs34, he⟩, h⟩ := h
    refine kz_callV (pc := 33) (μ' := mX0_slotAt) (ci := 0) (q := (RX0, TX0, 3)) (b := a0) (d' := d + 2) (mc' := 0) (ms' := 0) (As := [.int v22]) (st := []) (c := 0) (sl := 0) kmX0_slotAt kw_468 (by omega) rfl (Nat.le_of_ble_eq_true rfl) he rfl rfl (Nat.le_refl _) (Nat.le_refl _) dX0_keep_33 (fun E M9 hx => kz_Tout rfl (Nat.le_refl _) (Nat.le_refl _) hx) (kz_Cmono (fun v M23 h => ?_) (fun _ _ h => h) h)
    obtain ⟨r24, rfl, h⟩ := h
    show kz_Z G (d + 3) 0 0 mX0_keep Qr Qx 36 [(0, .ref a0), (1, .ref p1)] [kz_rf r24] M23 0 0
    refine kz_astore_n (pc := 36) (i := 2) (v := kz_rf r24) (ls' := [(0, .ref a0), (1, .ref p1)]) rfl (kz_isr_rf _) (by decide) rfl dX0_keep_36 ?_
    refine kz_aload_n (pc := 37) 0 (v := kz_rf r24) (i := 2) rfl rfl (kz_isr_rf _) dX0_keep_37 ?_
    rcases r24 with _ | y26
    · replace h := h.1 rfl
      refine kz_ifnull (pc := 38) (tgt := 56) rfl (by decide) dX0_keep_38 (fun _ => ?_) (fun hn => absurd rfl hn)
      exact kz_vret (pc := 56) rfl (Nat.le_refl _) (Nat.le_refl _) dX0_keep_56 h
    · replace h := h.2 y26 rfl
      refine kz_ifnull (pc := 38) (tgt := 56) rfl (by decide) dX0_keep_38 (fun hn => by cases hn) (fun _ => ?_)
      refine kz_aload_n (pc := 41) 0 (v := .ref y26) (i := 2) rfl rfl rfl dX0_keep_41 ?_
      refine kz_aload_n (pc := 42) 2 (v := .ref p1) (i := 1) rfl rfl rfl dX0_keep_42 ?_
      obtain ⟨⟨fs33, he⟩, h⟩ := h
      refine kz_callV (pc := 43) (μ' := mX9_takeOver) (ci := 8) (q := (RX9, TX9, 10)) (b := y26) (d' := d + 2) (mc' := 0) (ms' := 0) (As := [.ref p1]) (st := []) (c := 0) (sl := 0) kmX9_takeOver kw_472 (by omega) rfl (Nat.le_of_ble_eq_true rfl) he rfl rfl (Nat.le_refl _) (Nat.le_refl _) dX0_keep_43 (fun E M9 hx => kz_Tout rfl (Nat.le_refl _) (Nat.le_refl _) hx) (kz_Cmono (fun v M27 h => ?_) (fun _ _ h => h) h)
      obtain ⟨rfl, h⟩ := h
      show kz_Z G (d + 3) 0 0 mX0_keep Qr Qx 46 [(2, .ref y26), (0, .ref a0), (1, .ref p1)] [] M27 0 0
      refine kz_aload_n (pc := 46) 1 (v := .ref a0) (i := 0) rfl rfl rfl dX0_keep_46 ?_
      refine kz_dup (pc := 47) rfl dX0_keep_47 ?_
      obtain ⟨fs30, v31, hM, hv, h⟩ := h
      refine kz_getf (pc := 48) (k := 2) kcX0 hM hv (by decide) kw_151 dX0_keep_48 ?_
      refine kz_iconst (pc := 51) (v := 1) (by decide) dX0_keep_51 ?_
      refine kz_iadd (pc := 52) dX0_keep_52 ?_
      obtain ⟨fs32, hM, hlen, h⟩ := h
      refine kz_putf (pc := 53) (k := 2) kcX0 hM (by decide) hlen kw_151 rfl rfl rfl dX0_keep_53 ?_
      exact kz_vret (pc := 56) rfl (Nat.le_refl _) (Nat.le_refl _) dX0_keep_56 h
theorem dX0_takeLatest_0 : decode cX0_takeLatest 0 = .ok (.aload_n 0, 1) := by decide +kernel
theorem dX0_takeLatest_1 : decode cX0_takeLatest 1 = .ok (.getfield 18, 3) := by decide +kernel
theorem dX0_takeLatest_4 : decode cX0_takeLatest 4 = .ok (.ifCond .gt 5, 3) := by decide +kernel
theorem dX0_takeLatest_7 : decode cX0_takeLatest 7 = .ok (.aconst_null, 1) := by decide +kernel
theorem dX0_takeLatest_8 : decode cX0_takeLatest 8 = .ok (.areturn, 1) := by decide +kernel
theorem dX0_takeLatest_9 : decode cX0_takeLatest 9 = .ok (.aload_n 0, 1) := by decide +kernel
theorem dX0_takeLatest_10 : decode cX0_takeLatest 10 = .ok (.dup, 1) := by decide +kernel
theorem dX0_takeLatest_11 : decode cX0_takeLatest 11 = .ok (.getfield 18, 3) := by decide +kernel
theorem dX0_takeLatest_14 : decode cX0_takeLatest 14 = .ok (.iconst 1, 1) := by decide +kernel
theorem dX0_takeLatest_15 : decode cX0_takeLatest 15 = .ok (.isub, 1) := by decide +kernel
theorem dX0_takeLatest_16 : decode cX0_takeLatest 16 = .ok (.putfield 18, 3) := by decide +kernel
theorem dX0_takeLatest_19 : decode cX0_takeLatest 19 = .ok (.aload_n 0, 1) := by decide +kernel
theorem dX0_takeLatest_20 : decode cX0_takeLatest 20 = .ok (.aload_n 0, 1) := by decide +kernel
theorem dX0_takeLatest_21 : decode cX0_takeLatest 21 = .ok (.getfield 18, 3) := by decide +kernel
theorem dX0_takeLatest_24 : decode cX0_takeLatest 24 = .ok (.invokevirtual 25, 3) := by decide +kernel
theorem dX0_takeLatest_27 : decode cX0_takeLatest 27 = .ok (.areturn, 1) := by decide +kernel
theorem rX0_takeLatest_0 {G : kz_G} {d : Nat} {Qr : Option Value → kz_M → Prop} {Qx : String → kz_M → Prop} {a0 : Nat}  {M : kz_M} (h : ∃ fs1 v2, (M).1 a0 = some (.inl (0, fs1)) ∧ fs1[2]? = some (.int v2) ∧ ((0 < v2 → ∃ fs3 v4, (M).1 a0 = some (.inl (0, fs3)) ∧ fs3[2]? = some (.int v4) ∧ (∃ fs5, (M).1 a0 = some (.inl (0, fs5)) ∧ 2 < fs5.length ∧ (∃ fs6 v7, ((kz_up M a0 (.inl (0, fs5.set 2 (.int (v4 - 1)))))).1 a0 = some (.inl (0, fs6)) ∧ fs6[2]? = some (.int v7) ∧ ((∃ fs11, ((kz_up M a0 (.inl (0, fs5.set 2 (.int (v4 - 1)))))).1 a0 = some (.inl (0, fs11))) ∧ kz_C G (d + 0) 0 0 mX0_slotAt [.ref a0, .int v7] (kz_up M a0 (.inl (0, fs5.set 2 (.int (v4 - 1))))) (fun v M8 => ∃ r9 : Option Nat, v = some (kz_rf r9) ∧ (Qr (some (kz_rf r9)) M8)) Qx)))) ∧ (¬ 0 < v2 → Qr (some (.null)) M))) : kz_C G (d + 1) 0 0 mX0_takeLatest [.ref a0] M Qr Qx := by
  refine kz_enter (n := 0) kmX0_takeLatest.1 (Nat.le_of_ble_eq_true rfl) (ls := [(0, .ref a0)]) rfl ?_
  refine kz_aload_n (pc := 0) 0 (v := .ref a0) (i := 0) rfl rfl rfl dX0_takeLatest_0 ?_
  obtain ⟨fs1, v2, hM, hv, h⟩ := h
  refine kz_getf (pc := 1) (k := 2) kcX0 hM hv (by decide) kw_151 dX0_takeLatest_1 ?_
  refine kz_if_gt (pc := 4) (tgt := 9) (by decide) dX0_takeLatest_4 (fun hb => ?_) (fun hb => ?_)
  · replace h := h.1 hb
    refine kz_aload_n (pc := 9) 0 (v := .ref a0) (i := 0) rfl rfl rfl dX0_takeLatest_9 ?_
    refine kz_dup (pc := 10) rfl dX0_takeLatest_10 ?_
    obtain ⟨fs3, v4, hM, hv, h⟩ := h
    refine kz_getf (pc := 11) (k := 2) kcX0 hM hv (by decide) kw_151 dX0_takeLatest_11 ?_
    refine kz_iconst (pc := 14) (v := 1) (by decide) dX0_takeLatest_14 ?_
    refine kz_isub (pc := 15) dX0_takeLatest_15 ?_
    obtain ⟨fs5, hM, hlen, h⟩ := h
    refine kz_putf (pc := 16) (k := 2) kcX0 hM (by decide) hlen kw_151 rfl rfl rfl dX0_takeLatest_16 ?_
    refine kz_aload_n (pc := 19) 0 (v := .ref a0) (i := 0) rfl rfl rfl dX0_takeLatest_19 ?_
    refine kz_aload_n (pc := 20) 0 (v := .ref a0) (i := 0) rfl rfl rfl dX0_takeLatest_20 ?_
    obtain ⟨fs6, v7, hM, hv, h⟩ := h
    refine kz_getf (pc := 21) (k := 2) kcX0 hM hv (by decide) kw_151 dX0_takeLatest_21 ?_
    obtain ⟨⟨fs11, he⟩, h⟩ := h
    refine kz_callV (pc := 24) (μ' := mX0_slotAt) (ci := 0) (q := (RX0, TX0, 3)) (b := a0) (d' := d + 0) (mc' := 0) (ms' := 0) (As := [.int v7]) (st := []) (c := 0) (sl := 0) kmX0_slotAt kw_468 (by omega) rfl (Nat.le_of_ble_eq_true rfl) he rfl rfl (Nat.le_refl _) (Nat.le_refl _) dX0_takeLatest_24 (fun E M9 hx => kz_Tout rfl (Nat.le_refl _) (Nat.le_refl _) hx) (kz_Cmono (fun v M8 h => ?_) (fun _ _ h => h) h)
    obtain ⟨r9, rfl, h⟩ := h
    show kz_Z G (d + 1) 0 0 mX0_takeLatest Qr Qx 27 [(0, .ref a0)] [kz_rf r9] M8 0 0
    exact kz_aret (pc := 27) (v := kz_rf r9) (kz_isr_rf _) rfl (Or.inl ⟨_, rfl⟩) (Nat.le_refl _) (Nat.le_refl _) dX0_takeLatest_27 h
  · replace h := h.2 hb
    refine kz_null (pc := 7) dX0_takeLatest_7 ?_
    exact kz_aret (pc := 8) (v := .null) rfl rfl (Or.inl ⟨_, rfl⟩) (Nat.le_refl _) (Nat.le_refl _) dX0_takeLatest_8 h
theorem dX0_slotAt_0 : decode cX0_slotAt 0 = .ok (.aload_n 0, 1) := by decide +kernel
theorem dX0_slotAt_1 : decode cX0_slotAt 1 = .ok (.getfield 22, 3) := by decide +kernel
theorem dX0_slotAt_4 : decode cX0_slotAt 4 = .ok (.iload_n 1, 1) := by decide +kernel
theorem dX0_slotAt_5 : decode cX0_slotAt 5 = .ok (.iadd, 1) := by decide +kernel
theorem dX0_slotAt_6 : decode cX0_slotAt 6 = .ok (.bipush 8, 2) := by decide +kernel
theorem dX0_slotAt_8 : decode cX0_slotAt 8 = .ok (.irem, 1) := by decide +kernel
theorem dX0_slotAt_9 : decode cX0_slotAt 9 = .ok (.istore_n 2, 1) := by decide +kernel
theorem dX0_slotAt_10 : decode cX0_slotAt 10 = .ok (.iload_n 2, 1) := by decide +kernel
theorem dX0_slotAt_11 : decode cX0_slotAt 11 = .ok (.ifCond .lt 21, 3) := by decide +kernel
theorem dX0_slotAt_14 : decode cX0_slotAt 14 = .ok (.iload_n 2, 1) := by decide +kernel
theorem dX0_slotAt_15 : decode cX0_slotAt 15 = .ok (.aload_n 0, 1) := by decide +kernel
theorem dX0_slotAt_16 : decode cX0_slotAt 16 = .ok (.getfield 11, 3) := by decide +kernel
theorem dX0_slotAt_19 : decode cX0_slotAt 19 = .ok (.arraylength, 1) := by decide +kernel
theorem dX0_slotAt_20 : decode cX0_slotAt 20 = .ok (.if_icmp .ge 12, 3) := by decide +kernel
theorem dX0_slotAt_23 : decode cX0_slotAt 23 = .ok (.aload_n 0, 1) := by decide +kernel
theorem dX0_slotAt_24 : decode cX0_slotAt 24 = .ok (.getfield 11, 3) := by decide +kernel
theorem dX0_slotAt_27 : decode cX0_slotAt 27 = .ok (.iload_n 2, 1) := by decide +kernel
theorem dX0_slotAt_28 : decode cX0_slotAt 28 = .ok (.aaload, 1) := by decide +kernel
theorem dX0_slotAt_29 : decode cX0_slotAt 29 = .ok (.goto 4, 3) := by decide +kernel
theorem dX0_slotAt_32 : decode cX0_slotAt 32 = .ok (.aconst_null, 1) := by decide +kernel
theorem dX0_slotAt_33 : decode cX0_slotAt 33 = .ok (.areturn, 1) := by decide +kernel
theorem rX0_slotAt_0 {G : kz_G} {d : Nat} {Qr : Option Value → kz_M → Prop} {Qx : String → kz_M → Prop} {a0 : Nat} {p1 : Int32}  {M : kz_M} (h : ∃ fs1 v2, (M).1 a0 = some (.inl (0, fs1)) ∧ fs1[1]? = some (.int v2) ∧ ((((v2 + p1) - (v2 + p1) / 8 * 8) < 0 → Qr (some (.null)) M) ∧ (¬ ((v2 + p1) - (v2 + p1) / 8 * 8) < 0 → ∃ fs3 v4, (M).1 a0 = some (.inl (0, fs3)) ∧ fs3[0]? = some (.ref v4) ∧ (∃ ty5 A6, (M).1 v4 = some (.inr (ty5, A6)) ∧ (((Int32.ofNat A6.1) ≤ ((v2 + p1) - (v2 + p1) / 8 * 8) → Qr (some (.null)) M) ∧ (¬ (Int32.ofNat A6.1) ≤ ((v2 + p1) - (v2 + p1) / 8 * 8) → ∃ fs7 v8, (M).1 a0 = some (.inl (0, fs7)) ∧ fs7[0]? = some (.ref v8) ∧ (∃ n9 f10, (M).1 v8 = some (.inr (.object "LineOffice$State", n9, .inr (.inr (.inr (.inr f10))))) ∧ vp_in ((v2 + p1) - (v2 + p1) / 8 * 8) n9 ∧ (∀ o11 : Option Nat, f10 ((v2 + p1) - (v2 + p1) / 8 * 8).toNatClampNeg = o11 → Qr (some (kz_rf o11)) M)))))))) : kz_C G d 0 0 mX0_slotAt [.ref a0, .int p1] M Qr Qx := by
  refine kz_enter (n := 1) kmX0_slotAt.1 (Nat.le_of_ble_eq_true rfl) (ls := [(0, .ref a0), (1, .int p1)]) rfl ?_
  refine kz_aload_n (pc := 0) 0 (v := .ref a0) (i := 0) rfl rfl rfl dX0_slotAt_0 ?_
  obtain ⟨fs1, v2, hM, hv, h⟩ := h
  refine kz_getf (pc := 1) (k := 1) kcX0 hM hv (by decide) kw_150 dX0_slotAt_1 ?_
  refine kz_iload_n (pc := 4) 1 (i := 1) rfl rfl dX0_slotAt_4 ?_
  refine kz_iadd (pc := 5) dX0_slotAt_5 ?_
  refine kz_bipush (pc := 6) (v := 8) (by decide) dX0_slotAt_6 ?_
  refine kz_irem (pc := 8) (by decide) dX0_slotAt_8 ?_
  refine kz_istore_n (pc := 9) (i := 2) (ls' := [(0, .ref a0), (1, .int p1)]) rfl (by decide) rfl dX0_slotAt_9 ?_
  refine kz_iload_n (pc := 10) 0 (i := 2) rfl rfl dX0_slotAt_10 ?_
  refine kz_if_lt (pc := 11) (tgt := 32) (by decide) dX0_slotAt_11 (fun hb => ?_) (fun hb => ?_)
  · replace h := h.1 hb
    refine kz_null (pc := 32) dX0_slotAt_32 ?_
    exact kz_aret (pc := 33) (v := .null) rfl rfl (Or.inl ⟨_, rfl⟩) (Nat.le_refl _) (Nat.le_refl _) dX0_slotAt_33 h
  · replace h := h.2 hb
    refine kz_iload_n (pc := 14) 0 (i := 2) rfl rfl dX0_slotAt_14 ?_
    refine kz_aload_n (pc := 15) 1 (v := .ref a0) (i := 0) rfl rfl rfl dX0_slotAt_15 ?_
    obtain ⟨fs3, v4, hM, hv, h⟩ := h
    refine kz_getf (pc := 16) (k := 0) kcX0 hM hv (by decide) kw_149 dX0_slotAt_16 ?_
    obtain ⟨ty5, A6, hM, h⟩ := h
    refine kz_alen (pc := 19) hM rfl dX0_slotAt_19 ?_
    refine kz_icmp_ge (pc := 20) (tgt := 32) (by decide) dX0_slotAt_20 (fun hb => ?_) (fun hb => ?_)
    · replace h := h.1 hb
      refine kz_null (pc := 32) dX0_slotAt_32 ?_
      exact kz_aret (pc := 33) (v := .null) rfl rfl (Or.inl ⟨_, rfl⟩) (Nat.le_refl _) (Nat.le_refl _) dX0_slotAt_33 h
    · replace h := h.2 hb
      refine kz_aload_n (pc := 23) 1 (v := .ref a0) (i := 0) rfl rfl rfl dX0_slotAt_23 ?_
      obtain ⟨fs7, v8, hM, hv, h⟩ := h
      refine kz_getf (pc := 24) (k := 0) kcX0 hM hv (by decide) kw_149 dX0_slotAt_24 ?_
      refine kz_iload_n (pc := 27) 0 (i := 2) rfl rfl dX0_slotAt_27 ?_
      obtain ⟨n9, f10, hM, hi, h⟩ := h
      refine kz_aald (pc := 28) hM hi dX0_slotAt_28 ?_
      generalize ho : f10 ((v2 + p1) - (v2 + p1) / 8 * 8).toNatClampNeg = o11 at h ⊢
      replace h := h _ rfl
      refine kz_goto (pc := 29) (tgt := 33) (by decide) dX0_slotAt_29 ?_
      exact kz_aret (pc := 33) (v := kz_rf o11) (kz_isr_rf _) rfl (Or.inl ⟨_, rfl⟩) (Nat.le_refl _) (Nat.le_refl _) dX0_slotAt_33 h
theorem dX2_init_0 : decode cX2_init 0 = .ok (.aload_n 0, 1) := by decide +kernel
theorem dX2_init_1 : decode cX2_init 1 = .ok (.invokespecial 3, 3) := by decide +kernel
theorem dX2_init_4 : decode cX2_init 4 = .ok (.aload_n 0, 1) := by decide +kernel
theorem dX2_init_5 : decode cX2_init 5 = .ok (.bipush 120, 2) := by decide +kernel
theorem dX2_init_7 : decode cX2_init 7 = .ok (.newarray .int, 2) := by decide +kernel
theorem dX2_init_9 : decode cX2_init 9 = .ok (.putfield 11, 3) := by decide +kernel
theorem dX2_init_12 : decode cX2_init 12 = .ok (.return_, 1) := by decide +kernel
theorem rX2_init_0 {G : kz_G} {d : Nat} {mc ms : Nat} {Qr : Option Value → kz_M → Prop} {Qx : String → kz_M → Prop} {a0 : Nat}  {M : kz_M} (h : ∃ N1, ¬ (120 : Int32) < 0 ∧ (120 : Int32).toNatClampNeg = N1 ∧ N1 ≤ 60000000 ∧ 0 + 1 ≤ mc ∧ 0 + N1 ≤ ms ∧ (∃ fs3, ((kz_nw M (.inr (.int, N1, .inl (fun _ => 0))))).1 a0 = some (.inl (2, fs3)) ∧ 0 < fs3.length ∧ (Qr none (kz_up (kz_nw M (.inr (.int, N1, .inl (fun _ => 0)))) a0 (.inl (2, fs3.set 0 (.ref ((M).2)))))))) : kz_C G (d + 1) mc ms mX2_init [.ref a0] M Qr Qx := by
  refine kz_enter (n := 0) kmX2_init.1 (Nat.le_of_ble_eq_true rfl) (ls := [(0, .ref a0)]) rfl ?_
  refine kz_aload_n (pc := 0) 0 (v := .ref a0) (i := 0) rfl rfl rfl dX2_init_0 ?_
  refine kz_objInit (pc := 1) kw_81 kw_34 kw_35 (by omega) (Nat.le_of_ble_eq_true rfl) dX2_init_1 ?_
  refine kz_aload_n (pc := 4) 0 (v := .ref a0) (i := 0) rfl rfl rfl dX2_init_4 ?_
  refine kz_bipush (pc := 5) (v := 120) (by decide) dX2_init_5 ?_
  obtain ⟨N1, hn, hN, hb8, hc2, hs2, h⟩ := h
  refine kz_newaI (pc := 7) N1 kw_91 hn hN hb8 hc2 hs2 dX2_init_7 ?_
  obtain ⟨fs3, hM, hlen, h⟩ := h
  refine kz_putF (pc := 9) (k := 0) kcX2 hM (by decide) hlen rfl rfl kw_82 rfl rfl rfl dX2_init_9 ?_
  exact kz_vret (pc := 12) rfl hc2 hs2 dX2_init_12 h
theorem dX2_takeOver_0 : decode cX2_takeOver 0 = .ok (.aload_n 1, 1) := by decide +kernel
theorem dX2_takeOver_1 : decode cX2_takeOver 1 = .ok (.getfield 11, 3) := by decide +kernel
theorem dX2_takeOver_4 : decode cX2_takeOver 4 = .ok (.iconst 0, 1) := by decide +kernel
theorem dX2_takeOver_5 : decode cX2_takeOver 5 = .ok (.aload_n 0, 1) := by decide +kernel
theorem dX2_takeOver_6 : decode cX2_takeOver 6 = .ok (.getfield 11, 3) := by decide +kernel
theorem dX2_takeOver_9 : decode cX2_takeOver 9 = .ok (.iconst 0, 1) := by decide +kernel
theorem dX2_takeOver_10 : decode cX2_takeOver 10 = .ok (.aload_n 0, 1) := by decide +kernel
theorem dX2_takeOver_11 : decode cX2_takeOver 11 = .ok (.getfield 11, 3) := by decide +kernel
theorem dX2_takeOver_14 : decode cX2_takeOver 14 = .ok (.arraylength, 1) := by decide +kernel
theorem dX2_takeOver_15 : decode cX2_takeOver 15 = .ok (.invokestatic 15, 3) := by decide +kernel
theorem dX2_takeOver_18 : decode cX2_takeOver 18 = .ok (.aload_n 0, 1) := by decide +kernel
theorem dX2_takeOver_19 : decode cX2_takeOver 19 = .ok (.aload_n 1, 1) := by decide +kernel
theorem dX2_takeOver_20 : decode cX2_takeOver 20 = .ok (.getfield 21, 3) := by decide +kernel
theorem dX2_takeOver_23 : decode cX2_takeOver 23 = .ok (.putfield 21, 3) := by decide +kernel
theorem dX2_takeOver_26 : decode cX2_takeOver 26 = .ok (.return_, 1) := by decide +kernel
theorem rX2_takeOver_0 {G : kz_G} {d : Nat} {Qr : Option Value → kz_M → Prop} {Qx : String → kz_M → Prop} {a0 : Nat} {p1 : Nat}  {M : kz_M} (h : ∃ fs1 v2, (M).1 p1 = some (.inl (2, fs1)) ∧ fs1[0]? = some (.ref v2) ∧ (∃ fs3 v4, (M).1 a0 = some (.inl (2, fs3)) ∧ fs3[0]? = some (.ref v4) ∧ (∃ fs5 v6, (M).1 a0 = some (.inl (2, fs5)) ∧ fs5[0]? = some (.ref v6) ∧ (∃ ty7 A8, (M).1 v6 = some (.inr (ty7, A8)) ∧ (∃ n11 f9 n12 g10, (M).1 v2 = some (.inr (.int, n11, .inl f9)) ∧ (M).1 v4 = some (.inr (.int, n12, .inl g10)) ∧ ¬ 0 < (0 : Int32) ∧ ¬ 0 < (0 : Int32) ∧ ¬ (Int32.ofNat A8.1) < (0 : Int32) ∧ (0 : Int32).toNatClampNeg + (Int32.ofNat A8.1 : Int32).toNatClampNeg ≤ n11 ∧ (0 : Int32).toNatClampNeg + (Int32.ofNat A8.1 : Int32).toNatClampNeg ≤ n12 ∧ (∃ fs13 v14, ((kz_up M v4 (.inr (.int, n12, .inl (va_cpy f9 g10 (0 : Int32).toNatClampNeg (0 : Int32).toNatClampNeg (Int32.ofNat A8.1 : Int32).toNatClampNeg))))).1 p1 = some (.inl (2, fs13)) ∧ fs13[1]? = some (.int v14) ∧ (∃ fs15, ((kz_up M v4 (.inr (.int, n12, .inl (va_cpy f9 g10 (0 : Int32).toNatClampNeg (0 : Int32).toNatClampNeg (Int32.ofNat A8.1 : Int32).toNatClampNeg))))).1 a0 = some (.inl (2, fs15)) ∧ 1 < fs15.length ∧ (∀ M16, M16 = kz_up (kz_up M v4 (.inr (.int, n12, .inl (va_cpy f9 g10 (0 : Int32).toNatClampNeg (0 : Int32).toNatClampNeg (Int32.ofNat A8.1 : Int32).toNatClampNeg)))) a0 (.inl (2, fs15.set 1 (.int v14))) → Qr none M16)))))))) : kz_C G (d + 1) 0 0 mX2_takeOver [.ref a0, .ref p1] M Qr Qx := by
  refine kz_enter (n := 1) kmX2_takeOver.1 (Nat.le_of_ble_eq_true rfl) (ls := [(0, .ref a0), (1, .ref p1)]) rfl ?_
  refine kz_aload_n (pc := 0) 1 (v := .ref p1) (i := 1) rfl rfl rfl dX2_takeOver_0 ?_
  obtain ⟨fs1, v2, hM, hv, h⟩ := h
  refine kz_getf (pc := 1) (k := 0) kcX2 hM hv (by decide) kw_82 dX2_takeOver_1 ?_
  refine kz_iconst (pc := 4) (v := 0) (by decide) dX2_takeOver_4 ?_
  refine kz_aload_n (pc := 5) 0 (v := .ref a0) (i := 0) rfl rfl rfl dX2_takeOver_5 ?_
  obtain ⟨fs3, v4, hM, hv, h⟩ := h
  refine kz_getf (pc := 6) (k := 0) kcX2 hM hv (by decide) kw_82 dX2_takeOver_6 ?_
  refine kz_iconst (pc := 9) (v := 0) (by decide) dX2_takeOver_9 ?_
  refine kz_aload_n (pc := 10) 0 (v := .ref a0) (i := 0) rfl rfl rfl dX2_takeOver_10 ?_
  obtain ⟨fs5, v6, hM, hv, h⟩ := h
  refine kz_getf (pc := 11) (k := 0) kcX2 hM hv (by decide) kw_82 dX2_takeOver_11 ?_
  obtain ⟨ty7, A8, hM, h⟩ := h
  refine kz_alen (pc := 14) hM rfl dX2_takeOver_14 ?_
  obtain ⟨n11, f9, n12, g10, ha, hb, h1, h2, h3, h4, h5, h⟩ := h
  refine kz_copyi (pc := 15) ⟨kw_427, kw_422, kw_421, kw_14⟩ ha hb h1 h2 h3 h4 h5 (by omega) (Nat.le_of_ble_eq_true rfl) dX2_takeOver_15 ?_
  refine kz_aload_n (pc := 18) 0 (v := .ref a0) (i := 0) rfl rfl rfl dX2_takeOver_18 ?_
  refine kz_aload_n (pc := 19) 1 (v := .ref p1) (i := 1) rfl rfl rfl dX2_takeOver_19 ?_
  obtain ⟨fs13, v14, hM, hv, h⟩ := h
  refine kz_getf (pc := 20) (k := 1) kcX2 hM hv (by decide) kw_83 dX2_takeOver_20 ?_
  obtain ⟨fs15, hM, hlen, h⟩ := h
  refine kz_putf (pc := 23) (k := 1) kcX2 hM (by decide) hlen kw_83 rfl rfl rfl dX2_takeOver_23 ?_
  refine kz_nameM (fun M16 e9 => ?_)
  replace h := h M16 e9
  exact kz_vret (pc := 26) rfl (Nat.le_refl _) (Nat.le_refl _) dX2_takeOver_26 h
theorem dX2_add_0 : decode cX2_add 0 = .ok (.aload_n 0, 1) := by decide +kernel
theorem dX2_add_1 : decode cX2_add 1 = .ok (.getfield 21, 3) := by decide +kernel
theorem dX2_add_4 : decode cX2_add 4 = .ok (.bipush 30, 2) := by decide +kernel
theorem dX2_add_6 : decode cX2_add 6 = .ok (.if_icmp .lt 29, 3) := by decide +kernel
theorem dX2_add_9 : decode cX2_add 9 = .ok (.aload_n 0, 1) := by decide +kernel
theorem dX2_add_10 : decode cX2_add 10 = .ok (.getfield 11, 3) := by decide +kernel
theorem dX2_add_13 : decode cX2_add 13 = .ok (.iconst 4, 1) := by decide +kernel
theorem dX2_add_14 : decode cX2_add 14 = .ok (.aload_n 0, 1) := by decide +kernel
theorem dX2_add_15 : decode cX2_add 15 = .ok (.getfield 11, 3) := by decide +kernel
theorem dX2_add_18 : decode cX2_add 18 = .ok (.iconst 0, 1) := by decide +kernel
theorem dX2_add_19 : decode cX2_add 19 = .ok (.aload_n 0, 1) := by decide +kernel
theorem dX2_add_20 : decode cX2_add 20 = .ok (.getfield 11, 3) := by decide +kernel
theorem dX2_add_23 : decode cX2_add 23 = .ok (.arraylength, 1) := by decide +kernel
theorem dX2_add_24 : decode cX2_add 24 = .ok (.iconst 4, 1) := by decide +kernel
theorem dX2_add_25 : decode cX2_add 25 = .ok (.isub, 1) := by decide +kernel
theorem dX2_add_26 : decode cX2_add 26 = .ok (.invokestatic 15, 3) := by decide +kernel
theorem dX2_add_29 : decode cX2_add 29 = .ok (.aload_n 0, 1) := by decide +kernel
theorem dX2_add_30 : decode cX2_add 30 = .ok (.bipush 29, 2) := by decide +kernel
theorem dX2_add_32 : decode cX2_add 32 = .ok (.putfield 21, 3) := by decide +kernel
theorem dX2_add_35 : decode cX2_add 35 = .ok (.aload_n 0, 1) := by decide +kernel
theorem dX2_add_36 : decode cX2_add 36 = .ok (.getfield 11, 3) := by decide +kernel
theorem dX2_add_39 : decode cX2_add 39 = .ok (.aload_n 0, 1) := by decide +kernel
theorem dX2_add_40 : decode cX2_add 40 = .ok (.getfield 21, 3) := by decide +kernel
theorem dX2_add_43 : decode cX2_add 43 = .ok (.iconst 4, 1) := by decide +kernel
theorem dX2_add_44 : decode cX2_add 44 = .ok (.imul, 1) := by decide +kernel
theorem dX2_add_45 : decode cX2_add 45 = .ok (.iload_n 1, 1) := by decide +kernel
theorem dX2_add_46 : decode cX2_add 46 = .ok (.invokestatic 25, 3) := by decide +kernel
theorem dX2_add_49 : decode cX2_add 49 = .ok (.aload_n 0, 1) := by decide +kernel
theorem dX2_add_50 : decode cX2_add 50 = .ok (.getfield 11, 3) := by decide +kernel
theorem dX2_add_53 : decode cX2_add 53 = .ok (.aload_n 0, 1) := by decide +kernel
theorem dX2_add_54 : decode cX2_add 54 = .ok (.getfield 21, 3) := by decide +kernel
theorem dX2_add_57 : decode cX2_add 57 = .ok (.iconst 4, 1) := by decide +kernel
theorem dX2_add_58 : decode cX2_add 58 = .ok (.imul, 1) := by decide +kernel
theorem dX2_add_59 : decode cX2_add 59 = .ok (.iconst 1, 1) := by decide +kernel
theorem dX2_add_60 : decode cX2_add 60 = .ok (.iadd, 1) := by decide +kernel
theorem dX2_add_61 : decode cX2_add 61 = .ok (.iload_n 2, 1) := by decide +kernel
theorem dX2_add_62 : decode cX2_add 62 = .ok (.invokestatic 25, 3) := by decide +kernel
theorem dX2_add_65 : decode cX2_add 65 = .ok (.aload_n 0, 1) := by decide +kernel
theorem dX2_add_66 : decode cX2_add 66 = .ok (.getfield 11, 3) := by decide +kernel
theorem dX2_add_69 : decode cX2_add 69 = .ok (.aload_n 0, 1) := by decide +kernel
theorem dX2_add_70 : decode cX2_add 70 = .ok (.getfield 21, 3) := by decide +kernel
theorem dX2_add_73 : decode cX2_add 73 = .ok (.iconst 4, 1) := by decide +kernel
theorem dX2_add_74 : decode cX2_add 74 = .ok (.imul, 1) := by decide +kernel
theorem dX2_add_75 : decode cX2_add 75 = .ok (.iconst 2, 1) := by decide +kernel
theorem dX2_add_76 : decode cX2_add 76 = .ok (.iadd, 1) := by decide +kernel
theorem dX2_add_77 : decode cX2_add 77 = .ok (.iload_n 3, 1) := by decide +kernel
theorem dX2_add_78 : decode cX2_add 78 = .ok (.invokestatic 25, 3) := by decide +kernel
theorem dX2_add_81 : decode cX2_add 81 = .ok (.aload_n 0, 1) := by decide +kernel
theorem dX2_add_82 : decode cX2_add 82 = .ok (.getfield 11, 3) := by decide +kernel
theorem dX2_add_85 : decode cX2_add 85 = .ok (.aload_n 0, 1) := by decide +kernel
theorem dX2_add_86 : decode cX2_add 86 = .ok (.getfield 21, 3) := by decide +kernel
theorem dX2_add_89 : decode cX2_add 89 = .ok (.iconst 4, 1) := by decide +kernel
theorem dX2_add_90 : decode cX2_add 90 = .ok (.imul, 1) := by decide +kernel
theorem dX2_add_91 : decode cX2_add 91 = .ok (.iconst 3, 1) := by decide +kernel
theorem dX2_add_92 : decode cX2_add 92 = .ok (.iadd, 1) := by decide +kernel
theorem dX2_add_93 : decode cX2_add 93 = .ok (.iload 4, 2) := by decide +kernel
theorem dX2_add_95 : decode cX2_add 95 = .ok (.invokestatic 25, 3) := by decide +kernel
theorem dX2_add_98 : decode cX2_add 98 = .ok (.aload_n 0, 1) := by decide +kernel
theorem dX2_add_99 : decode cX2_add 99 = .ok (.dup, 1) := by decide +kernel
theorem dX2_add_100 : decode cX2_add 100 = .ok (.getfield 21, 3) := by decide +kernel
theorem dX2_add_103 : decode cX2_add 103 = .ok (.iconst 1, 1) := by decide +kernel
theorem dX2_add_104 : decode cX2_add 104 = .ok (.iadd, 1) := by decide +kernel
theorem dX2_add_105 : decode cX2_add 105 = .ok (.putfield 21, 3) := by decide +kernel
theorem dX2_add_108 : decode cX2_add 108 = .ok (.return_, 1) := by decide +kernel
theorem rX2_add_0 {G : kz_G} {d : Nat} {Qr : Option Value → kz_M → Prop} {Qx : String → kz_M → Prop} {a0 : Nat} {p1 : Int32} {p2 : Int32} {p3 : Int32} {p4 : Int32}  {M : kz_M} (h : ∃ fs1 v2, (M).1 a0 = some (.inl (2, fs1)) ∧ fs1[1]? = some (.int v2) ∧ ((v2 < (30 : Int32) → ∃ fs3 v4, (M).1 a0 = some (.inl (2, fs3)) ∧ fs3[0]? = some (.ref v4) ∧ (∃ fs5 v6, (M).1 a0 = some (.inl (2, fs5)) ∧ fs5[1]? = some (.int v6) ∧ (kz_C G (d + 0) 0 0 mX11_put [.ref v4, .int (v6 * 4), .int p1] M (fun v M7 => v = none ∧ (∃ fs10 v11, (M7).1 a0 = some (.inl (2, fs10)) ∧ fs10[0]? = some (.ref v11) ∧ (∃ fs12 v13, (M7).1 a0 = some (.inl (2, fs12)) ∧ fs12[1]? = some (.int v13) ∧ (kz_C G (d + 0) 0 0 mX11_put [.ref v11, .int ((v13 * 4) + 1), .int p2] M7 (fun v M14 => v = none ∧ (∃ fs17 v18, (M14).1 a0 = some (.inl (2, fs17)) ∧ fs17[0]? = some (.ref v18) ∧ (∃ fs19 v20, (M14).1 a0 = some (.inl (2, fs19)) ∧ fs19[1]? = some (.int v20) ∧ (kz_C G (d + 0) 0 0 mX11_put [.ref v18, .int ((v20 * 4) + 2), .int p3] M14 (fun v M21 => v = none ∧ (∃ fs24 v25, (M21).1 a0 = some (.inl (2, fs24)) ∧ fs24[0]? = some (.ref v25) ∧ (∃ fs26 v27, (M21).1 a0 = some (.inl (2, fs26)) ∧ fs26[1]? = some (.int v27) ∧ (kz_C G (d + 0) 0 0 mX11_put [.ref v25, .int ((v27 * 4) + 3), .int p4] M21 (fun v M28 => v = none ∧ (∃ fs31 v32, (M28).1 a0 = some (.inl (2, fs31)) ∧ fs31[1]? = some (.int v32) ∧ (∃ fs33, (M28).1 a0 = some (.inl (2, fs33)) ∧ 1 < fs33.length ∧ (Qr none (kz_up M28 a0 (.inl (2, fs33.set 1 (.int (v32 + 1))))))))) Qx)))) Qx)))) Qx)))) Qx))) ∧ (¬ v2 < (30 : Int32) → ∃ fs38 v39, (M).1 a0 = some (.inl (2, fs38)) ∧ fs38[0]? = some (.ref v39) ∧ (∃ fs40 v41, (M).1 a0 = some (.inl (2, fs40)) ∧ fs40[0]? = some (.ref v41) ∧ (∃ fs42 v43, (M).1 a0 = some (.inl (2, fs42)) ∧ fs42[0]? = some (.ref v43) ∧ (∃ ty44 A45, (M).1 v43 = some (.inr (ty44, A45)) ∧ (∃ n48 f46 n49 g47, (M).1 v39 = some (.inr (.int, n48, .inl f46)) ∧ (M).1 v41 = some (.inr (.int, n49, .inl g47)) ∧ ¬ 4 < (0 : Int32) ∧ ¬ 0 < (0 : Int32) ∧ ¬ ((Int32.ofNat A45.1) - 4) < (0 : Int32) ∧ (4 : Int32).toNatClampNeg + ((Int32.ofNat A45.1) - 4 : Int32).toNatClampNeg ≤ n48 ∧ (0 : Int32).toNatClampNeg + ((Int32.ofNat A45.1) - 4 : Int32).toNatClampNeg ≤ n49 ∧ (∃ fs50, ((kz_up M v41 (.inr (.int, n49, .inl (va_cpy f46 g47 (4 : Int32).toNatClampNeg (0 : Int32).toNatClampNeg ((Int32.ofNat A45.1) - 4 : Int32).toNatClampNeg))))).1 a0 = some (.inl (2, fs50)) ∧ 1 < fs50.length ∧ (∀ M51, M51 = kz_up (kz_up M v41 (.inr (.int, n49, .inl (va_cpy f46 g47 (4 : Int32).toNatClampNeg (0 : Int32).toNatClampNeg ((Int32.ofNat A45.1) - 4 : Int32).toNatClampNeg)))) a0 (.inl (2, fs50.set 1 (.int 29))) → ∃ fs52 v53, (M51).1 a0 = some (.inl (2, fs52)) ∧ fs52[0]? = some (.ref v53) ∧ (∃ fs54 v55, (M51).1 a0 = some (.inl (2, fs54)) ∧ fs54[1]? = some (.int v55) ∧ (kz_C G (d + 0) 0 0 mX11_put [.ref v53, .int (v55 * 4), .int p1] M51 (fun v M56 => v = none ∧ (∃ fs59 v60, (M56).1 a0 = some (.inl (2, fs59)) ∧ fs59[0]? = some (.ref v60) ∧ (∃ fs61 v62, (M56).1 a0 = some (.inl (2, fs61)) ∧ fs61[1]? = some (.int v62) ∧ (kz_C G (d + 0) 0 0 mX11_put [.ref v60, .int ((v62 * 4) + 1), .int p2] M56 (fun v M63 => v = none ∧ (∃ fs66 v67, (M63).1 a0 = some (.inl (2, fs66)) ∧ fs66[0]? = some (.ref v67) ∧ (∃ fs68 v69, (M63).1 a0 = some (.inl (2, fs68)) ∧ fs68[1]? = some (.int v69) ∧ (kz_C G (d + 0) 0 0 mX11_put [.ref v67, .int ((v69 * 4) + 2), .int p3] M63 (fun v M70 => v = none ∧ (∃ fs73 v74, (M70).1 a0 = some (.inl (2, fs73)) ∧ fs73[0]? = some (.ref v74) ∧ (∃ fs75 v76, (M70).1 a0 = some (.inl (2, fs75)) ∧ fs75[1]? = some (.int v76) ∧ (kz_C G (d + 0) 0 0 mX11_put [.ref v74, .int ((v76 * 4) + 3), .int p4] M70 (fun v M77 => v = none ∧ (∃ fs80 v81, (M77).1 a0 = some (.inl (2, fs80)) ∧ fs80[1]? = some (.int v81) ∧ (∃ fs82, (M77).1 a0 = some (.inl (2, fs82)) ∧ 1 < fs82.length ∧ (Qr none (kz_up M77 a0 (.inl (2, fs82.set 1 (.int (v81 + 1))))))))) Qx)))) Qx)))) Qx)))) Qx))))))))))) : kz_C G (d + 1) 0 0 mX2_add [.ref a0, .int p1, .int p2, .int p3, .int p4] M Qr Qx := by
  refine kz_enter (n := 4) kmX2_add.1 (Nat.le_of_ble_eq_true rfl) (ls := [(0, .ref a0), (1, .int p1), (2, .int p2), (3, .int p3), (4, .int p4)]) rfl ?_
  refine kz_aload_n (pc := 0) 0 (v := .ref a0) (i := 0) rfl rfl rfl dX2_add_0 ?_
  obtain ⟨fs1, v2, hM, hv, h⟩ := h
  refine kz_getf (pc := 1) (k := 1) kcX2 hM hv (by decide) kw_83 dX2_add_1 ?_
  refine kz_bipush (pc := 4) (v := 30) (by decide) dX2_add_4 ?_
  refine kz_icmp_lt (pc := 6) (tgt := 35) (by decide) dX2_add_6 (fun hb => ?_) (fun hb => ?_)
  · replace h := h.1 hb
    refine kz_aload_n (pc := 35) 0 (v := .ref a0) (i := 0) rfl rfl rfl dX2_add_35 ?_
    obtain ⟨fs3, v4, hM, hv, h⟩ := h
    refine kz_getf (pc := 36) (k := 0) kcX2 hM hv (by decide) kw_82 dX2_add_36 ?_
    refine kz_aload_n (pc := 39) 0 (v := .ref a0) (i := 0) rfl rfl rfl dX2_add_39 ?_
    obtain ⟨fs5, v6, hM, hv, h⟩ := h
    refine kz_getf (pc := 40) (k := 1) kcX2 hM hv (by decide) kw_83 dX2_add_40 ?_
    refine kz_iconst (pc := 43) (v := 4) (by decide) dX2_add_43 ?_
    refine kz_imul (pc := 44) dX2_add_44 ?_
    refine kz_iload_n (pc := 45) 1 (i := 1) rfl rfl dX2_add_45 ?_
    refine kz_callSN (pc := 46) (μ' := mX11_put) (d' := d + 0) (mc' := 0) (ms' := 0) (As := [.ref v4, .int (v6 * 4), .int p1]) (st := []) (c := 0) (sl := 0) kmX11_put kw_1210 (by omega) rfl (Nat.le_of_ble_eq_true rfl) (Nat.le_refl _) (Nat.le_refl _) dX2_add_46 (fun E M9 hx => kz_Tout rfl (Nat.le_refl _) (Nat.le_refl _) hx) (kz_Cmono (fun v M7 h => ?_) (fun _ _ h => h) h)
    obtain ⟨rfl, h⟩ := h
    show kz_Z G (d + 1) 0 0 mX2_add Qr Qx 49 [(0, .ref a0), (1, .int p1), (2, .int p2), (3, .int p3), (4, .int p4)] [] M7 0 0
    refine kz_aload_n (pc := 49) 0 (v := .ref a0) (i := 0) rfl rfl rfl dX2_add_49 ?_
    obtain ⟨fs10, v11, hM, hv, h⟩ := h
    refine kz_getf (pc := 50) (k := 0) kcX2 hM hv (by decide) kw_82 dX2_add_50 ?_
    refine kz_aload_n (pc := 53) 0 (v := .ref a0) (i := 0) rfl rfl rfl dX2_add_53 ?_
    obtain ⟨fs12, v13, hM, hv, h⟩ := h
    refine kz_getf (pc := 54) (k := 1) kcX2 hM hv (by decide) kw_83 dX2_add_54 ?_
    refine kz_iconst (pc := 57) (v := 4) (by decide) dX2_add_57 ?_
    refine kz_imul (pc := 58) dX2_add_58 ?_
    refine kz_iconst (pc := 59) (v := 1) (by decide) dX2_add_59 ?_
    refine kz_iadd (pc := 60) dX2_add_60 ?_
    refine kz_iload_n (pc := 61) 2 (i := 2) rfl rfl dX2_add_61 ?_
    refine kz_callSN (pc := 62) (μ' := mX11_put) (d' := d + 0) (mc' := 0) (ms' := 0) (As := [.ref v11, .int ((v13 * 4) + 1), .int p2]) (st := []) (c := 0) (sl := 0) kmX11_put kw_1210 (by omega) rfl (Nat.le_of_ble_eq_true rfl) (Nat.le_refl _) (Nat.le_refl _) dX2_add_62 (fun E M9 hx => kz_Tout rfl (Nat.le_refl _) (Nat.le_refl _) hx) (kz_Cmono (fun v M14 h => ?_) (fun _ _ h => h) h)
    obtain ⟨rfl, h⟩ := h
    show kz_Z G (d + 1) 0 0 mX2_add Qr Qx 65 [(0, .ref a0), (1, .int p1), (2, .int p2), (3, .int p3), (4, .int p4)] [] M14 0 0
    refine kz_aload_n (pc := 65) 0 (v := .ref a0) (i := 0) rfl rfl rfl dX2_add_65 ?_
    obtain ⟨fs17, v18, hM, hv, h⟩ := h
    refine kz_getf (pc := 66) (k := 0) kcX2 hM hv (by decide) kw_82 dX2_add_66 ?_
    refine kz_aload_n (pc := 69) 0 (v := .ref a0) (i := 0) rfl rfl rfl dX2_add_69 ?_
    obtain ⟨fs19, v20, hM, hv, h⟩ := h
    refine kz_getf (pc := 70) (k := 1) kcX2 hM hv (by decide) kw_83 dX2_add_70 ?_
    refine kz_iconst (pc := 73) (v := 4) (by decide) dX2_add_73 ?_
    refine kz_imul (pc := 74) dX2_add_74 ?_
    refine kz_iconst (pc := 75) (v := 2) (by decide) dX2_add_75 ?_
    refine kz_iadd (pc := 76) dX2_add_76 ?_
    refine kz_iload_n (pc := 77) 3 (i := 3) rfl rfl dX2_add_77 ?_
    refine kz_callSN (pc := 78) (μ' := mX11_put) (d' := d + 0) (mc' := 0) (ms' := 0) (As := [.ref v18, .int ((v20 * 4) + 2), .int p3]) (st := []) (c := 0) (sl := 0) kmX11_put kw_1210 (by omega) rfl (Nat.le_of_ble_eq_true rfl) (Nat.le_refl _) (Nat.le_refl _) dX2_add_78 (fun E M9 hx => kz_Tout rfl (Nat.le_refl _) (Nat.le_refl _) hx) (kz_Cmono (fun v M21 h => ?_) (fun _ _ h => h) h)
    obtain ⟨rfl, h⟩ := h
    show kz_Z G (d + 1) 0 0 mX2_add Qr Qx 81 [(0, .ref a0), (1, .int p1), (2, .int p2), (3, .int p3), (4, .int p4)] [] M21 0 0
    refine kz_aload_n (pc := 81) 0 (v := .ref a0) (i := 0) rfl rfl rfl dX2_add_81 ?_
    obtain ⟨fs24, v25, hM, hv, h⟩ := h
    refine kz_getf (pc := 82) (k := 0) kcX2 hM hv (by decide) kw_82 dX2_add_82 ?_
    refine kz_aload_n (pc := 85) 0 (v := .ref a0) (i := 0) rfl rfl rfl dX2_add_85 ?_
    obtain ⟨fs26, v27, hM, hv, h⟩ := h
    refine kz_getf (pc := 86) (k := 1) kcX2 hM hv (by decide) kw_83 dX2_add_86 ?_
    refine kz_iconst (pc := 89) (v := 4) (by decide) dX2_add_89 ?_
    refine kz_imul (pc := 90) dX2_add_90 ?_
    refine kz_iconst (pc := 91) (v := 3) (by decide) dX2_add_91 ?_
    refine kz_iadd (pc := 92) dX2_add_92 ?_
    refine kz_iload (pc := 93) 4 (i := 4) rfl dX2_add_93 ?_
    refine kz_callSN (pc := 95) (μ' := mX11_put) (d' := d + 0) (mc' := 0) (ms' := 0) (As := [.ref v25, .int ((v27 * 4) + 3), .int p4]) (st := []) (c := 0) (sl := 0) kmX11_put kw_1210 (by omega) rfl (Nat.le_of_ble_eq_true rfl) (Nat.le_refl _) (Nat.le_refl _) dX2_add_95 (fun E M9 hx => kz_Tout rfl (Nat.le_refl _) (Nat.le_refl _) hx) (kz_Cmono (fun v M28 h => ?_) (fun _ _ h => h) h)
    obtain ⟨rfl, h⟩ := h
    show kz_Z G (d + 1) 0 0 mX2_add Qr Qx 98 [(0, .ref a0), (1, .int p1), (2, .int p2), (3, .int p3), (4, .int p4)] [] M28 0 0
    refine kz_aload_n (pc := 98) 0 (v := .ref a0) (i := 0) rfl rfl rfl dX2_add_98 ?_
    refine kz_dup (pc := 99) rfl dX2_add_99 ?_
    obtain ⟨fs31, v32, hM, hv, h⟩ := h
    refine kz_getf (pc := 100) (k := 1) kcX2 hM hv (by decide) kw_83 dX2_add_100 ?_
    refine kz_iconst (pc := 103) (v := 1) (by decide) dX2_add_103 ?_
    refine kz_iadd (pc := 104) dX2_add_104 ?_
    obtain ⟨fs33, hM, hlen, h⟩ := h
    refine kz_putf (pc := 105) (k := 1) kcX2 hM (by decide) hlen kw_83 rfl rfl rfl dX2_add_105 ?_
    exact kz_vret (pc := 108) rfl (Nat.le_refl _) (Nat.le_refl _) dX2_add_108 h
  · replace h := h.2 hb
    refine kz_aload_n (pc := 9) 0 (v := .ref a0) (i := 0) rfl rfl rfl dX2_add_9 ?_
    obtain ⟨fs38, v39, hM, hv, h⟩ := h
    refine kz_getf (pc := 10) (k := 0) kcX2 hM hv (by decide) kw_82 dX2_add_10 ?_
    refine kz_iconst (pc := 13) (v := 4) (by decide) dX2_add_13 ?_
    refine kz_aload_n (pc := 14) 0 (v := .ref a0) (i := 0) rfl rfl rfl dX2_add_14 ?_
    obtain ⟨fs40, v41, hM, hv, h⟩ := h
    refine kz_getf (pc := 15) (k := 0) kcX2 hM hv (by decide) kw_82 dX2_add_15 ?_
    refine kz_iconst (pc := 18) (v := 0) (by decide) dX2_add_18 ?_
    refine kz_aload_n (pc := 19) 0 (v := .ref a0) (i := 0) rfl rfl rfl dX2_add_19 ?_
    obtain ⟨fs42, v43, hM, hv, h⟩ := h
    refine kz_getf (pc := 20) (k := 0) kcX2 hM hv (by decide) kw_82 dX2_add_20 ?_
    obtain ⟨ty44, A45, hM, h⟩ := h
    refine kz_alen (pc := 23) hM rfl dX2_add_23 ?_
    refine kz_iconst (pc := 24) (v := 4) (by decide) dX2_add_24 ?_
    refine kz_isub (pc := 25) dX2_add_25 ?_
    obtain ⟨n48, f46, n49, g47, ha, hb, h1, h2, h3, h4, h5, h⟩ := h
    refine kz_copyi (pc := 26) ⟨kw_427, kw_422, kw_421, kw_14⟩ ha hb h1 h2 h3 h4 h5 (by omega) (Nat.le_of_ble_eq_true rfl) dX2_add_26 ?_
    refine kz_aload_n (pc := 29) 0 (v := .ref a0) (i := 0) rfl rfl rfl dX2_add_29 ?_
    refine kz_bipush (pc := 30) (v := 29) (by decide) dX2_add_30 ?_
    obtain ⟨fs50, hM, hlen, h⟩ := h
    refine kz_putf (pc := 32) (k := 1) kcX2 hM (by decide) hlen kw_83 rfl rfl rfl dX2_add_32 ?_
    refine kz_nameM (fun M51 e9 => ?_)
    replace h := h M51 e9
    refine kz_aload_n (pc := 35) 0 (v := .ref a0) (i := 0) rfl rfl rfl dX2_add_35 ?_
    obtain ⟨fs52, v53, hM, hv, h⟩ := h
    refine kz_getf (pc := 36) (k := 0) kcX2 hM hv (by decide) kw_82 dX2_add_36 ?_
    refine kz_aload_n (pc := 39) 0 (v := .ref a0) (i := 0) rfl rfl rfl dX2_add_39 ?_
    obtain ⟨fs54, v55, hM, hv, h⟩ := h
    refine kz_getf (pc := 40) (k := 1) kcX2 hM hv (by decide) kw_83 dX2_add_40 ?_
    refine kz_iconst (pc := 43) (v := 4) (by decide) dX2_add_43 ?_
    refine kz_imul (pc := 44) dX2_add_44 ?_
    refine kz_iload_n (pc := 45) 1 (i := 1) rfl rfl dX2_add_45 ?_
    refine kz_callSN (pc := 46) (μ' := mX11_put) (d' := d + 0) (mc' := 0) (ms' := 0) (As := [.ref v53, .int (v55 * 4), .int p1]) (st := []) (c := 0) (sl := 0) kmX11_put kw_1210 (by omega) rfl (Nat.le_of_ble_eq_true rfl) (Nat.le_refl _) (Nat.le_refl _) dX2_add_46 (fun E M9 hx => kz_Tout rfl (Nat.le_refl _) (Nat.le_refl _) hx) (kz_Cmono (fun v M56 h => ?_) (fun _ _ h => h) h)
    obtain ⟨rfl, h⟩ := h
    show kz_Z G (d + 1) 0 0 mX2_add Qr Qx 49 [(0, .ref a0), (1, .int p1), (2, .int p2), (3, .int p3), (4, .int p4)] [] M56 0 0
    refine kz_aload_n (pc := 49) 0 (v := .ref a0) (i := 0) rfl rfl rfl dX2_add_49 ?_
    obtain ⟨fs59, v60, hM, hv, h⟩ := h
    refine kz_getf (pc := 50) (k := 0) kcX2 hM hv (by decide) kw_82 dX2_add_50 ?_
    refine kz_aload_n (pc := 53) 0 (v := .ref a0) (i := 0) rfl rfl rfl dX2_add_53 ?_
    obtain ⟨fs61, v62, hM, hv, h⟩ := h
    refine kz_getf (pc := 54) (k := 1) kcX2 hM hv (by decide) kw_83 dX2_add_54 ?_
    refine kz_iconst (pc := 57) (v := 4) (by decide) dX2_add_57 ?_
    refine kz_imul (pc := 58) dX2_add_58 ?_
    refine kz_iconst (pc := 59) (v := 1) (by decide) dX2_add_59 ?_
    refine kz_iadd (pc := 60) dX2_add_60 ?_
    refine kz_iload_n (pc := 61) 2 (i := 2) rfl rfl dX2_add_61 ?_
    refine kz_callSN (pc := 62) (μ' := mX11_put) (d' := d + 0) (mc' := 0) (ms' := 0) (As := [.ref v60, .int ((v62 * 4) + 1), .int p2]) (st := []) (c := 0) (sl := 0) kmX11_put kw_1210 (by omega) rfl (Nat.le_of_ble_eq_true rfl) (Nat.le_refl _) (Nat.le_refl _) dX2_add_62 (fun E M9 hx => kz_Tout rfl (Nat.le_refl _) (Nat.le_refl _) hx) (kz_Cmono (fun v M63 h => ?_) (fun _ _ h => h) h)
    obtain ⟨rfl, h⟩ := h
    show kz_Z G (d + 1) 0 0 mX2_add Qr Qx 65 [(0, .ref a0), (1, .int p1), (2, .int p2), (3, .int p3), (4, .int p4)] [] M63 0 0
    refine kz_aload_n (pc := 65) 0 (v := .ref a0) (i := 0) rfl rfl rfl dX2_add_65 ?_
    obtain ⟨fs66, v67, hM, hv, h⟩ := h
    refine kz_getf (pc := 66) (k := 0) kcX2 hM hv (by decide) kw_82 dX2_add_66 ?_
    refine kz_aload_n (pc := 69) 0 (v := .ref a0) (i := 0) rfl rfl rfl dX2_add_69 ?_
    obtain ⟨fs68, v69, hM, hv, h⟩ := h
    refine kz_getf (pc := 70) (k := 1) kcX2 hM hv (by decide) kw_83 dX2_add_70 ?_
    refine kz_iconst (pc := 73) (v := 4) (by decide) dX2_add_73 ?_
    refine kz_imul (pc := 74) dX2_add_74 ?_
    refine kz_iconst (pc := 75) (v := 2) (by decide) dX2_add_75 ?_
    refine kz_iadd (pc := 76) dX2_add_76 ?_
    refine kz_iload_n (pc := 77) 3 (i := 3) rfl rfl dX2_add_77 ?_
    refine kz_callSN (pc := 78) (μ' := mX11_put) (d' := d + 0) (mc' := 0) (ms' := 0) (As := [.ref v67, .int ((v69 * 4) + 2), .int p3]) (st := []) (c := 0) (sl := 0) kmX11_put kw_1210 (by omega) rfl (Nat.le_of_ble_eq_true rfl) (Nat.le_refl _) (Nat.le_refl _) dX2_add_78 (fun E M9 hx => kz_Tout rfl (Nat.le_refl _) (Nat.le_refl _) hx) (kz_Cmono (fun v M70 h => ?_) (fun _ _ h => h) h)
    obtain ⟨rfl, h⟩ := h
    show kz_Z G (d + 1) 0 0 mX2_add Qr Qx 81 [(0, .ref a0), (1, .int p1), (2, .int p2), (3, .int p3), (4, .int p4)] [] M70 0 0
    refine kz_aload_n (pc := 81) 0 (v := .ref a0) (i := 0) rfl rfl rfl dX2_add_81 ?_
    obtain ⟨fs73, v74, hM, hv, h⟩ := h
    refine kz_getf (pc := 82) (k := 0) kcX2 hM hv (by decide) kw_82 dX2_add_82 ?_
    refine kz_aload_n (pc := 85) 0 (v := .ref a0) (i := 0) rfl rfl rfl dX2_add_85 ?_
    obtain ⟨fs75, v76, hM, hv, h⟩ := h
    refine kz_getf (pc := 86) (k := 1) kcX2 hM hv (by decide) kw_83 dX2_add_86 ?_
    refine kz_iconst (pc := 89) (v := 4) (by decide) dX2_add_89 ?_
    refine kz_imul (pc := 90) dX2_add_90 ?_
    refine kz_iconst (pc := 91) (v := 3) (by decide) dX2_add_91 ?_
    refine kz_iadd (pc := 92) dX2_add_92 ?_
    refine kz_iload (pc := 93) 4 (i := 4) rfl dX2_add_93 ?_
    refine kz_callSN (pc := 95) (μ' := mX11_put) (d' := d + 0) (mc' := 0) (ms' := 0) (As := [.ref v74, .int ((v76 * 4) + 3), .int p4]) (st := []) (c := 0) (sl := 0) kmX11_put kw_1210 (by omega) rfl (Nat.le_of_ble_eq_true rfl) (Nat.le_refl _) (Nat.le_refl _) dX2_add_95 (fun E M9 hx => kz_Tout rfl (Nat.le_refl _) (Nat.le_refl _) hx) (kz_Cmono (fun v M77 h => ?_) (fun _ _ h => h) h)
    obtain ⟨rfl, h⟩ := h
    show kz_Z G (d + 1) 0 0 mX2_add Qr Qx 98 [(0, .ref a0), (1, .int p1), (2, .int p2), (3, .int p3), (4, .int p4)] [] M77 0 0
    refine kz_aload_n (pc := 98) 0 (v := .ref a0) (i := 0) rfl rfl rfl dX2_add_98 ?_
    refine kz_dup (pc := 99) rfl dX2_add_99 ?_
    obtain ⟨fs80, v81, hM, hv, h⟩ := h
    refine kz_getf (pc := 100) (k := 1) kcX2 hM hv (by decide) kw_83 dX2_add_100 ?_
    refine kz_iconst (pc := 103) (v := 1) (by decide) dX2_add_103 ?_
    refine kz_iadd (pc := 104) dX2_add_104 ?_
    obtain ⟨fs82, hM, hlen, h⟩ := h
    refine kz_putf (pc := 105) (k := 1) kcX2 hM (by decide) hlen kw_83 rfl rfl rfl dX2_add_105 ?_
    exact kz_vret (pc := 108) rfl (Nat.le_refl _) (Nat.le_refl _) dX2_add_108 h
theorem dX2_partOf_0 : decode cX2_partOf 0 = .ok (.aload_n 0, 1) := by decide +kernel
theorem dX2_partOf_1 : decode cX2_partOf 1 = .ok (.getfield 11, 3) := by decide +kernel
theorem dX2_partOf_4 : decode cX2_partOf 4 = .ok (.iload_n 1, 1) := by decide +kernel
theorem dX2_partOf_5 : decode cX2_partOf 5 = .ok (.iconst 4, 1) := by decide +kernel
theorem dX2_partOf_6 : decode cX2_partOf 6 = .ok (.imul, 1) := by decide +kernel
theorem dX2_partOf_7 : decode cX2_partOf 7 = .ok (.iload_n 2, 1) := by decide +kernel
theorem dX2_partOf_8 : decode cX2_partOf 8 = .ok (.iadd, 1) := by decide +kernel
theorem dX2_partOf_9 : decode cX2_partOf 9 = .ok (.invokestatic 29, 3) := by decide +kernel
theorem dX2_partOf_12 : decode cX2_partOf 12 = .ok (.ireturn, 1) := by decide +kernel
theorem rX2_partOf_0 {G : kz_G} {d : Nat} {Qr : Option Value → kz_M → Prop} {Qx : String → kz_M → Prop} {a0 : Nat} {p1 : Int32} {p2 : Int32}  {M : kz_M} (h : ∃ fs1 v2, (M).1 a0 = some (.inl (2, fs1)) ∧ fs1[0]? = some (.ref v2) ∧ (kz_C G (d + 0) 0 0 mX11_at [.ref v2, .int ((p1 * 4) + p2)] M (fun v M3 => ∃ r4 : Int32, v = some (.int r4) ∧ (Qr (some (.int r4)) M3)) Qx)) : kz_C G (d + 1) 0 0 mX2_partOf [.ref a0, .int p1, .int p2] M Qr Qx := by
  refine kz_enter (n := 2) kmX2_partOf.1 (Nat.le_of_ble_eq_true rfl) (ls := [(0, .ref a0), (1, .int p1), (2, .int p2)]) rfl ?_
  refine kz_aload_n (pc := 0) 0 (v := .ref a0) (i := 0) rfl rfl rfl dX2_partOf_0 ?_
  obtain ⟨fs1, v2, hM, hv, h⟩ := h
  refine kz_getf (pc := 1) (k := 0) kcX2 hM hv (by decide) kw_82 dX2_partOf_1 ?_
  refine kz_iload_n (pc := 4) 1 (i := 1) rfl rfl dX2_partOf_4 ?_
  refine kz_iconst (pc := 5) (v := 4) (by decide) dX2_partOf_5 ?_
  refine kz_imul (pc := 6) dX2_partOf_6 ?_
  refine kz_iload_n (pc := 7) 2 (i := 2) rfl rfl dX2_partOf_7 ?_
  refine kz_iadd (pc := 8) dX2_partOf_8 ?_
  refine kz_callSN (pc := 9) (μ' := mX11_at) (d' := d + 0) (mc' := 0) (ms' := 0) (As := [.ref v2, .int ((p1 * 4) + p2)]) (st := []) (c := 0) (sl := 0) kmX11_at kw_872 (by omega) rfl (Nat.le_of_ble_eq_true rfl) (Nat.le_refl _) (Nat.le_refl _) dX2_partOf_9 (fun E M9 hx => kz_Tout rfl (Nat.le_refl _) (Nat.le_refl _) hx) (kz_Cmono (fun v M3 h => ?_) (fun _ _ h => h) h)
  obtain ⟨r4, rfl, h⟩ := h
  show kz_Z G (d + 1) 0 0 mX2_partOf Qr Qx 12 [(0, .ref a0), (1, .int p1), (2, .int p2)] [.int r4] M3 0 0
  exact kz_iret (pc := 12) rfl (Nat.le_refl _) (Nat.le_refl _) dX2_partOf_12 h
theorem dX2_sumOf_0 : decode cX2_sumOf 0 = .ok (.iconst 0, 1) := by decide +kernel
theorem dX2_sumOf_1 : decode cX2_sumOf 1 = .ok (.istore 4, 2) := by decide +kernel
theorem dX2_sumOf_3 : decode cX2_sumOf 3 = .ok (.iconst 0, 1) := by decide +kernel
theorem dX2_sumOf_4 : decode cX2_sumOf 4 = .ok (.istore 5, 2) := by decide +kernel
theorem dX2_sumOf_6 : decode cX2_sumOf 6 = .ok (.iload 5, 2) := by decide +kernel
theorem dX2_sumOf_8 : decode cX2_sumOf 8 = .ok (.aload_n 0, 1) := by decide +kernel
theorem dX2_sumOf_9 : decode cX2_sumOf 9 = .ok (.getfield 21, 3) := by decide +kernel
theorem dX2_sumOf_12 : decode cX2_sumOf 12 = .ok (.if_icmp .ge 70, 3) := by decide +kernel
theorem dX2_sumOf_15 : decode cX2_sumOf 15 = .ok (.aload_n 0, 1) := by decide +kernel
theorem dX2_sumOf_16 : decode cX2_sumOf 16 = .ok (.iload 5, 2) := by decide +kernel
theorem dX2_sumOf_18 : decode cX2_sumOf 18 = .ok (.iconst 1, 1) := by decide +kernel
theorem dX2_sumOf_19 : decode cX2_sumOf 19 = .ok (.invokevirtual 33, 3) := by decide +kernel
theorem dX2_sumOf_22 : decode cX2_sumOf 22 = .ok (.iload_n 1, 1) := by decide +kernel
theorem dX2_sumOf_23 : decode cX2_sumOf 23 = .ok (.if_icmp .ne 29, 3) := by decide +kernel
theorem dX2_sumOf_26 : decode cX2_sumOf 26 = .ok (.aload_n 0, 1) := by decide +kernel
theorem dX2_sumOf_27 : decode cX2_sumOf 27 = .ok (.iload 5, 2) := by decide +kernel
theorem dX2_sumOf_29 : decode cX2_sumOf 29 = .ok (.iconst 0, 1) := by decide +kernel
theorem dX2_sumOf_30 : decode cX2_sumOf 30 = .ok (.invokevirtual 33, 3) := by decide +kernel
theorem dX2_sumOf_33 : decode cX2_sumOf 33 = .ok (.iload_n 2, 1) := by decide +kernel
theorem dX2_sumOf_34 : decode cX2_sumOf 34 = .ok (.if_icmp .lt 18, 3) := by decide +kernel
theorem dX2_sumOf_37 : decode cX2_sumOf 37 = .ok (.aload_n 0, 1) := by decide +kernel
theorem dX2_sumOf_38 : decode cX2_sumOf 38 = .ok (.iload 5, 2) := by decide +kernel
theorem dX2_sumOf_40 : decode cX2_sumOf 40 = .ok (.iconst 0, 1) := by decide +kernel
theorem dX2_sumOf_41 : decode cX2_sumOf 41 = .ok (.invokevirtual 33, 3) := by decide +kernel
theorem dX2_sumOf_44 : decode cX2_sumOf 44 = .ok (.iload_n 3, 1) := by decide +kernel
theorem dX2_sumOf_45 : decode cX2_sumOf 45 = .ok (.if_icmp .gt 7, 3) := by decide +kernel
theorem dX2_sumOf_48 : decode cX2_sumOf 48 = .ok (.iconst 1, 1) := by decide +kernel
theorem dX2_sumOf_49 : decode cX2_sumOf 49 = .ok (.goto 4, 3) := by decide +kernel
theorem dX2_sumOf_52 : decode cX2_sumOf 52 = .ok (.iconst 0, 1) := by decide +kernel
theorem dX2_sumOf_53 : decode cX2_sumOf 53 = .ok (.istore 6, 2) := by decide +kernel
theorem dX2_sumOf_55 : decode cX2_sumOf 55 = .ok (.iload 4, 2) := by decide +kernel
theorem dX2_sumOf_57 : decode cX2_sumOf 57 = .ok (.iload 6, 2) := by decide +kernel
theorem dX2_sumOf_59 : decode cX2_sumOf 59 = .ok (.ifCond .eq 13, 3) := by decide +kernel
theorem dX2_sumOf_62 : decode cX2_sumOf 62 = .ok (.aload_n 0, 1) := by decide +kernel
theorem dX2_sumOf_63 : decode cX2_sumOf 63 = .ok (.iload 5, 2) := by decide +kernel
theorem dX2_sumOf_65 : decode cX2_sumOf 65 = .ok (.iconst 3, 1) := by decide +kernel
theorem dX2_sumOf_66 : decode cX2_sumOf 66 = .ok (.invokevirtual 33, 3) := by decide +kernel
theorem dX2_sumOf_69 : decode cX2_sumOf 69 = .ok (.goto 4, 3) := by decide +kernel
theorem dX2_sumOf_72 : decode cX2_sumOf 72 = .ok (.iconst 0, 1) := by decide +kernel
theorem dX2_sumOf_73 : decode cX2_sumOf 73 = .ok (.iadd, 1) := by decide +kernel
theorem dX2_sumOf_74 : decode cX2_sumOf 74 = .ok (.istore 4, 2) := by decide +kernel
theorem dX2_sumOf_76 : decode cX2_sumOf 76 = .ok (.iinc 5 1, 3) := by decide +kernel
theorem dX2_sumOf_79 : decode cX2_sumOf 79 = .ok (.goto (-73), 3) := by decide +kernel
theorem dX2_sumOf_82 : decode cX2_sumOf 82 = .ok (.iload 4, 2) := by decide +kernel
theorem dX2_sumOf_84 : decode cX2_sumOf 84 = .ok (.ireturn, 1) := by decide +kernel
def zX2_sumOf_6 (G : kz_G) (d : Nat) (Qr : Option Value → kz_M → Prop) (Qx : String → kz_M → Prop) (x0 : Nat) (x1 : Int32) (x2 : Int32) (x3 : Int32) (x4 : Int32) (x5 : Int32)  (M : kz_M) : Prop := kz_Z G (d + 2) 0 0 mX2_sumOf Qr Qx 6 [(0, .ref x0), (1, .int x1), (2, .int x2), (3, .int x3), (4, .int x4), (5, .int x5)] [] M 0 0
theorem rX2_sumOf_0 {G : kz_G} {d : Nat} {Qr : Option Value → kz_M → Prop} {Qx : String → kz_M → Prop} {a0 : Nat} {p1 : Int32} {p2 : Int32} {p3 : Int32}  {M : kz_M} (h : zX2_sumOf_6 G d Qr Qx a0 p1 p2 p3 0 0 M) : kz_C G (d + 2) 0 0 mX2_sumOf [.ref a0, .int p1, .int p2, .int p3] M Qr Qx := by
  refine kz_enter (n := 3) kmX2_sumOf.1 (Nat.le_of_ble_eq_true rfl) (ls := [(0, .ref a0), (1, .int p1), (2, .int p2), (3, .int p3)]) rfl ?_
  refine kz_iconst (pc := 0) (v := 0) (by decide) dX2_sumOf_0 ?_
  refine kz_istore (pc := 1) (i := 4) (ls' := [(0, .ref a0), (1, .int p1), (2, .int p2), (3, .int p3)]) (by decide) rfl dX2_sumOf_1 ?_
  refine kz_iconst (pc := 3) (v := 0) (by decide) dX2_sumOf_3 ?_
  refine kz_istore (pc := 4) (i := 5) (ls' := [(4, .int 0), (0, .ref a0), (1, .int p1), (2, .int p2), (3, .int p3)]) (by decide) rfl dX2_sumOf_4 ?_
  refine kz_sub [2, 3, 4, 5, 1, 0] rfl ?_
  exact h
theorem rX2_sumOf_6 {G : kz_G} {d : Nat} {Qr : Option Value → kz_M → Prop} {Qx : String → kz_M → Prop} {x0 : Nat} {x1 : Int32} {x2 : Int32} {x3 : Int32} {x4 : Int32} {x5 : Int32}  {M : kz_M} (h : ∃ fs1 v2, (M).1 x0 = some (.inl (2, fs1)) ∧ fs1[1]? = some (.int v2) ∧ ((v2 ≤ x5 → Qr (some (.int x4)) M) ∧ (¬ v2 ≤ x5 → (∃ fs30, (M).1 x0 = some (.inl (2, fs30))) ∧ kz_C G (d + 1) 0 0 mX2_partOf [.ref x0, .int x5, .int 1] M (fun v M3 => ∃ r4 : Int32, v = some (.int r4) ∧ ((¬ r4 = x1 → ((0 : Int32) = 0 → zX2_sumOf_6 G d Qr Qx x0 x1 x2 x3 (x4 + 0) (x5 + 1) M3) ∧ (¬ (0 : Int32) = 0 → (∃ fs9, (M3).1 x0 = some (.inl (2, fs9))) ∧ kz_C G (d + 1) 0 0 mX2_partOf [.ref x0, .int x5, .int 3] M3 (fun v M6 => ∃ r7 : Int32, v = some (.int r7) ∧ (zX2_sumOf_6 G d Qr Qx x0 x1 x2 x3 (x4 + r7) (x5 + 1) M6)) Qx)) ∧ (r4 = x1 → (∃ fs29, (M3).1 x0 = some (.inl (2, fs29))) ∧ kz_C G (d + 1) 0 0 mX2_partOf [.ref x0, .int x5, .int 0] M3 (fun v M10 => ∃ r11 : Int32, v = some (.int r11) ∧ ((r11 < x2 → ((0 : Int32) = 0 → zX2_sumOf_6 G d Qr Qx x0 x1 x2 x3 (x4 + 0) (x5 + 1) M10) ∧ (¬ (0 : Int32) = 0 → (∃ fs16, (M10).1 x0 = some (.inl (2, fs16))) ∧ kz_C G (d + 1) 0 0 mX2_partOf [.ref x0, .int x5, .int 3] M10 (fun v M13 => ∃ r14 : Int32, v = some (.int r14) ∧ (zX2_sumOf_6 G d Qr Qx x0 x1 x2 x3 (x4 + r14) (x5 + 1) M13)) Qx)) ∧ (¬ r11 < x2 → (∃ fs28, (M10).1 x0 = some (.inl (2, fs28))) ∧ kz_C G (d + 1) 0 0 mX2_partOf [.ref x0, .int x5, .int 0] M10 (fun v M17 => ∃ r18 : Int32, v = some (.int r18) ∧ ((x3 < r18 → ((0 : Int32) = 0 → zX2_sumOf_6 G d Qr Qx x0 x1 x2 x3 (x4 + 0) (x5 + 1) M17) ∧ (¬ (0 : Int32) = 0 → (∃ fs23, (M17).1 x0 = some (.inl (2, fs23))) ∧ kz_C G (d + 1) 0 0 mX2_partOf [.ref x0, .int x5, .int 3] M17 (fun v M20 => ∃ r21 : Int32, v = some (.int r21) ∧ (zX2_sumOf_6 G d Qr Qx x0 x1 x2 x3 (x4 + r21) (x5 + 1) M20)) Qx)) ∧ (¬ x3 < r18 → ((1 : Int32) = 0 → zX2_sumOf_6 G d Qr Qx x0 x1 x2 x3 (x4 + 0) (x5 + 1) M17) ∧ (¬ (1 : Int32) = 0 → (∃ fs27, (M17).1 x0 = some (.inl (2, fs27))) ∧ kz_C G (d + 1) 0 0 mX2_partOf [.ref x0, .int x5, .int 3] M17 (fun v M24 => ∃ r25 : Int32, v = some (.int r25) ∧ (zX2_sumOf_6 G d Qr Qx x0 x1 x2 x3 (x4 + r25) (x5 + 1) M24)) Qx)))) Qx))) Qx))) Qx))) : zX2_sumOf_6 G d Qr Qx x0 x1 x2 x3 x4 x5  M := by
  show kz_Z G (d + 2) 0 0 mX2_sumOf Qr Qx 6 [(0, .ref x0), (1, .int x1), (2, .int x2), (3, .int x3), (4, .int x4), (5, .int x5)] [] M 0 0
  refine kz_iload (pc := 6) 5 (i := 5) rfl dX2_sumOf_6 ?_
  refine kz_aload_n (pc := 8) 0 (v := .ref x0) (i := 0) rfl rfl rfl dX2_sumOf_8 ?_
  obtain ⟨fs1, v2, hM, hv, h⟩ := h
  refine kz_getf (pc := 9) (k := 1) kcX2 hM hv (by decide) kw_83 dX2_sumOf_9 ?_
  refine kz_icmp_ge (pc := 12) (tgt := 82) (by decide) dX2_sumOf_12 (fun hb => ?_) (fun hb => ?_)
  · replace h := h.1 hb
    refine kz_iload (pc := 82) 4 (i := 4) rfl dX2_sumOf_82 ?_
    exact kz_iret (pc := 84) rfl (Nat.le_refl _) (Nat.le_refl _) dX2_sumOf_84 h
  · replace h := h.2 hb
    refine kz_aload_n (pc := 15) 0 (v := .ref x0) (i := 0) rfl rfl rfl dX2_sumOf_15 ?_
    refine kz_iload (pc := 16) 5 (i := 5) rfl dX2_sumOf_16 ?_
    refine kz_iconst (pc := 18) (v := 1) (by decide) dX2_sumOf_18 ?_
    obtain ⟨⟨fs30, he⟩, h⟩ := h
    refine kz_callV (pc := 19) (μ' := mX2_partOf) (ci := 2) (q := (RX2, TX2, 2)) (b := x0) (d' := d + 1) (mc' := 0) (ms' := 0) (As := [.int x5, .int 1]) (st := []) (c := 0) (sl := 0) kmX2_partOf kw_884 (by omega) rfl (Nat.le_of_ble_eq_true rfl) he rfl rfl (Nat.le_refl _) (Nat.le_refl _) dX2_sumOf_19 (fun E M9 hx => kz_Tout rfl (Nat.le_refl _) (Nat.le_refl _) hx) (kz_Cmono (fun v M3 h => ?_) (fun _ _ h => h) h)
    obtain ⟨r4, rfl, h⟩ := h
    show kz_Z G (d + 2) 0 0 mX2_sumOf Qr Qx 22 [(0, .ref x0), (1, .int x1), (2, .int x2), (3, .int x3), (4, .int x4), (5, .int x5)] [.int r4] M3 0 0
    refine kz_iload_n (pc := 22) 1 (i := 1) rfl rfl dX2_sumOf_22 ?_
    refine kz_icmp_ne (pc := 23) (tgt := 52) (by decide) dX2_sumOf_23 (fun hb => ?_) (fun hb => ?_)
    · replace h := h.1 hb
      refine kz_iconst (pc := 52) (v := 0) (by decide) dX2_sumOf_52 ?_
      refine kz_istore (pc := 53) (i := 6) (ls' := [(0, .ref x0), (1, .int x1), (2, .int x2), (3, .int x3), (4, .int x4), (5, .int x5)]) (by decide) rfl dX2_sumOf_53 ?_
      refine kz_iload (pc := 55) 5 (i := 4) rfl dX2_sumOf_55 ?_
      refine kz_iload (pc := 57) 0 (i := 6) rfl dX2_sumOf_57 ?_
      refine kz_if_eq (pc := 59) (tgt := 72) (by decide) dX2_sumOf_59 (fun hb => ?_) (fun hb => ?_)
      · replace h := h.1 hb
        refine kz_iconst (pc := 72) (v := 0) (by decide) dX2_sumOf_72 ?_
        refine kz_iadd (pc := 73) dX2_sumOf_73 ?_
        refine kz_istore (pc := 74) (i := 4) (ls' := [(6, .int 0), (0, .ref x0), (1, .int x1), (2, .int x2), (3, .int x3), (5, .int x5)]) (by decide) rfl dX2_sumOf_74 ?_
        refine kz_iinc (pc := 76) 6 (i := 5) (v := x5 + 1) (ls' := [(4, .int (x4 + 0)), (6, .int 0), (0, .ref x0), (1, .int x1), (2, .int x2), (3, .int x3)]) rfl (congrArg (fun z => x5 + z) (by decide)) (by decide) rfl dX2_sumOf_76 ?_
        refine kz_goto (pc := 79) (tgt := 6) (by decide) dX2_sumOf_79 ?_
        refine kz_sub [3, 4, 5, 6, 1, 0] rfl ?_
        exact h
      · replace h := h.2 hb
        refine kz_aload_n (pc := 62) 1 (v := .ref x0) (i := 0) rfl rfl rfl dX2_sumOf_62 ?_
        refine kz_iload (pc := 63) 6 (i := 5) rfl dX2_sumOf_63 ?_
        refine kz_iconst (pc := 65) (v := 3) (by decide) dX2_sumOf_65 ?_
        obtain ⟨⟨fs9, he⟩, h⟩ := h
        refine kz_callV (pc := 66) (μ' := mX2_partOf) (ci := 2) (q := (RX2, TX2, 2)) (b := x0) (d' := d + 1) (mc' := 0) (ms' := 0) (As := [.int x5, .int 3]) (st := [.int x4]) (c := 0) (sl := 0) kmX2_partOf kw_884 (by omega) rfl (Nat.le_of_ble_eq_true rfl) he rfl rfl (Nat.le_refl _) (Nat.le_refl _) dX2_sumOf_66 (fun E M9 hx => kz_Tout rfl (Nat.le_refl _) (Nat.le_refl _) hx) (kz_Cmono (fun v M6 h => ?_) (fun _ _ h => h) h)
        obtain ⟨r7, rfl, h⟩ := h
        show kz_Z G (d + 2) 0 0 mX2_sumOf Qr Qx 69 [(6, .int 0), (0, .ref x0), (1, .int x1), (2, .int x2), (3, .int x3), (4, .int x4), (5, .int x5)] [.int r7, .int x4] M6 0 0
        refine kz_goto (pc := 69) (tgt := 73) (by decide) dX2_sumOf_69 ?_
        refine kz_iadd (pc := 73) dX2_sumOf_73 ?_
        refine kz_istore (pc := 74) (i := 4) (ls' := [(6, .int 0), (0, .ref x0), (1, .int x1), (2, .int x2), (3, .int x3), (5, .int x5)]) (by decide) rfl dX2_sumOf_74 ?_
        refine kz_iinc (pc := 76) 6 (i := 5) (v := x5 + 1) (ls' := [(4, .int (x4 + r7)), (6, .int 0), (0, .ref x0), (1, .int x1), (2, .int x2), (3, .int x3)]) rfl (congrArg (fun z => x5 + z) (by decide)) (by decide) rfl dX2_sumOf_76 ?_
        refine kz_goto (pc := 79) (tgt := 6) (by decide) dX2_sumOf_79 ?_
        refine kz_sub [3, 4, 5, 6, 1, 0] rfl ?_
        exact h
    · replace h := h.2 hb
      refine kz_aload_n (pc := 26) 0 (v := .ref x0) (i := 0) rfl rfl rfl dX2_sumOf_26 ?_
      refine kz_iload (pc := 27) 5 (i := 5) rfl dX2_sumOf_27 ?_
      refine kz_iconst (pc := 29) (v := 0) (by decide) dX2_sumOf_29 ?_
      obtain ⟨⟨fs29, he⟩, h⟩ := h
      refine kz_callV (pc := 30) (μ' := mX2_partOf) (ci := 2) (q := (RX2, TX2, 2)) (b := x0) (d' := d + 1) (mc' := 0) (ms' := 0) (As := [.int x5, .int 0]) (st := []) (c := 0) (sl := 0) kmX2_partOf kw_884 (by omega) rfl (Nat.le_of_ble_eq_true rfl) he rfl rfl (Nat.le_refl _) (Nat.le_refl _) dX2_sumOf_30 (fun E M9 hx => kz_Tout rfl (Nat.le_refl _) (Nat.le_refl _) hx) (kz_Cmono (fun v M10 h => ?_) (fun _ _ h => h) h)
      obtain ⟨r11, rfl, h⟩ := h
      show kz_Z G (d + 2) 0 0 mX2_sumOf Qr Qx 33 [(0, .ref x0), (1, .int x1), (2, .int x2), (3, .int x3), (4, .int x4), (5, .int x5)] [.int r11] M10 0 0
      refine kz_iload_n (pc := 33) 2 (i := 2) rfl rfl dX2_sumOf_33 ?_
      refine kz_icmp_lt (pc := 34) (tgt := 52) (by decide) dX2_sumOf_34 (fun hb => ?_) (fun hb => ?_)
      · replace h := h.1 hb
        refine kz_iconst (pc := 52) (v := 0) (by decide) dX2_sumOf_52 ?_
        refine kz_istore (pc := 53) (i := 6) (ls' := [(0, .ref x0), (1, .int x1), (2, .int x2), (3, .int x3), (4, .int x4), (5, .int x5)]) (by decide) rfl dX2_sumOf_53 ?_
        refine kz_iload (pc := 55) 5 (i := 4) rfl dX2_sumOf_55 ?_
        refine kz_iload (pc := 57) 0 (i := 6) rfl dX2_sumOf_57 ?_
        refine kz_if_eq (pc := 59) (tgt := 72) (by decide) dX2_sumOf_59 (fun hb => ?_) (fun hb => ?_)
        · replace h := h.1 hb
          refine kz_iconst (pc := 72) (v := 0) (by decide) dX2_sumOf_72 ?_
          refine kz_iadd (pc := 73) dX2_sumOf_73 ?_
          refine kz_istore (pc := 74) (i := 4) (ls' := [(6, .int 0), (0, .ref x0), (1, .int x1), (2, .int x2), (3, .int x3), (5, .int x5)]) (by decide) rfl dX2_sumOf_74 ?_
          refine kz_iinc (pc := 76) 6 (i := 5) (v := x5 + 1) (ls' := [(4, .int (x4 + 0)), (6, .int 0), (0, .ref x0), (1, .int x1), (2, .int x2), (3, .int x3)]) rfl (congrArg (fun z => x5 + z) (by decide)) (by decide) rfl dX2_sumOf_76 ?_
          refine kz_goto (pc := 79) (tgt := 6) (by decide) dX2_sumOf_79 ?_
          refine kz_sub [3, 4, 5, 6, 1, 0] rfl ?_
          exact h
        · replace h := h.2 hb
          refine kz_aload_n (pc := 62) 1 (v := .ref x0) (i := 0) rfl rfl rfl dX2_sumOf_62 ?_
          refine kz_iload (pc := 63) 6 (i := 5) rfl dX2_sumOf_63 ?_
          refine kz_iconst (pc := 65) (v := 3) (by decide) dX2_sumOf_65 ?_
          obtain ⟨⟨fs16, he⟩, h⟩ := h
          refine kz_callV (pc := 66) (μ' := mX2_partOf) (ci := 2) (q := (RX2, TX2, 2)) (b := x0) (d' := d + 1) (mc' := 0) (ms' := 0) (As := [.int x5, .int 3]) (st := [.int x4]) (c := 0) (sl := 0) kmX2_partOf kw_884 (by omega) rfl (Nat.le_of_ble_eq_true rfl) he rfl rfl (Nat.le_refl _) (Nat.le_refl _) dX2_sumOf_66 (fun E M9 hx => kz_Tout rfl (Nat.le_refl _) (Nat.le_refl _) hx) (kz_Cmono (fun v M13 h => ?_) (fun _ _ h => h) h)
          obtain ⟨r14, rfl, h⟩ := h
          show kz_Z G (d + 2) 0 0 mX2_sumOf Qr Qx 69 [(6, .int 0), (0, .ref x0), (1, .int x1), (2, .int x2), (3, .int x3), (4, .int x4), (5, .int x5)] [.int r14, .int x4] M13 0 0
          refine kz_goto (pc := 69) (tgt := 73) (by decide) dX2_sumOf_69 ?_
          refine kz_iadd (pc := 73) dX2_sumOf_73 ?_
          refine kz_istore (pc := 74) (i := 4) (ls' := [(6, .int 0), (0, .ref x0), (1, .int x1), (2, .int x2), (3, .int x3), (5, .int x5)]) (by decide) rfl dX2_sumOf_74 ?_
          refine kz_iinc (pc := 76) 6 (i := 5) (v := x5 + 1) (ls' := [(4, .int (x4 + r14)), (6, .int 0), (0, .ref x0), (1, .int x1), (2, .int x2), (3, .int x3)]) rfl (congrArg (fun z => x5 + z) (by decide)) (by decide) rfl dX2_sumOf_76 ?_
          refine kz_goto (pc := 79) (tgt := 6) (by decide) dX2_sumOf_79 ?_
          refine kz_sub [3, 4, 5, 6, 1, 0] rfl ?_
          exact h
      · replace h := h.2 hb
        refine kz_aload_n (pc := 37) 0 (v := .ref x0) (i := 0) rfl rfl rfl dX2_sumOf_37 ?_
        refine kz_iload (pc := 38) 5 (i := 5) rfl dX2_sumOf_38 ?_
        refine kz_iconst (pc := 40) (v := 0) (by decide) dX2_sumOf_40 ?_
        obtain ⟨⟨fs28, he⟩, h⟩ := h
        refine kz_callV (pc := 41) (μ' := mX2_partOf) (ci := 2) (q := (RX2, TX2, 2)) (b := x0) (d' := d + 1) (mc' := 0) (ms' := 0) (As := [.int x5, .int 0]) (st := []) (c := 0) (sl := 0) kmX2_partOf kw_884 (by omega) rfl (Nat.le_of_ble_eq_true rfl) he rfl rfl (Nat.le_refl _) (Nat.le_refl _) dX2_sumOf_41 (fun E M9 hx => kz_Tout rfl (Nat.le_refl _) (Nat.le_refl _) hx) (kz_Cmono (fun v M17 h => ?_) (fun _ _ h => h) h)
        obtain ⟨r18, rfl, h⟩ := h
        show kz_Z G (d + 2) 0 0 mX2_sumOf Qr Qx 44 [(0, .ref x0), (1, .int x1), (2, .int x2), (3, .int x3), (4, .int x4), (5, .int x5)] [.int r18] M17 0 0
        refine kz_iload_n (pc := 44) 3 (i := 3) rfl rfl dX2_sumOf_44 ?_
        refine kz_icmp_gt (pc := 45) (tgt := 52) (by decide) dX2_sumOf_45 (fun hb => ?_) (fun hb => ?_)
        · replace h := h.1 hb
          refine kz_iconst (pc := 52) (v := 0) (by decide) dX2_sumOf_52 ?_
          refine kz_istore (pc := 53) (i := 6) (ls' := [(0, .ref x0), (1, .int x1), (2, .int x2), (3, .int x3), (4, .int x4), (5, .int x5)]) (by decide) rfl dX2_sumOf_53 ?_
          refine kz_iload (pc := 55) 5 (i := 4) rfl dX2_sumOf_55 ?_
          refine kz_iload (pc := 57) 0 (i := 6) rfl dX2_sumOf_57 ?_
          refine kz_if_eq (pc := 59) (tgt := 72) (by decide) dX2_sumOf_59 (fun hb => ?_) (fun hb => ?_)
          · replace h := h.1 hb
            refine kz_iconst (pc := 72) (v := 0) (by decide) dX2_sumOf_72 ?_
            refine kz_iadd (pc := 73) dX2_sumOf_73 ?_
            refine kz_istore (pc := 74) (i := 4) (ls' := [(6, .int 0), (0, .ref x0), (1, .int x1), (2, .int x2), (3, .int x3), (5, .int x5)]) (by decide) rfl dX2_sumOf_74 ?_
            refine kz_iinc (pc := 76) 6 (i := 5) (v := x5 + 1) (ls' := [(4, .int (x4 + 0)), (6, .int 0), (0, .ref x0), (1, .int x1), (2, .int x2), (3, .int x3)]) rfl (congrArg (fun z => x5 + z) (by decide)) (by decide) rfl dX2_sumOf_76 ?_
            refine kz_goto (pc := 79) (tgt := 6) (by decide) dX2_sumOf_79 ?_
            refine kz_sub [3, 4, 5, 6, 1, 0] rfl ?_
            exact h
          · replace h := h.2 hb
            refine kz_aload_n (pc := 62) 1 (v := .ref x0) (i := 0) rfl rfl rfl dX2_sumOf_62 ?_
            refine kz_iload (pc := 63) 6 (i := 5) rfl dX2_sumOf_63 ?_
            refine kz_iconst (pc := 65) (v := 3) (by decide) dX2_sumOf_65 ?_
            obtain ⟨⟨fs23, he⟩, h⟩ := h
            refine kz_callV (pc := 66) (μ' := mX2_partOf) (ci := 2) (q := (RX2, TX2, 2)) (b := x0) (d' := d + 1) (mc' := 0) (ms' := 0) (As := [.int x5, .int 3]) (st := [.int x4]) (c := 0) (sl := 0) kmX2_partOf kw_884 (by omega) rfl (Nat.le_of_ble_eq_true rfl) he rfl rfl (Nat.le_refl _) (Nat.le_refl _) dX2_sumOf_66 (fun E M9 hx => kz_Tout rfl (Nat.le_refl _) (Nat.le_refl _) hx) (kz_Cmono (fun v M20 h => ?_) (fun _ _ h => h) h)
            obtain ⟨r21, rfl, h⟩ := h
            show kz_Z G (d + 2) 0 0 mX2_sumOf Qr Qx 69 [(6, .int 0), (0, .ref x0), (1, .int x1), (2, .int x2), (3, .int x3), (4, .int x4), (5, .int x5)] [.int r21, .int x4] M20 0 0
            refine kz_goto (pc := 69) (tgt := 73) (by decide) dX2_sumOf_69 ?_
            refine kz_iadd (pc := 73) dX2_sumOf_73 ?_
            refine kz_istore (pc := 74) (i := 4) (ls' := [(6, .int 0), (0, .ref x0), (1, .int x1), (2, .int x2), (3, .int x3), (5, .int x5)]) (by decide) rfl dX2_sumOf_74 ?_
            refine kz_iinc (pc := 76) 6 (i := 5) (v := x5 + 1) (ls' := [(4, .int (x4 + r21)), (6, .int 0), (0, .ref x0), (1, .int x1), (2, .int x2), (3, .int x3)]) rfl (congrArg (fun z => x5 + z) (by decide)) (by decide) rfl dX2_sumOf_76 ?_
            refine kz_goto (pc := 79) (tgt := 6) (by decide) dX2_sumOf_79 ?_
            refine kz_sub [3, 4, 5, 6, 1, 0] rfl ?_
            exact h
        · replace h := h.2 hb
          refine kz_iconst (pc := 48) (v := 1) (by decide) dX2_sumOf_48 ?_
          refine kz_goto (pc := 49) (tgt := 53) (by decide) dX2_sumOf_49 ?_
          refine kz_istore (pc := 53) (i := 6) (ls' := [(0, .ref x0), (1, .int x1), (2, .int x2), (3, .int x3), (4, .int x4), (5, .int x5)]) (by decide) rfl dX2_sumOf_53 ?_
          refine kz_iload (pc := 55) 5 (i := 4) rfl dX2_sumOf_55 ?_
          refine kz_iload (pc := 57) 0 (i := 6) rfl dX2_sumOf_57 ?_
          refine kz_if_eq (pc := 59) (tgt := 72) (by decide) dX2_sumOf_59 (fun hb => ?_) (fun hb => ?_)
          · replace h := h.1 hb
            refine kz_iconst (pc := 72) (v := 0) (by decide) dX2_sumOf_72 ?_
            refine kz_iadd (pc := 73) dX2_sumOf_73 ?_
            refine kz_istore (pc := 74) (i := 4) (ls' := [(6, .int 1), (0, .ref x0), (1, .int x1), (2, .int x2), (3, .int x3), (5, .int x5)]) (by decide) rfl dX2_sumOf_74 ?_
            refine kz_iinc (pc := 76) 6 (i := 5) (v := x5 + 1) (ls' := [(4, .int (x4 + 0)), (6, .int 1), (0, .ref x0), (1, .int x1), (2, .int x2), (3, .int x3)]) rfl (congrArg (fun z => x5 + z) (by decide)) (by decide) rfl dX2_sumOf_76 ?_
            refine kz_goto (pc := 79) (tgt := 6) (by decide) dX2_sumOf_79 ?_
            refine kz_sub [3, 4, 5, 6, 1, 0] rfl ?_
            exact h
          · replace h := h.2 hb
            refine kz_aload_n (pc := 62) 1 (v := .ref x0) (i := 0) rfl rfl rfl dX2_sumOf_62 ?_
            refine kz_iload (pc := 63) 6 (i := 5) rfl dX2_sumOf_63 ?_
            refine kz_iconst (pc := 65) (v := 3) (by decide) dX2_sumOf_65 ?_
            obtain ⟨⟨fs27, he⟩, h⟩ := h
            refine kz_callV (pc := 66) (μ' := mX2_partOf) (ci := 2) (q := (RX2, TX2, 2)) (b := x0) (d' := d + 1) (mc' := 0) (ms' := 0) (As := [.int x5, .int 3]) (st := [.int x4]) (c := 0) (sl := 0) kmX2_partOf kw_884 (by omega) rfl (Nat.le_of_ble_eq_true rfl) he rfl rfl (Nat.le_refl _) (Nat.le_refl _) dX2_sumOf_66 (fun E M9 hx => kz_Tout rfl (Nat.le_refl _) (Nat.le_refl _) hx) (kz_Cmono (fun v M24 h => ?_) (fun _ _ h => h) h)
            obtain ⟨r25, rfl, h⟩ := h
            show kz_Z G (d + 2) 0 0 mX2_sumOf Qr Qx 69 [(6, .int 1), (0, .ref x0), (1, .int x1), (2, .int x2), (3, .int x3), (4, .int x4), (5, .int x5)] [.int r25, .int x4] M24 0 0
            refine kz_goto (pc := 69) (tgt := 73) (by decide) dX2_sumOf_69 ?_
            refine kz_iadd (pc := 73) dX2_sumOf_73 ?_
            refine kz_istore (pc := 74) (i := 4) (ls' := [(6, .int 1), (0, .ref x0), (1, .int x1), (2, .int x2), (3, .int x3), (5, .int x5)]) (by decide) rfl dX2_sumOf_74 ?_
            refine kz_iinc (pc := 76) 6 (i := 5) (v := x5 + 1) (ls' := [(4, .int (x4 + r25)), (6, .int 1), (0, .ref x0), (1, .int x1), (2, .int x2), (3, .int x3)]) rfl (congrArg (fun z => x5 + z) (by decide)) (by decide) rfl dX2_sumOf_76 ?_
            refine kz_goto (pc := 79) (tgt := 6) (by decide) dX2_sumOf_79 ?_
            refine kz_sub [3, 4, 5, 6, 1, 0] rfl ?_
            exact h
theorem dX4_init_0 : decode cX4_init 0 = .ok (.aload_n 0, 1) := by decide +kernel
theorem dX4_init_1 : decode cX4_init 1 = .ok (.invokespecial 3, 3) := by decide +kernel
theorem dX4_init_4 : decode cX4_init 4 = .ok (.aload_n 0, 1) := by decide +kernel
theorem dX4_init_5 : decode cX4_init 5 = .ok (.sipush 256, 3) := by decide +kernel
theorem dX4_init_8 : decode cX4_init 8 = .ok (.newarray .byte, 2) := by decide +kernel
theorem dX4_init_10 : decode cX4_init 10 = .ok (.putfield 9, 3) := by decide +kernel
theorem dX4_init_13 : decode cX4_init 13 = .ok (.return_, 1) := by decide +kernel
theorem rX4_init_0 {G : kz_G} {d : Nat} {mc ms : Nat} {Qr : Option Value → kz_M → Prop} {Qx : String → kz_M → Prop} {a0 : Nat}  {M : kz_M} (h : ∃ N1, ¬ (256 : Int32) < 0 ∧ (256 : Int32).toNatClampNeg = N1 ∧ N1 ≤ 60000000 ∧ 0 + 1 ≤ mc ∧ 0 + N1 ≤ ms ∧ (∃ fs3, ((kz_nw M (.inr (.byte, N1, .inl (fun _ => 0))))).1 a0 = some (.inl (4, fs3)) ∧ 0 < fs3.length ∧ (Qr none (kz_up (kz_nw M (.inr (.byte, N1, .inl (fun _ => 0)))) a0 (.inl (4, fs3.set 0 (.ref ((M).2)))))))) : kz_C G (d + 1) mc ms mX4_init [.ref a0] M Qr Qx := by
  refine kz_enter (n := 0) kmX4_init.1 (Nat.le_of_ble_eq_true rfl) (ls := [(0, .ref a0)]) rfl ?_
  refine kz_aload_n (pc := 0) 0 (v := .ref a0) (i := 0) rfl rfl rfl dX4_init_0 ?_
  refine kz_objInit (pc := 1) kw_57 kw_34 kw_35 (by omega) (Nat.le_of_ble_eq_true rfl) dX4_init_1 ?_
  refine kz_aload_n (pc := 4) 0 (v := .ref a0) (i := 0) rfl rfl rfl dX4_init_4 ?_
  refine kz_sipush (pc := 5) (v := 256) (by decide) dX4_init_5 ?_
  obtain ⟨N1, hn, hN, hb8, hc2, hs2, h⟩ := h
  refine kz_newaB (pc := 8) N1 kw_51 hn hN hb8 hc2 hs2 dX4_init_8 ?_
  obtain ⟨fs3, hM, hlen, h⟩ := h
  refine kz_putF (pc := 10) (k := 0) kcX4 hM (by decide) hlen rfl rfl kw_58 rfl rfl rfl dX4_init_10 ?_
  exact kz_vret (pc := 13) rfl hc2 hs2 dX4_init_13 h
theorem dX4_signAt_0 : decode cX4_signAt 0 = .ok (.iload_n 1, 1) := by decide +kernel
theorem dX4_signAt_1 : decode cX4_signAt 1 = .ok (.ifCond .lt 29, 3) := by decide +kernel
theorem dX4_signAt_4 : decode cX4_signAt 4 = .ok (.iload_n 1, 1) := by decide +kernel
theorem dX4_signAt_5 : decode cX4_signAt 5 = .ok (.aload_n 0, 1) := by decide +kernel
theorem dX4_signAt_6 : decode cX4_signAt 6 = .ok (.getfield 15, 3) := by decide +kernel
theorem dX4_signAt_9 : decode cX4_signAt 9 = .ok (.if_icmp .ge 21, 3) := by decide +kernel
theorem dX4_signAt_12 : decode cX4_signAt 12 = .ok (.iload_n 1, 1) := by decide +kernel
theorem dX4_signAt_13 : decode cX4_signAt 13 = .ok (.aload_n 0, 1) := by decide +kernel
theorem dX4_signAt_14 : decode cX4_signAt 14 = .ok (.getfield 9, 3) := by decide +kernel
theorem dX4_signAt_17 : decode cX4_signAt 17 = .ok (.arraylength, 1) := by decide +kernel
theorem dX4_signAt_18 : decode cX4_signAt 18 = .ok (.if_icmp .ge 12, 3) := by decide +kernel
theorem dX4_signAt_21 : decode cX4_signAt 21 = .ok (.aload_n 0, 1) := by decide +kernel
theorem dX4_signAt_22 : decode cX4_signAt 22 = .ok (.getfield 9, 3) := by decide +kernel
theorem dX4_signAt_25 : decode cX4_signAt 25 = .ok (.iload_n 1, 1) := by decide +kernel
theorem dX4_signAt_26 : decode cX4_signAt 26 = .ok (.baload, 1) := by decide +kernel
theorem dX4_signAt_27 : decode cX4_signAt 27 = .ok (.goto 4, 3) := by decide +kernel
theorem dX4_signAt_30 : decode cX4_signAt 30 = .ok (.iconst (-1), 1) := by decide +kernel
theorem dX4_signAt_31 : decode cX4_signAt 31 = .ok (.ireturn, 1) := by decide +kernel
theorem rX4_signAt_0 {G : kz_G} {d : Nat} {Qr : Option Value → kz_M → Prop} {Qx : String → kz_M → Prop} {a0 : Nat} {p1 : Int32}  {M : kz_M} (h : (p1 < 0 → Qr (some (.int ((-1)))) M) ∧ (¬ p1 < 0 → ∃ fs1 v2, (M).1 a0 = some (.inl (4, fs1)) ∧ fs1[1]? = some (.int v2) ∧ ((v2 ≤ p1 → Qr (some (.int ((-1)))) M) ∧ (¬ v2 ≤ p1 → ∃ fs3 v4, (M).1 a0 = some (.inl (4, fs3)) ∧ fs3[0]? = some (.ref v4) ∧ (∃ ty5 A6, (M).1 v4 = some (.inr (ty5, A6)) ∧ (((Int32.ofNat A6.1) ≤ p1 → Qr (some (.int ((-1)))) M) ∧ (¬ (Int32.ofNat A6.1) ≤ p1 → ∃ fs7 v8, (M).1 a0 = some (.inl (4, fs7)) ∧ fs7[0]? = some (.ref v8) ∧ (∃ n9 f10, (M).1 v8 = some (.inr (.byte, n9, .inl f10)) ∧ vp_in p1 n9 ∧ (Qr (some (.int (f10 p1.toNatClampNeg))) M))))))))) : kz_C G d 0 0 mX4_signAt [.ref a0, .int p1] M Qr Qx := by
  refine kz_enter (n := 1) kmX4_signAt.1 (Nat.le_of_ble_eq_true rfl) (ls := [(0, .ref a0), (1, .int p1)]) rfl ?_
  refine kz_iload_n (pc := 0) 1 (i := 1) rfl rfl dX4_signAt_0 ?_
  refine kz_if_lt (pc := 1) (tgt := 30) (by decide) dX4_signAt_1 (fun hb => ?_) (fun hb => ?_)
  · replace h := h.1 hb
    refine kz_iconst (pc := 30) (v := (-1)) (by decide) dX4_signAt_30 ?_
    exact kz_iret (pc := 31) rfl (Nat.le_refl _) (Nat.le_refl _) dX4_signAt_31 h
  · replace h := h.2 hb
    refine kz_iload_n (pc := 4) 1 (i := 1) rfl rfl dX4_signAt_4 ?_
    refine kz_aload_n (pc := 5) 0 (v := .ref a0) (i := 0) rfl rfl rfl dX4_signAt_5 ?_
    obtain ⟨fs1, v2, hM, hv, h⟩ := h
    refine kz_getf (pc := 6) (k := 1) kcX4 hM hv (by decide) kw_59 dX4_signAt_6 ?_
    refine kz_icmp_ge (pc := 9) (tgt := 30) (by decide) dX4_signAt_9 (fun hb => ?_) (fun hb => ?_)
    · replace h := h.1 hb
      refine kz_iconst (pc := 30) (v := (-1)) (by decide) dX4_signAt_30 ?_
      exact kz_iret (pc := 31) rfl (Nat.le_refl _) (Nat.le_refl _) dX4_signAt_31 h
    · replace h := h.2 hb
      refine kz_iload_n (pc := 12) 1 (i := 1) rfl rfl dX4_signAt_12 ?_
      refine kz_aload_n (pc := 13) 0 (v := .ref a0) (i := 0) rfl rfl rfl dX4_signAt_13 ?_
      obtain ⟨fs3, v4, hM, hv, h⟩ := h
      refine kz_getf (pc := 14) (k := 0) kcX4 hM hv (by decide) kw_58 dX4_signAt_14 ?_
      obtain ⟨ty5, A6, hM, h⟩ := h
      refine kz_alen (pc := 17) hM rfl dX4_signAt_17 ?_
      refine kz_icmp_ge (pc := 18) (tgt := 30) (by decide) dX4_signAt_18 (fun hb => ?_) (fun hb => ?_)
      · replace h := h.1 hb
        refine kz_iconst (pc := 30) (v := (-1)) (by decide) dX4_signAt_30 ?_
        exact kz_iret (pc := 31) rfl (Nat.le_refl _) (Nat.le_refl _) dX4_signAt_31 h
      · replace h := h.2 hb
        refine kz_aload_n (pc := 21) 0 (v := .ref a0) (i := 0) rfl rfl rfl dX4_signAt_21 ?_
        obtain ⟨fs7, v8, hM, hv, h⟩ := h
        refine kz_getf (pc := 22) (k := 0) kcX4 hM hv (by decide) kw_58 dX4_signAt_22 ?_
        refine kz_iload_n (pc := 25) 1 (i := 1) rfl rfl dX4_signAt_25 ?_
        obtain ⟨n9, f10, hM, hi, h⟩ := h
        refine kz_bald (pc := 26) hM hi dX4_signAt_26 ?_
        refine kz_goto (pc := 27) (tgt := 31) (by decide) dX4_signAt_27 ?_
        exact kz_iret (pc := 31) rfl (Nat.le_refl _) (Nat.le_refl _) dX4_signAt_31 h
theorem dX4_write_0 : decode cX4_write 0 = .ok (.aload_n 0, 1) := by decide +kernel
theorem dX4_write_1 : decode cX4_write 1 = .ok (.getfield 15, 3) := by decide +kernel
theorem dX4_write_4 : decode cX4_write 4 = .ok (.ifCond .lt 36, 3) := by decide +kernel
theorem dX4_write_7 : decode cX4_write 7 = .ok (.aload_n 0, 1) := by decide +kernel
theorem dX4_write_8 : decode cX4_write 8 = .ok (.getfield 15, 3) := by decide +kernel
theorem dX4_write_11 : decode cX4_write 11 = .ok (.aload_n 0, 1) := by decide +kernel
theorem dX4_write_12 : decode cX4_write 12 = .ok (.getfield 9, 3) := by decide +kernel
theorem dX4_write_15 : decode cX4_write 15 = .ok (.arraylength, 1) := by decide +kernel
theorem dX4_write_16 : decode cX4_write 16 = .ok (.if_icmp .ge 24, 3) := by decide +kernel
theorem dX4_write_19 : decode cX4_write 19 = .ok (.aload_n 0, 1) := by decide +kernel
theorem dX4_write_20 : decode cX4_write 20 = .ok (.getfield 9, 3) := by decide +kernel
theorem dX4_write_23 : decode cX4_write 23 = .ok (.aload_n 0, 1) := by decide +kernel
theorem dX4_write_24 : decode cX4_write 24 = .ok (.getfield 15, 3) := by decide +kernel
theorem dX4_write_27 : decode cX4_write 27 = .ok (.iload_n 1, 1) := by decide +kernel
theorem dX4_write_28 : decode cX4_write 28 = .ok (.i2b, 1) := by decide +kernel
theorem dX4_write_29 : decode cX4_write 29 = .ok (.bastore, 1) := by decide +kernel
theorem dX4_write_30 : decode cX4_write 30 = .ok (.aload_n 0, 1) := by decide +kernel
theorem dX4_write_31 : decode cX4_write 31 = .ok (.dup, 1) := by decide +kernel
theorem dX4_write_32 : decode cX4_write 32 = .ok (.getfield 15, 3) := by decide +kernel
theorem dX4_write_35 : decode cX4_write 35 = .ok (.iconst 1, 1) := by decide +kernel
theorem dX4_write_36 : decode cX4_write 36 = .ok (.iadd, 1) := by decide +kernel
theorem dX4_write_37 : decode cX4_write 37 = .ok (.putfield 15, 3) := by decide +kernel
theorem dX4_write_40 : decode cX4_write 40 = .ok (.return_, 1) := by decide +kernel
theorem rX4_write_0 {G : kz_G} {d : Nat} {Qr : Option Value → kz_M → Prop} {Qx : String → kz_M → Prop} {a0 : Nat} {p1 : Int32}  {M : kz_M} (h : ∃ fs1 v2, (M).1 a0 = some (.inl (4, fs1)) ∧ fs1[1]? = some (.int v2) ∧ ((v2 < 0 → Qr none M) ∧ (¬ v2 < 0 → ∃ fs3 v4, (M).1 a0 = some (.inl (4, fs3)) ∧ fs3[1]? = some (.int v4) ∧ (∃ fs5 v6, (M).1 a0 = some (.inl (4, fs5)) ∧ fs5[0]? = some (.ref v6) ∧ (∃ ty7 A8, (M).1 v6 = some (.inr (ty7, A8)) ∧ (((Int32.ofNat A8.1) ≤ v4 → Qr none M) ∧ (¬ (Int32.ofNat A8.1) ≤ v4 → ∃ fs9 v10, (M).1 a0 = some (.inl (4, fs9)) ∧ fs9[0]? = some (.ref v10) ∧ (∃ fs11 v12, (M).1 a0 = some (.inl (4, fs11)) ∧ fs11[1]? = some (.int v12) ∧ (∃ n13 f14, (M).1 v10 = some (.inr (.byte, n13, .inl f14)) ∧ vp_in v12 n13 ∧ (∃ fs15 v16, ((kz_up M v10 (.inr (.byte, n13, .inl (upd f14 (v12 : Int32).toNatClampNeg (vp_nar .byte ((p1 : Int32).toInt8.toInt32))))))).1 a0 = some (.inl (4, fs15)) ∧ fs15[1]? = some (.int v16) ∧ (∃ fs17, ((kz_up M v10 (.inr (.byte, n13, .inl (upd f14 (v12 : Int32).toNatClampNeg (vp_nar .byte ((p1 : Int32).toInt8.toInt32))))))).1 a0 = some (.inl (4, fs17)) ∧ 1 < fs17.length ∧ (∀ M18, M18 = kz_up (kz_up M v10 (.inr (.byte, n13, .inl (upd f14 (v12 : Int32).toNatClampNeg (vp_nar .byte ((p1 : Int32).toInt8.toInt32)))))) a0 (.inl (4, fs17.set 1 (.int (v16 + 1)))) → Qr none M18)))))))))))) : kz_C G d 0 0 mX4_write [.ref a0, .int p1] M Qr Qx := by
  refine kz_enter (n := 1) kmX4_write.1 (Nat.le_of_ble_eq_true rfl) (ls := [(0, .ref a0), (1, .int p1)]) rfl ?_
  refine kz_aload_n (pc := 0) 0 (v := .ref a0) (i := 0) rfl rfl rfl dX4_write_0 ?_
  obtain ⟨fs1, v2, hM, hv, h⟩ := h
  refine kz_getf (pc := 1) (k := 1) kcX4 hM hv (by decide) kw_59 dX4_write_1 ?_
  refine kz_if_lt (pc := 4) (tgt := 40) (by decide) dX4_write_4 (fun hb => ?_) (fun hb => ?_)
  · replace h := h.1 hb
    exact kz_vret (pc := 40) rfl (Nat.le_refl _) (Nat.le_refl _) dX4_write_40 h
  · replace h := h.2 hb
    refine kz_aload_n (pc := 7) 0 (v := .ref a0) (i := 0) rfl rfl rfl dX4_write_7 ?_
    obtain ⟨fs3, v4, hM, hv, h⟩ := h
    refine kz_getf (pc := 8) (k := 1) kcX4 hM hv (by decide) kw_59 dX4_write_8 ?_
    refine kz_aload_n (pc := 11) 0 (v := .ref a0) (i := 0) rfl rfl rfl dX4_write_11 ?_
    obtain ⟨fs5, v6, hM, hv, h⟩ := h
    refine kz_getf (pc := 12) (k := 0) kcX4 hM hv (by decide) kw_58 dX4_write_12 ?_
    obtain ⟨ty7, A8, hM, h⟩ := h
    refine kz_alen (pc := 15) hM rfl dX4_write_15 ?_
    refine kz_icmp_ge (pc := 16) (tgt := 40) (by decide) dX4_write_16 (fun hb => ?_) (fun hb => ?_)
    · replace h := h.1 hb
      exact kz_vret (pc := 40) rfl (Nat.le_refl _) (Nat.le_refl _) dX4_write_40 h
    · replace h := h.2 hb
      refine kz_aload_n (pc := 19) 0 (v := .ref a0) (i := 0) rfl rfl rfl dX4_write_19 ?_
      obtain ⟨fs9, v10, hM, hv, h⟩ := h
      refine kz_getf (pc := 20) (k := 0) kcX4 hM hv (by decide) kw_58 dX4_write_20 ?_
      refine kz_aload_n (pc := 23) 0 (v := .ref a0) (i := 0) rfl rfl rfl dX4_write_23 ?_
      obtain ⟨fs11, v12, hM, hv, h⟩ := h
      refine kz_getf (pc := 24) (k := 1) kcX4 hM hv (by decide) kw_59 dX4_write_24 ?_
      refine kz_iload_n (pc := 27) 1 (i := 1) rfl rfl dX4_write_27 ?_
      refine kz_i2b (pc := 28) dX4_write_28 ?_
      obtain ⟨n13, f14, hM, hi, h⟩ := h
      refine kz_bast (pc := 29) hM hi dX4_write_29 ?_
      refine kz_aload_n (pc := 30) 0 (v := .ref a0) (i := 0) rfl rfl rfl dX4_write_30 ?_
      refine kz_dup (pc := 31) rfl dX4_write_31 ?_
      obtain ⟨fs15, v16, hM, hv, h⟩ := h
      refine kz_getf (pc := 32) (k := 1) kcX4 hM hv (by decide) kw_59 dX4_write_32 ?_
      refine kz_iconst (pc := 35) (v := 1) (by decide) dX4_write_35 ?_
      refine kz_iadd (pc := 36) dX4_write_36 ?_
      obtain ⟨fs17, hM, hlen, h⟩ := h
      refine kz_putf (pc := 37) (k := 1) kcX4 hM (by decide) hlen kw_59 rfl rfl rfl dX4_write_37 ?_
      refine kz_nameM (fun M18 e9 => ?_)
      replace h := h M18 e9
      exact kz_vret (pc := 40) rfl (Nat.le_refl _) (Nat.le_refl _) dX4_write_40 h
theorem dX4_separate_0 : decode cX4_separate 0 = .ok (.aload_n 0, 1) := by decide +kernel
theorem dX4_separate_1 : decode cX4_separate 1 = .ok (.getfield 15, 3) := by decide +kernel
theorem dX4_separate_4 : decode cX4_separate 4 = .ok (.ifCond .le 9, 3) := by decide +kernel
theorem dX4_separate_7 : decode cX4_separate 7 = .ok (.aload_n 0, 1) := by decide +kernel
theorem dX4_separate_8 : decode cX4_separate 8 = .ok (.bipush 32, 2) := by decide +kernel
theorem dX4_separate_10 : decode cX4_separate 10 = .ok (.invokevirtual 19, 3) := by decide +kernel
theorem dX4_separate_13 : decode cX4_separate 13 = .ok (.return_, 1) := by decide +kernel
theorem rX4_separate_0 {G : kz_G} {d : Nat} {Qr : Option Value → kz_M → Prop} {Qx : String → kz_M → Prop} {a0 : Nat}  {M : kz_M} (h : ∃ fs1 v2, (M).1 a0 = some (.inl (4, fs1)) ∧ fs1[1]? = some (.int v2) ∧ ((v2 ≤ 0 → Qr none M) ∧ (¬ v2 ≤ 0 → (∃ fs6, (M).1 a0 = some (.inl (4, fs6))) ∧ kz_C G (d + 0) 0 0 mX4_write [.ref a0, .int 32] M (fun v M3 => v = none ∧ (Qr none M3)) Qx))) : kz_C G (d + 1) 0 0 mX4_separate [.ref a0] M Qr Qx := by
  refine kz_enter (n := 0) kmX4_separate.1 (Nat.le_of_ble_eq_true rfl) (ls := [(0, .ref a0)]) rfl ?_
  refine kz_aload_n (pc := 0) 0 (v := .ref a0) (i := 0) rfl rfl rfl dX4_separate_0 ?_
  obtain ⟨fs1, v2, hM, hv, h⟩ := h
  refine kz_getf (pc := 1) (k := 1) kcX4 hM hv (by decide) kw_59 dX4_separate_1 ?_
  refine kz_if_le (pc := 4) (tgt := 13) (by decide) dX4_separate_4 (fun hb => ?_) (fun hb => ?_)
  · replace h := h.1 hb
    exact kz_vret (pc := 13) rfl (Nat.le_refl _) (Nat.le_refl _) dX4_separate_13 h
  · replace h := h.2 hb
    refine kz_aload_n (pc := 7) 0 (v := .ref a0) (i := 0) rfl rfl rfl dX4_separate_7 ?_
    refine kz_bipush (pc := 8) (v := 32) (by decide) dX4_separate_8 ?_
    obtain ⟨⟨fs6, he⟩, h⟩ := h
    refine kz_callV (pc := 10) (μ' := mX4_write) (ci := 4) (q := (RX4, TX4, 2)) (b := a0) (d' := d + 0) (mc' := 0) (ms' := 0) (As := [.int 32]) (st := []) (c := 0) (sl := 0) kmX4_write kw_481 (by omega) rfl (Nat.le_of_ble_eq_true rfl) he rfl rfl (Nat.le_refl _) (Nat.le_refl _) dX4_separate_10 (fun E M9 hx => kz_Tout rfl (Nat.le_refl _) (Nat.le_refl _) hx) (kz_Cmono (fun v M3 h => ?_) (fun _ _ h => h) h)
    obtain ⟨rfl, h⟩ := h
    show kz_Z G (d + 1) 0 0 mX4_separate Qr Qx 13 [(0, .ref a0)] [] M3 0 0
    exact kz_vret (pc := 13) rfl (Nat.le_refl _) (Nat.le_refl _) dX4_separate_13 h
theorem dX4_writeWord_0 : decode cX4_writeWord 0 = .ok (.lload_n 1, 1) := by decide +kernel
theorem dX4_writeWord_1 : decode cX4_writeWord 1 = .ok (.invokestatic 23, 3) := by decide +kernel
theorem dX4_writeWord_4 : decode cX4_writeWord 4 = .ok (.iconst 1, 1) := by decide +kernel
theorem dX4_writeWord_5 : decode cX4_writeWord 5 = .ok (.isub, 1) := by decide +kernel
theorem dX4_writeWord_6 : decode cX4_writeWord 6 = .ok (.istore_n 3, 1) := by decide +kernel
theorem dX4_writeWord_7 : decode cX4_writeWord 7 = .ok (.iload_n 3, 1) := by decide +kernel
theorem dX4_writeWord_8 : decode cX4_writeWord 8 = .ok (.ifCond .lt 31, 3) := by decide +kernel
theorem dX4_writeWord_11 : decode cX4_writeWord 11 = .ok (.lload_n 1, 1) := by decide +kernel
theorem dX4_writeWord_12 : decode cX4_writeWord 12 = .ok (.iconst 5, 1) := by decide +kernel
theorem dX4_writeWord_13 : decode cX4_writeWord 13 = .ok (.iload_n 3, 1) := by decide +kernel
theorem dX4_writeWord_14 : decode cX4_writeWord 14 = .ok (.imul, 1) := by decide +kernel
theorem dX4_writeWord_15 : decode cX4_writeWord 15 = .ok (.lshr, 1) := by decide +kernel
theorem dX4_writeWord_16 : decode cX4_writeWord 16 = .ok (.l2i, 1) := by decide +kernel
theorem dX4_writeWord_17 : decode cX4_writeWord 17 = .ok (.bipush 31, 2) := by decide +kernel
theorem dX4_writeWord_19 : decode cX4_writeWord 19 = .ok (.iand, 1) := by decide +kernel
theorem dX4_writeWord_20 : decode cX4_writeWord 20 = .ok (.istore 4, 2) := by decide +kernel
theorem dX4_writeWord_22 : decode cX4_writeWord 22 = .ok (.aload_n 0, 1) := by decide +kernel
theorem dX4_writeWord_23 : decode cX4_writeWord 23 = .ok (.bipush 97, 2) := by decide +kernel
theorem dX4_writeWord_25 : decode cX4_writeWord 25 = .ok (.iload 4, 2) := by decide +kernel
theorem dX4_writeWord_27 : decode cX4_writeWord 27 = .ok (.iadd, 1) := by decide +kernel
theorem dX4_writeWord_28 : decode cX4_writeWord 28 = .ok (.iconst 1, 1) := by decide +kernel
theorem dX4_writeWord_29 : decode cX4_writeWord 29 = .ok (.isub, 1) := by decide +kernel
theorem dX4_writeWord_30 : decode cX4_writeWord 30 = .ok (.invokevirtual 19, 3) := by decide +kernel
theorem dX4_writeWord_33 : decode cX4_writeWord 33 = .ok (.iinc 3 (-1), 3) := by decide +kernel
theorem dX4_writeWord_36 : decode cX4_writeWord 36 = .ok (.goto (-29), 3) := by decide +kernel
theorem dX4_writeWord_39 : decode cX4_writeWord 39 = .ok (.return_, 1) := by decide +kernel
def zX4_writeWord_7 (G : kz_G) (d : Nat) (Qr : Option Value → kz_M → Prop) (Qx : String → kz_M → Prop) (x0 : Nat) (x1 : Int64) (x3 : Int32)  (M : kz_M) : Prop := kz_Z G (d + 1) 0 0 mX4_writeWord Qr Qx 7 [(0, .ref x0), (1, .long x1), (3, .int x3)] [] M 0 0
theorem rX4_writeWord_0 {G : kz_G} {d : Nat} {Qr : Option Value → kz_M → Prop} {Qx : String → kz_M → Prop} {a0 : Nat} {p1 : Int64}  {M : kz_M} (h : kz_C G (d + 0) 0 0 mX11_lengthOf [.long p1] M (fun v M1 => ∃ r2 : Int32, v = some (.int r2) ∧ (zX4_writeWord_7 G d Qr Qx a0 p1 (r2 - 1) M1)) Qx) : kz_C G (d + 1) 0 0 mX4_writeWord [.ref a0, .long p1] M Qr Qx := by
  refine kz_enter (n := 1) kmX4_writeWord.1 (Nat.le_of_ble_eq_true rfl) (ls := [(0, .ref a0), (1, .long p1)]) rfl ?_
  refine kz_lload_n (pc := 0) 1 (i := 1) rfl rfl dX4_writeWord_0 ?_
  refine kz_callSN (pc := 1) (μ' := mX11_lengthOf) (d' := d + 0) (mc' := 0) (ms' := 0) (As := [.long p1]) (st := []) (c := 0) (sl := 0) kmX11_lengthOf kw_490 (by omega) rfl (Nat.le_of_ble_eq_true rfl) (Nat.le_refl _) (Nat.le_refl _) dX4_writeWord_1 (fun E M9 hx => kz_Tout rfl (Nat.le_refl _) (Nat.le_refl _) hx) (kz_Cmono (fun v M1 h => ?_) (fun _ _ h => h) h)
  obtain ⟨r2, rfl, h⟩ := h
  show kz_Z G (d + 1) 0 0 mX4_writeWord Qr Qx 4 [(0, .ref a0), (1, .long p1)] [.int r2] M1 0 0
  refine kz_iconst (pc := 4) (v := 1) (by decide) dX4_writeWord_4 ?_
  refine kz_isub (pc := 5) dX4_writeWord_5 ?_
  refine kz_istore_n (pc := 6) (i := 3) (ls' := [(0, .ref a0), (1, .long p1)]) rfl (by decide) rfl dX4_writeWord_6 ?_
  refine kz_sub [1, 2, 0] rfl ?_
  exact h
theorem rX4_writeWord_7 {G : kz_G} {d : Nat} {Qr : Option Value → kz_M → Prop} {Qx : String → kz_M → Prop} {x0 : Nat} {x1 : Int64} {x3 : Int32}  {M : kz_M} (h : (x3 < 0 → Qr none M) ∧ (¬ x3 < 0 → (∃ fs4, (M).1 x0 = some (.inl (4, fs4))) ∧ kz_C G (d + 0) 0 0 mX4_write [.ref x0, .int ((97 + (((x1 >>> ((5 * x3).toInt64 &&& 63) : Int64).toInt32) &&& 31)) - 1)] M (fun v M1 => v = none ∧ (zX4_writeWord_7 G d Qr Qx x0 x1 (x3 + (-1)) M1)) Qx)) : zX4_writeWord_7 G d Qr Qx x0 x1 x3  M := by
  show kz_Z G (d + 1) 0 0 mX4_writeWord Qr Qx 7 [(0, .ref x0), (1, .long x1), (3, .int x3)] [] M 0 0
  refine kz_iload_n (pc := 7) 2 (i := 3) rfl rfl dX4_writeWord_7 ?_
  refine kz_if_lt (pc := 8) (tgt := 39) (by decide) dX4_writeWord_8 (fun hb => ?_) (fun hb => ?_)
  · replace h := h.1 hb
    exact kz_vret (pc := 39) rfl (Nat.le_refl _) (Nat.le_refl _) dX4_writeWord_39 h
  · replace h := h.2 hb
    refine kz_lload_n (pc := 11) 1 (i := 1) rfl rfl dX4_writeWord_11 ?_
    refine kz_iconst (pc := 12) (v := 5) (by decide) dX4_writeWord_12 ?_
    refine kz_iload_n (pc := 13) 2 (i := 3) rfl rfl dX4_writeWord_13 ?_
    refine kz_imul (pc := 14) dX4_writeWord_14 ?_
    refine kz_lshr (pc := 15) dX4_writeWord_15 ?_
    refine kz_l2i (pc := 16) dX4_writeWord_16 ?_
    refine kz_bipush (pc := 17) (v := 31) (by decide) dX4_writeWord_17 ?_
    refine kz_iand (pc := 19) dX4_writeWord_19 ?_
    refine kz_istore (pc := 20) (i := 4) (ls' := [(0, .ref x0), (1, .long x1), (3, .int x3)]) (by decide) rfl dX4_writeWord_20 ?_
    refine kz_aload_n (pc := 22) 1 (v := .ref x0) (i := 0) rfl rfl rfl dX4_writeWord_22 ?_
    refine kz_bipush (pc := 23) (v := 97) (by decide) dX4_writeWord_23 ?_
    refine kz_iload (pc := 25) 0 (i := 4) rfl dX4_writeWord_25 ?_
    refine kz_iadd (pc := 27) dX4_writeWord_27 ?_
    refine kz_iconst (pc := 28) (v := 1) (by decide) dX4_writeWord_28 ?_
    refine kz_isub (pc := 29) dX4_writeWord_29 ?_
    obtain ⟨⟨fs4, he⟩, h⟩ := h
    refine kz_callV (pc := 30) (μ' := mX4_write) (ci := 4) (q := (RX4, TX4, 2)) (b := x0) (d' := d + 0) (mc' := 0) (ms' := 0) (As := [.int ((97 + (((x1 >>> ((5 * x3).toInt64 &&& 63) : Int64).toInt32) &&& 31)) - 1)]) (st := []) (c := 0) (sl := 0) kmX4_write kw_481 (by omega) rfl (Nat.le_of_ble_eq_true rfl) he rfl rfl (Nat.le_refl _) (Nat.le_refl _) dX4_writeWord_30 (fun E M9 hx => kz_Tout rfl (Nat.le_refl _) (Nat.le_refl _) hx) (kz_Cmono (fun v M1 h => ?_) (fun _ _ h => h) h)
    obtain ⟨rfl, h⟩ := h
    show kz_Z G (d + 1) 0 0 mX4_writeWord Qr Qx 33 [(4, .int (((x1 >>> ((5 * x3).toInt64 &&& 63) : Int64).toInt32) &&& 31)), (0, .ref x0), (1, .long x1), (3, .int x3)] [] M1 0 0
    refine kz_iinc (pc := 33) 3 (i := 3) (v := x3 + (-1)) (ls' := [(4, .int (((x1 >>> ((5 * x3).toInt64 &&& 63) : Int64).toInt32) &&& 31)), (0, .ref x0), (1, .long x1)]) rfl (congrArg (fun z => x3 + z) (by decide)) (by decide) rfl dX4_writeWord_33 ?_
    refine kz_goto (pc := 36) (tgt := 7) (by decide) dX4_writeWord_36 ?_
    refine kz_sub [2, 3, 0] rfl ?_
    exact h
theorem dX4_writeNumber_0 : decode cX4_writeNumber 0 = .ok (.iload_n 1, 1) := by decide +kernel
theorem dX4_writeNumber_1 : decode cX4_writeNumber 1 = .ok (.i2l, 1) := by decide +kernel
theorem dX4_writeNumber_2 : decode cX4_writeNumber 2 = .ok (.invokestatic 27, 3) := by decide +kernel
theorem dX4_writeNumber_5 : decode cX4_writeNumber 5 = .ok (.lstore_n 2, 1) := by decide +kernel
theorem dX4_writeNumber_6 : decode cX4_writeNumber 6 = .ok (.iload_n 1, 1) := by decide +kernel
theorem dX4_writeNumber_7 : decode cX4_writeNumber 7 = .ok (.ifCond .ge 9, 3) := by decide +kernel
theorem dX4_writeNumber_10 : decode cX4_writeNumber 10 = .ok (.aload_n 0, 1) := by decide +kernel
theorem dX4_writeNumber_11 : decode cX4_writeNumber 11 = .ok (.bipush 45, 2) := by decide +kernel
theorem dX4_writeNumber_13 : decode cX4_writeNumber 13 = .ok (.invokevirtual 19, 3) := by decide +kernel
theorem dX4_writeNumber_16 : decode cX4_writeNumber 16 = .ok (.ldc2_w 33, 3) := by decide +kernel
theorem dX4_writeNumber_19 : decode cX4_writeNumber 19 = .ok (.lstore 4, 2) := by decide +kernel
theorem dX4_writeNumber_21 : decode cX4_writeNumber 21 = .ok (.lload 4, 2) := by decide +kernel
theorem dX4_writeNumber_23 : decode cX4_writeNumber 23 = .ok (.lconst 0, 1) := by decide +kernel
theorem dX4_writeNumber_24 : decode cX4_writeNumber 24 = .ok (.lcmp, 1) := by decide +kernel
theorem dX4_writeNumber_25 : decode cX4_writeNumber 25 = .ok (.ifCond .le 44, 3) := by decide +kernel
theorem dX4_writeNumber_28 : decode cX4_writeNumber 28 = .ok (.lload_n 2, 1) := by decide +kernel
theorem dX4_writeNumber_29 : decode cX4_writeNumber 29 = .ok (.lload 4, 2) := by decide +kernel
theorem dX4_writeNumber_31 : decode cX4_writeNumber 31 = .ok (.lcmp, 1) := by decide +kernel
theorem dX4_writeNumber_32 : decode cX4_writeNumber 32 = .ok (.ifCond .ge 10, 3) := by decide +kernel
theorem dX4_writeNumber_35 : decode cX4_writeNumber 35 = .ok (.lload 4, 2) := by decide +kernel
theorem dX4_writeNumber_37 : decode cX4_writeNumber 37 = .ok (.lconst 1, 1) := by decide +kernel
theorem dX4_writeNumber_38 : decode cX4_writeNumber 38 = .ok (.lcmp, 1) := by decide +kernel
theorem dX4_writeNumber_39 : decode cX4_writeNumber 39 = .ok (.ifCond .ne 19, 3) := by decide +kernel
theorem dX4_writeNumber_42 : decode cX4_writeNumber 42 = .ok (.aload_n 0, 1) := by decide +kernel
theorem dX4_writeNumber_43 : decode cX4_writeNumber 43 = .ok (.bipush 48, 2) := by decide +kernel
theorem dX4_writeNumber_45 : decode cX4_writeNumber 45 = .ok (.lload_n 2, 1) := by decide +kernel
theorem dX4_writeNumber_46 : decode cX4_writeNumber 46 = .ok (.lload 4, 2) := by decide +kernel
theorem dX4_writeNumber_48 : decode cX4_writeNumber 48 = .ok (.ldiv, 1) := by decide +kernel
theorem dX4_writeNumber_49 : decode cX4_writeNumber 49 = .ok (.ldc2_w 35, 3) := by decide +kernel
theorem dX4_writeNumber_52 : decode cX4_writeNumber 52 = .ok (.lrem, 1) := by decide +kernel
theorem dX4_writeNumber_53 : decode cX4_writeNumber 53 = .ok (.l2i, 1) := by decide +kernel
theorem dX4_writeNumber_54 : decode cX4_writeNumber 54 = .ok (.iadd, 1) := by decide +kernel
theorem dX4_writeNumber_55 : decode cX4_writeNumber 55 = .ok (.invokevirtual 19, 3) := by decide +kernel
theorem dX4_writeNumber_58 : decode cX4_writeNumber 58 = .ok (.lload 4, 2) := by decide +kernel
theorem dX4_writeNumber_60 : decode cX4_writeNumber 60 = .ok (.ldc2_w 35, 3) := by decide +kernel
theorem dX4_writeNumber_63 : decode cX4_writeNumber 63 = .ok (.ldiv, 1) := by decide +kernel
theorem dX4_writeNumber_64 : decode cX4_writeNumber 64 = .ok (.lstore 4, 2) := by decide +kernel
theorem dX4_writeNumber_66 : decode cX4_writeNumber 66 = .ok (.goto (-45), 3) := by decide +kernel
theorem dX4_writeNumber_69 : decode cX4_writeNumber 69 = .ok (.return_, 1) := by decide +kernel
def zX4_writeNumber_21 (G : kz_G) (d : Nat) (Qr : Option Value → kz_M → Prop) (Qx : String → kz_M → Prop) (x0 : Nat) (x2 : Int64) (x4 : Int64)  (M : kz_M) : Prop := kz_Z G (d + 1) 0 0 mX4_writeNumber Qr Qx 21 [(0, .ref x0), (2, .long x2), (4, .long x4)] [] M 0 0
theorem rX4_writeNumber_0 {G : kz_G} {d : Nat} {Qr : Option Value → kz_M → Prop} {Qx : String → kz_M → Prop} {a0 : Nat} {p1 : Int32}  {M : kz_M} (h : (0 ≤ p1 → zX4_writeNumber_21 G d Qr Qx a0 (if 0 < ((p1 : Int32).toInt64) then ((p1 : Int32).toInt64) else -((p1 : Int32).toInt64)) 1000000000 M) ∧ (¬ 0 ≤ p1 → (∃ fs4, (M).1 a0 = some (.inl (4, fs4))) ∧ kz_C G (d + 0) 0 0 mX4_write [.ref a0, .int 45] M (fun v M1 => v = none ∧ (zX4_writeNumber_21 G d Qr Qx a0 (if 0 < ((p1 : Int32).toInt64) then ((p1 : Int32).toInt64) else -((p1 : Int32).toInt64)) 1000000000 M1)) Qx)) : kz_C G (d + 1) 0 0 mX4_writeNumber [.ref a0, .int p1] M Qr Qx := by
  refine kz_enter (n := 1) kmX4_writeNumber.1 (Nat.le_of_ble_eq_true rfl) (ls := [(0, .ref a0), (1, .int p1)]) rfl ?_
  refine kz_iload_n (pc := 0) 1 (i := 1) rfl rfl dX4_writeNumber_0 ?_
  refine kz_i2l (pc := 1) dX4_writeNumber_1 ?_
  refine kz_mabsL (pc := 2) kw_496 kw_497 kw_15 kw_498 (by omega) (Nat.le_of_ble_eq_true rfl) (Nat.le_refl _) (Nat.le_refl _) dX4_writeNumber_2 ?_
  refine kz_lstore_n (pc := 5) (i := 2) (ls' := [(0, .ref a0), (1, .int p1)]) rfl (by decide) rfl dX4_writeNumber_5 ?_
  refine kz_iload_n (pc := 6) 2 (i := 1) rfl rfl dX4_writeNumber_6 ?_
  refine kz_if_ge (pc := 7) (tgt := 16) (by decide) dX4_writeNumber_7 (fun hb => ?_) (fun hb => ?_)
  · replace h := h.1 hb
    refine kz_ldc2 (pc := 16) kw_499 rfl dX4_writeNumber_16 ?_
    refine kz_lstore (pc := 19) (i := 4) (ls' := [(2, .long (if 0 < ((p1 : Int32).toInt64) then ((p1 : Int32).toInt64) else -((p1 : Int32).toInt64))), (0, .ref a0), (1, .int p1)]) (by decide) rfl dX4_writeNumber_19 ?_
    refine kz_sub [2, 1, 0] rfl ?_
    exact h
  · replace h := h.2 hb
    refine kz_aload_n (pc := 10) 1 (v := .ref a0) (i := 0) rfl rfl rfl dX4_writeNumber_10 ?_
    refine kz_bipush (pc := 11) (v := 45) (by decide) dX4_writeNumber_11 ?_
    obtain ⟨⟨fs4, he⟩, h⟩ := h
    refine kz_callV (pc := 13) (μ' := mX4_write) (ci := 4) (q := (RX4, TX4, 2)) (b := a0) (d' := d + 0) (mc' := 0) (ms' := 0) (As := [.int 45]) (st := []) (c := 0) (sl := 0) kmX4_write kw_481 (by omega) rfl (Nat.le_of_ble_eq_true rfl) he rfl rfl (Nat.le_refl _) (Nat.le_refl _) dX4_writeNumber_13 (fun E M9 hx => kz_Tout rfl (Nat.le_refl _) (Nat.le_refl _) hx) (kz_Cmono (fun v M1 h => ?_) (fun _ _ h => h) h)
    obtain ⟨rfl, h⟩ := h
    show kz_Z G (d + 1) 0 0 mX4_writeNumber Qr Qx 16 [(2, .long (if 0 < ((p1 : Int32).toInt64) then ((p1 : Int32).toInt64) else -((p1 : Int32).toInt64))), (0, .ref a0), (1, .int p1)] [] M1 0 0
    refine kz_ldc2 (pc := 16) kw_499 rfl dX4_writeNumber_16 ?_
    refine kz_lstore (pc := 19) (i := 4) (ls' := [(2, .long (if 0 < ((p1 : Int32).toInt64) then ((p1 : Int32).toInt64) else -((p1 : Int32).toInt64))), (0, .ref a0), (1, .int p1)]) (by decide) rfl dX4_writeNumber_19 ?_
    refine kz_sub [2, 1, 0] rfl ?_
    exact h
theorem rX4_writeNumber_21 {G : kz_G} {d : Nat} {Qr : Option Value → kz_M → Prop} {Qx : String → kz_M → Prop} {x0 : Nat} {x2 : Int64} {x4 : Int64}  {M : kz_M} (h : (x4 ≤ 0 → Qr none M) ∧ (¬ x4 ≤ 0 → (x4 ≤ x2 → ¬ x4 = 0 ∧ ((∃ fs4, (M).1 x0 = some (.inl (4, fs4))) ∧ kz_C G (d + 0) 0 0 mX4_write [.ref x0, .int (48 + (((x2 / x4) - (x2 / x4) / 10 * 10 : Int64).toInt32))] M (fun v M1 => v = none ∧ (zX4_writeNumber_21 G d Qr Qx x0 x2 (x4 / 10) M1)) Qx)) ∧ (¬ x4 ≤ x2 → (¬ x4 = 1 → zX4_writeNumber_21 G d Qr Qx x0 x2 (x4 / 10) M) ∧ (x4 = 1 → ¬ x4 = 0 ∧ ((∃ fs8, (M).1 x0 = some (.inl (4, fs8))) ∧ kz_C G (d + 0) 0 0 mX4_write [.ref x0, .int (48 + (((x2 / x4) - (x2 / x4) / 10 * 10 : Int64).toInt32))] M (fun v M5 => v = none ∧ (zX4_writeNumber_21 G d Qr Qx x0 x2 (x4 / 10) M5)) Qx))))) : zX4_writeNumber_21 G d Qr Qx x0 x2 x4  M := by
  show kz_Z G (d + 1) 0 0 mX4_writeNumber Qr Qx 21 [(0, .ref x0), (2, .long x2), (4, .long x4)] [] M 0 0
  refine kz_lload (pc := 21) 2 (i := 4) rfl dX4_writeNumber_21 ?_
  refine kz_lconst (pc := 23) (v := 0) (by decide) dX4_writeNumber_23 ?_
  refine kz_lcmp_le (pc := 24) (tgt := 69) (by decide) dX4_writeNumber_24 dX4_writeNumber_25 (fun hb => ?_) (fun hb => ?_)
  · replace h := h.1 hb
    exact kz_vret (pc := 69) rfl (Nat.le_refl _) (Nat.le_refl _) dX4_writeNumber_69 h
  · replace h := h.2 hb
    refine kz_lload_n (pc := 28) 1 (i := 2) rfl rfl dX4_writeNumber_28 ?_
    refine kz_lload (pc := 29) 2 (i := 4) rfl dX4_writeNumber_29 ?_
    refine kz_lcmp_ge (pc := 31) (tgt := 42) (by decide) dX4_writeNumber_31 dX4_writeNumber_32 (fun hb => ?_) (fun hb => ?_)
    · replace h := h.1 hb
      refine kz_aload_n (pc := 42) 0 (v := .ref x0) (i := 0) rfl rfl rfl dX4_writeNumber_42 ?_
      refine kz_bipush (pc := 43) (v := 48) (by decide) dX4_writeNumber_43 ?_
      refine kz_lload_n (pc := 45) 1 (i := 2) rfl rfl dX4_writeNumber_45 ?_
      refine kz_lload (pc := 46) 2 (i := 4) rfl dX4_writeNumber_46 ?_
      obtain ⟨hz, h⟩ := h
      refine kz_ldiv (pc := 48) hz dX4_writeNumber_48 ?_
      refine kz_ldc2 (pc := 49) kw_500 rfl dX4_writeNumber_49 ?_
      refine kz_lrem (pc := 52) (by decide) dX4_writeNumber_52 ?_
      refine kz_l2i (pc := 53) dX4_writeNumber_53 ?_
      refine kz_iadd (pc := 54) dX4_writeNumber_54 ?_
      obtain ⟨⟨fs4, he⟩, h⟩ := h
      refine kz_callV (pc := 55) (μ' := mX4_write) (ci := 4) (q := (RX4, TX4, 2)) (b := x0) (d' := d + 0) (mc' := 0) (ms' := 0) (As := [.int (48 + (((x2 / x4) - (x2 / x4) / 10 * 10 : Int64).toInt32))]) (st := []) (c := 0) (sl := 0) kmX4_write kw_481 (by omega) rfl (Nat.le_of_ble_eq_true rfl) he rfl rfl (Nat.le_refl _) (Nat.le_refl _) dX4_writeNumber_55 (fun E M9 hx => kz_Tout rfl (Nat.le_refl _) (Nat.le_refl _) hx) (kz_Cmono (fun v M1 h => ?_) (fun _ _ h => h) h)
      obtain ⟨rfl, h⟩ := h
      show kz_Z G (d + 1) 0 0 mX4_writeNumber Qr Qx 58 [(0, .ref x0), (2, .long x2), (4, .long x4)] [] M1 0 0
      refine kz_lload (pc := 58) 2 (i := 4) rfl dX4_writeNumber_58 ?_
      refine kz_ldc2 (pc := 60) kw_500 rfl dX4_writeNumber_60 ?_
      refine kz_ldiv (pc := 63) (by decide) dX4_writeNumber_63 ?_
      refine kz_lstore (pc := 64) (i := 4) (ls' := [(0, .ref x0), (2, .long x2)]) (by decide) rfl dX4_writeNumber_64 ?_
      refine kz_goto (pc := 66) (tgt := 21) (by decide) dX4_writeNumber_66 ?_
      refine kz_sub [1, 2, 0] rfl ?_
      exact h
    · replace h := h.2 hb
      refine kz_lload (pc := 35) 2 (i := 4) rfl dX4_writeNumber_35 ?_
      refine kz_lconst (pc := 37) (v := 1) (by decide) dX4_writeNumber_37 ?_
      refine kz_lcmp_ne (pc := 38) (tgt := 58) (by decide) dX4_writeNumber_38 dX4_writeNumber_39 (fun hb => ?_) (fun hb => ?_)
      · replace h := h.1 hb
        refine kz_lload (pc := 58) 2 (i := 4) rfl dX4_writeNumber_58 ?_
        refine kz_ldc2 (pc := 60) kw_500 rfl dX4_writeNumber_60 ?_
        refine kz_ldiv (pc := 63) (by decide) dX4_writeNumber_63 ?_
        refine kz_lstore (pc := 64) (i := 4) (ls' := [(0, .ref x0), (2, .long x2)]) (by decide) rfl dX4_writeNumber_64 ?_
        refine kz_goto (pc := 66) (tgt := 21) (by decide) dX4_writeNumber_66 ?_
        refine kz_sub [1, 2, 0] rfl ?_
        exact h
      · replace h := h.2 hb
        refine kz_aload_n (pc := 42) 0 (v := .ref x0) (i := 0) rfl rfl rfl dX4_writeNumber_42 ?_
        refine kz_bipush (pc := 43) (v := 48) (by decide) dX4_writeNumber_43 ?_
        refine kz_lload_n (pc := 45) 1 (i := 2) rfl rfl dX4_writeNumber_45 ?_
        refine kz_lload (pc := 46) 2 (i := 4) rfl dX4_writeNumber_46 ?_
        obtain ⟨hz, h⟩ := h
        refine kz_ldiv (pc := 48) hz dX4_writeNumber_48 ?_
        refine kz_ldc2 (pc := 49) kw_500 rfl dX4_writeNumber_49 ?_
        refine kz_lrem (pc := 52) (by decide) dX4_writeNumber_52 ?_
        refine kz_l2i (pc := 53) dX4_writeNumber_53 ?_
        refine kz_iadd (pc := 54) dX4_writeNumber_54 ?_
        obtain ⟨⟨fs8, he⟩, h⟩ := h
        refine kz_callV (pc := 55) (μ' := mX4_write) (ci := 4) (q := (RX4, TX4, 2)) (b := x0) (d' := d + 0) (mc' := 0) (ms' := 0) (As := [.int (48 + (((x2 / x4) - (x2 / x4) / 10 * 10 : Int64).toInt32))]) (st := []) (c := 0) (sl := 0) kmX4_write kw_481 (by omega) rfl (Nat.le_of_ble_eq_true rfl) he rfl rfl (Nat.le_refl _) (Nat.le_refl _) dX4_writeNumber_55 (fun E M9 hx => kz_Tout rfl (Nat.le_refl _) (Nat.le_refl _) hx) (kz_Cmono (fun v M5 h => ?_) (fun _ _ h => h) h)
        obtain ⟨rfl, h⟩ := h
        show kz_Z G (d + 1) 0 0 mX4_writeNumber Qr Qx 58 [(0, .ref x0), (2, .long x2), (4, .long x4)] [] M5 0 0
        refine kz_lload (pc := 58) 2 (i := 4) rfl dX4_writeNumber_58 ?_
        refine kz_ldc2 (pc := 60) kw_500 rfl dX4_writeNumber_60 ?_
        refine kz_ldiv (pc := 63) (by decide) dX4_writeNumber_63 ?_
        refine kz_lstore (pc := 64) (i := 4) (ls' := [(0, .ref x0), (2, .long x2)]) (by decide) rfl dX4_writeNumber_64 ?_
        refine kz_goto (pc := 66) (tgt := 21) (by decide) dX4_writeNumber_66 ?_
        refine kz_sub [1, 2, 0] rfl ?_
        exact h
