/-! The rules of 14.rledger: printed by program (wip/whole/rules.py) -/
theorem dX0_init_0 : decode cX0_init 0 = .ok (.aload_n 0, 1) := by decide +kernel
theorem dX0_init_1 : decode cX0_init 1 = .ok (.invokespecial 3, 3) := by decide +kernel
theorem dX0_init_4 : decode cX0_init 4 = .ok (.aload_n 0, 1) := by decide +kernel
theorem dX0_init_5 : decode cX0_init 5 = .ok (.bipush 8, 2) := by decide +kernel
theorem dX0_init_7 : decode cX0_init 7 = .ok (.anewarray 9, 3) := by decide +kernel
theorem dX0_init_10 : decode cX0_init 10 = .ok (.putfield 11, 3) := by decide +kernel
theorem dX0_init_13 : decode cX0_init 13 = .ok (.iconst 0, 1) := by decide +kernel
theorem dX0_init_14 : decode cX0_init 14 = .ok (.istore_n 1, 1) := by decide +kernel
theorem dX0_init_15 : decode cX0_init 15 = .ok (.iload_n 1, 1) := by decide +kernel
theorem dX0_init_16 : decode cX0_init 16 = .ok (.aload_n 0, 1) := by decide +kernel
theorem dX0_init_17 : decode cX0_init 17 = .ok (.getfield 11, 3) := by decide +kernel
theorem dX0_init_20 : decode cX0_init 20 = .ok (.arraylength, 1) := by decide +kernel
theorem dX0_init_21 : decode cX0_init 21 = .ok (.if_icmp .ge 22, 3) := by decide +kernel
theorem dX0_init_24 : decode cX0_init 24 = .ok (.aload_n 0, 1) := by decide +kernel
theorem dX0_init_25 : decode cX0_init 25 = .ok (.getfield 11, 3) := by decide +kernel
theorem dX0_init_28 : decode cX0_init 28 = .ok (.iload_n 1, 1) := by decide +kernel
theorem dX0_init_29 : decode cX0_init 29 = .ok (.new 9, 3) := by decide +kernel
theorem dX0_init_32 : decode cX0_init 32 = .ok (.dup, 1) := by decide +kernel
theorem dX0_init_33 : decode cX0_init 33 = .ok (.invokespecial 17, 3) := by decide +kernel
theorem dX0_init_36 : decode cX0_init 36 = .ok (.aastore, 1) := by decide +kernel
theorem dX0_init_37 : decode cX0_init 37 = .ok (.iinc 1 1, 3) := by decide +kernel
theorem dX0_init_40 : decode cX0_init 40 = .ok (.goto (-25), 3) := by decide +kernel
theorem dX0_init_43 : decode cX0_init 43 = .ok (.return_, 1) := by decide +kernel
def zX0_init_15 (G : kz_G) (d mc ms : Nat) (Qr : Option Value → kz_M → Prop) (Qx : String → kz_M → Prop) (x0 : Nat) (x1 : Int32)  (M : kz_M) (c sl : Nat) : Prop := kz_Z G (d + 3) mc ms mX0_init Qr Qx 15 [(0, .ref x0), (1, .int x1)] [] M c sl
theorem rX0_init_0 {G : kz_G} {d : Nat} {mc ms : Nat} {Qr : Option Value → kz_M → Prop} {Qx : String → kz_M → Prop} {a0 : Nat}  {M : kz_M} (h : ∃ N1, ¬ (8 : Int32) < 0 ∧ (8 : Int32).toNatClampNeg = N1 ∧ N1 ≤ 60000000 ∧ 0 + 1 ≤ mc ∧ 0 + N1 ≤ ms ∧ (∃ fs3, ((kz_nw M (.inr (.object "LineOffice$State", N1, .inr (.inr (.inr (.inr (fun _ => none)))))))).1 a0 = some (.inl (0, fs3)) ∧ 0 < fs3.length ∧ (zX0_init_15 G d mc ms Qr Qx a0 0 (kz_up (kz_nw M (.inr (.object "LineOffice$State", N1, .inr (.inr (.inr (.inr (fun _ => none))))))) a0 (.inl (0, fs3.set 0 (.ref ((M).2))))) (0 + 1) (0 + N1)))) : kz_C G (d + 3) mc ms mX0_init [.ref a0] M Qr Qx := by
  refine kz_enter (n := 0) kmX0_init.1 (Nat.le_of_ble_eq_true rfl) (ls := [(0, .ref a0)]) rfl ?_
  refine kz_aload_n (pc := 0) 0 (v := .ref a0) (i := 0) rfl rfl rfl dX0_init_0 ?_
  refine kz_objInit (pc := 1) kw_152 kw_43 kw_44 (by omega) (Nat.le_of_ble_eq_true rfl) dX0_init_1 ?_
  refine kz_aload_n (pc := 4) 0 (v := .ref a0) (i := 0) rfl rfl rfl dX0_init_4 ?_
  refine kz_bipush (pc := 5) (v := 8) (by decide) dX0_init_5 ?_
  obtain ⟨N1, hn, hN, hb8, hc2, hs2, h⟩ := h
  refine kz_anew (pc := 7) (C := "LineOffice$State") N1 kw_153 kw_154 hn hN hb8 hc2 hs2 dX0_init_7 ?_
  obtain ⟨fs3, hM, hlen, h⟩ := h
  refine kz_putF (pc := 10) (k := 0) kcX0 hM (by decide) hlen rfl rfl kw_156 rfl rfl rfl dX0_init_10 ?_
  refine kz_iconst (pc := 13) (v := 0) (by decide) dX0_init_13 ?_
  refine kz_istore_n (pc := 14) (i := 1) (ls' := [(0, .ref a0)]) rfl (by decide) rfl dX0_init_14 ?_
  refine kz_sub [1, 0] rfl ?_
  exact h
theorem rX0_init_15 {G : kz_G} {d : Nat} {mc ms : Nat} {Qr : Option Value → kz_M → Prop} {Qx : String → kz_M → Prop} {x0 : Nat} {x1 : Int32}  {M : kz_M} {c sl : Nat} (hc : c ≤ mc) (hs : sl ≤ ms) (h : ∃ fs1 v2, (M).1 x0 = some (.inl (0, fs1)) ∧ fs1[0]? = some (.ref v2) ∧ (∃ ty3 A4, (M).1 v2 = some (.inr (ty3, A4)) ∧ (((Int32.ofNat A4.1) ≤ x1 → Qr none M) ∧ (¬ (Int32.ofNat A4.1) ≤ x1 → ∃ fs5 v6, (M).1 x0 = some (.inl (0, fs5)) ∧ fs5[0]? = some (.ref v6) ∧ (c + 1 ≤ mc ∧ sl + 10 ≤ ms ∧ (∃ mc10 ms10, c + 1 + mc10 ≤ mc ∧ sl + 10 + ms10 ≤ ms ∧ kz_C G (d + 2) mc10 ms10 mX9_init [.ref ((M).2)] (kz_nw M (.inl (8, [.int 0, .int 0, .int 0, .int 0, .null, .null, .null, .null, .null, .null]))) (fun v M8 => v = none ∧ (∃ n11 f12 vs13, (M8).1 v6 = some (.inr (.object "LineOffice$State", n11, .inr (.inr (.inr (.inr f12))))) ∧ (M8).1 ((M).2) = some (.inl (8, vs13)) ∧ vp_in x1 n11 ∧ (zX0_init_15 G d mc ms Qr Qx x0 (x1 + 1) (kz_up M8 v6 (.inr (.object "LineOffice$State", n11, .inr (.inr (.inr (.inr (va_up f12 (x1 : Int32).toNatClampNeg (some ((M).2))))))))) (c + 1 + mc10) (sl + 10 + ms10)))) Qx)))))) : zX0_init_15 G d mc ms Qr Qx x0 x1  M c sl := by
  show kz_Z G (d + 3) mc ms mX0_init Qr Qx 15 [(0, .ref x0), (1, .int x1)] [] M c sl
  refine kz_iload_n (pc := 15) 1 (i := 1) rfl rfl dX0_init_15 ?_
  refine kz_aload_n (pc := 16) 0 (v := .ref x0) (i := 0) rfl rfl rfl dX0_init_16 ?_
  obtain ⟨fs1, v2, hM, hv, h⟩ := h
  refine kz_getf (pc := 17) (k := 0) kcX0 hM hv (by decide) kw_156 dX0_init_17 ?_
  obtain ⟨ty3, A4, hM, h⟩ := h
  refine kz_alen (pc := 20) hM rfl dX0_init_20 ?_
  refine kz_icmp_ge (pc := 21) (tgt := 43) (by decide) dX0_init_21 (fun hb => ?_) (fun hb => ?_)
  · replace h := h.1 hb
    exact kz_vret (pc := 43) rfl hc hs dX0_init_43 h
  · replace h := h.2 hb
    refine kz_aload_n (pc := 24) 0 (v := .ref x0) (i := 0) rfl rfl rfl dX0_init_24 ?_
    obtain ⟨fs5, v6, hM, hv, h⟩ := h
    refine kz_getf (pc := 25) (k := 0) kcX0 hM hv (by decide) kw_156 dX0_init_25 ?_
    refine kz_iload_n (pc := 28) 1 (i := 1) rfl rfl dX0_init_28 ?_
    obtain ⟨hc7, hs7, h⟩ := h
    refine kz_newc (pc := 29) kcX9 rfl kw_153 kw_74 kw_19 hc7 hs7 dX0_init_29 ?_
    refine kz_dup (pc := 32) rfl dX0_init_32 ?_
    obtain ⟨mc10, ms10, hc10, hs10, h⟩ := h
    refine kz_callI (pc := 33) (μ' := mX9_init) (b := (M).2) (d' := d + 2) (mc' := mc10) (ms' := ms10) (As := []) (st := [.ref ((M).2), .int x1, .ref v6]) (c := c + 1) (sl := sl + 10) kmX9_init kw_155 (by omega) rfl (Nat.le_of_ble_eq_true rfl) hc10 hs10 dX0_init_33 (fun E M9 hx => kz_Tout rfl hc10 hs10 hx) (kz_Cmono (fun v M8 h => ?_) (fun _ _ h => h) h)
    obtain ⟨rfl, h⟩ := h
    show kz_Z G (d + 3) mc ms mX0_init Qr Qx 36 [(0, .ref x0), (1, .int x1)] [.ref ((M).2), .int x1, .ref v6] M8 (c + 1 + mc10) (sl + 10 + ms10)
    obtain ⟨n11, f12, vs13, hM, hx, hi, h⟩ := h
    refine kz_aast (pc := 36) (ci := 8) (r := (RX9, TX9, 10)) rfl hM hx hi dX0_init_36 ?_
    refine kz_iinc (pc := 37) 1 (i := 1) (v := x1 + 1) (ls' := [(0, .ref x0)]) rfl (congrArg (fun z => x1 + z) (by decide)) (by decide) rfl dX0_init_37 ?_
    refine kz_goto (pc := 40) (tgt := 15) (by decide) dX0_init_40 ?_
    refine kz_sub [1, 0] rfl ?_
    exact h
theorem dX0_forget_0 : decode cX0_forget 0 = .ok (.aload_n 0, 1) := by decide +kernel
theorem dX0_forget_1 : decode cX0_forget 1 = .ok (.iconst 0, 1) := by decide +kernel
theorem dX0_forget_2 : decode cX0_forget 2 = .ok (.putfield 18, 3) := by decide +kernel
theorem dX0_forget_5 : decode cX0_forget 5 = .ok (.return_, 1) := by decide +kernel
theorem rX0_forget_0 {G : kz_G} {d : Nat} {Qr : Option Value → kz_M → Prop} {Qx : String → kz_M → Prop} {a0 : Nat}  {M : kz_M} (h : ∃ fs1, (M).1 a0 = some (.inl (0, fs1)) ∧ 2 < fs1.length ∧ (Qr none (kz_up M a0 (.inl (0, fs1.set 2 (.int 0)))))) : kz_C G d 0 0 mX0_forget [.ref a0] M Qr Qx := by
  refine kz_enter (n := 0) kmX0_forget.1 (Nat.le_of_ble_eq_true rfl) (ls := [(0, .ref a0)]) rfl ?_
  refine kz_aload_n (pc := 0) 0 (v := .ref a0) (i := 0) rfl rfl rfl dX0_forget_0 ?_
  refine kz_iconst (pc := 1) (v := 0) (by decide) dX0_forget_1 ?_
  obtain ⟨fs1, hM, hlen, h⟩ := h
  refine kz_putf (pc := 2) (k := 2) kcX0 hM (by decide) hlen kw_158 rfl rfl rfl dX0_forget_2 ?_
  exact kz_vret (pc := 5) rfl (Nat.le_refl _) (Nat.le_refl _) dX0_forget_5 h
theorem dX0_keep_0 : decode cX0_keep 0 = .ok (.aload_n 0, 1) := by decide +kernel
theorem dX0_keep_1 : decode cX0_keep 1 = .ok (.getfield 18, 3) := by decide +kernel
theorem dX0_keep_4 : decode cX0_keep 4 = .ok (.bipush 8, 2) := by decide +kernel
theorem dX0_keep_6 : decode cX0_keep 6 = .ok (.if_icmp .lt 22, 3) := by decide +kernel
theorem dX0_keep_9 : decode cX0_keep 9 = .ok (.aload_n 0, 1) := by decide +kernel
theorem dX0_keep_10 : decode cX0_keep 10 = .ok (.aload_n 0, 1) := by decide +kernel
theorem dX0_keep_11 : decode cX0_keep 11 = .ok (.getfield 22, 3) := by decide +kernel
theorem dX0_keep_14 : decode cX0_keep 14 = .ok (.iconst 1, 1) := by decide +kernel
theorem dX0_keep_15 : decode cX0_keep 15 = .ok (.iadd, 1) := by decide +kernel
theorem dX0_keep_16 : decode cX0_keep 16 = .ok (.bipush 8, 2) := by decide +kernel
theorem dX0_keep_18 : decode cX0_keep 18 = .ok (.irem, 1) := by decide +kernel
theorem dX0_keep_19 : decode cX0_keep 19 = .ok (.putfield 22, 3) := by decide +kernel
theorem dX0_keep_22 : decode cX0_keep 22 = .ok (.aload_n 0, 1) := by decide +kernel
theorem dX0_keep_23 : decode cX0_keep 23 = .ok (.bipush 7, 2) := by decide +kernel
theorem dX0_keep_25 : decode cX0_keep 25 = .ok (.putfield 18, 3) := by decide +kernel
theorem dX0_keep_28 : decode cX0_keep 28 = .ok (.aload_n 0, 1) := by decide +kernel
theorem dX0_keep_29 : decode cX0_keep 29 = .ok (.aload_n 0, 1) := by decide +kernel
theorem dX0_keep_30 : decode cX0_keep 30 = .ok (.getfield 18, 3) := by decide +kernel
theorem dX0_keep_33 : decode cX0_keep 33 = .ok (.invokevirtual 25, 3) := by decide +kernel
theorem dX0_keep_36 : decode cX0_keep 36 = .ok (.astore_n 2, 1) := by decide +kernel
theorem dX0_keep_37 : decode cX0_keep 37 = .ok (.aload_n 2, 1) := by decide +kernel
theorem dX0_keep_38 : decode cX0_keep 38 = .ok (.ifnull 18, 3) := by decide +kernel
theorem dX0_keep_41 : decode cX0_keep 41 = .ok (.aload_n 2, 1) := by decide +kernel
theorem dX0_keep_42 : decode cX0_keep 42 = .ok (.aload_n 1, 1) := by decide +kernel
theorem dX0_keep_43 : decode cX0_keep 43 = .ok (.invokevirtual 29, 3) := by decide +kernel
theorem dX0_keep_46 : decode cX0_keep 46 = .ok (.aload_n 0, 1) := by decide +kernel
theorem dX0_keep_47 : decode cX0_keep 47 = .ok (.dup, 1) := by decide +kernel
theorem dX0_keep_48 : decode cX0_keep 48 = .ok (.getfield 18, 3) := by decide +kernel
theorem dX0_keep_51 : decode cX0_keep 51 = .ok (.iconst 1, 1) := by decide +kernel
theorem dX0_keep_52 : decode cX0_keep 52 = .ok (.iadd, 1) := by decide +kernel
theorem dX0_keep_53 : decode cX0_keep 53 = .ok (.putfield 18, 3) := by decide +kernel
theorem dX0_keep_56 : decode cX0_keep 56 = .ok (.return_, 1) := by decide +kernel
theorem rX0_keep_0 {G : kz_G} {d : Nat} {Qr : Option Value → kz_M → Prop} {Qx : String → kz_M → Prop} {a0 : Nat} {p1 : Nat}  {M : kz_M} (h : ∃ fs1 v2, (M).1 a0 = some (.inl (0, fs1)) ∧ fs1[2]? = some (.int v2) ∧ ((v2 < (8 : Int32) → ∃ fs3 v4, (M).1 a0 = some (.inl (0, fs3)) ∧ fs3[2]? = some (.int v4) ∧ ((∃ fs16, (M).1 a0 = some (.inl (0, fs16))) ∧ kz_C G (d + 2) 0 0 mX0_slotAt [.ref a0, .int v4] M (fun v M5 => ∃ r6 : Option Nat, v = some (kz_rf r6) ∧ ((r6 = none → Qr none M5) ∧ (∀ y8, r6 = some y8 → (∃ fs15, (M5).1 y8 = some (.inl (8, fs15))) ∧ kz_C G (d + 2) 0 0 mX9_takeOver [.ref y8, .ref p1] M5 (fun v M9 => v = none ∧ (∃ fs12 v13, (M9).1 a0 = some (.inl (0, fs12)) ∧ fs12[2]? = some (.int v13) ∧ (∃ fs14, (M9).1 a0 = some (.inl (0, fs14)) ∧ 2 < fs14.length ∧ (Qr none (kz_up M9 a0 (.inl (0, fs14.set 2 (.int (v13 + 1))))))))) Qx))) Qx)) ∧ (¬ v2 < (8 : Int32) → ∃ fs17 v18, (M).1 a0 = some (.inl (0, fs17)) ∧ fs17[1]? = some (.int v18) ∧ (∃ fs19, (M).1 a0 = some (.inl (0, fs19)) ∧ 1 < fs19.length ∧ (∃ fs20, ((kz_up M a0 (.inl (0, fs19.set 1 (.int ((v18 + 1) - (v18 + 1) / 8 * 8)))))).1 a0 = some (.inl (0, fs20)) ∧ 2 < fs20.length ∧ (∃ fs21 v22, ((kz_up (kz_up M a0 (.inl (0, fs19.set 1 (.int ((v18 + 1) - (v18 + 1) / 8 * 8))))) a0 (.inl (0, fs20.set 2 (.int 7))))).1 a0 = some (.inl (0, fs21)) ∧ fs21[2]? = some (.int v22) ∧ ((∃ fs34, ((kz_up (kz_up M a0 (.inl (0, fs19.set 1 (.int ((v18 + 1) - (v18 + 1) / 8 * 8))))) a0 (.inl (0, fs20.set 2 (.int 7))))).1 a0 = some (.inl (0, fs34))) ∧ kz_C G (d + 2) 0 0 mX0_slotAt [.ref a0, .int v22] (kz_up (kz_up M a0 (.inl (0, fs19.set 1 (.int ((v18 + 1) - (v18 + 1) / 8 * 8))))) a0 (.inl (0, fs20.set 2 (.int 7)))) (fun v M23 => ∃ r24 : Option Nat, v = some (kz_rf r24) ∧ ((r24 = none → Qr none M23) ∧ (∀ y26, r24 = some y26 → (∃ fs33, (M23).1 y26 = some (.inl (8, fs33))) ∧ kz_C G (d + 2) 0 0 mX9_takeOver [.ref y26, .ref p1] M23 (fun v M27 => v = none ∧ (∃ fs30 v31, (M27).1 a0 = some (.inl (0, fs30)) ∧ fs30[2]? = some (.int v31) ∧ (∃ fs32, (M27).1 a0 = some (.inl (0, fs32)) ∧ 2 < fs32.length ∧ (Qr none (kz_up M27 a0 (.inl (0, fs32.set 2 (.int (v31 + 1))))))))) Qx))) Qx))))))) : kz_C G (d + 3) 0 0 mX0_keep [.ref a0, .ref p1] M Qr Qx := by
  refine kz_enter (n := 1) kmX0_keep.1 (Nat.le_of_ble_eq_true rfl) (ls := [(0, .ref a0), (1, .ref p1)]) rfl ?_
  refine kz_aload_n (pc := 0) 0 (v := .ref a0) (i := 0) rfl rfl rfl dX0_keep_0 ?_
  obtain ⟨fs1, v2, hM, hv, h⟩ := h
  refine kz_getf (pc := 1) (k := 2) kcX0 hM hv (by decide) kw_158 dX0_keep_1 ?_
  refine kz_bipush (pc := 4) (v := 8) (by decide) dX0_keep_4 ?_
  refine kz_icmp_lt (pc := 6) (tgt := 28) (by decide) dX0_keep_6 (fun hb => ?_) (fun hb => ?_)
  · replace h := h.1 hb
    refine kz_aload_n (pc := 28) 0 (v := .ref a0) (i := 0) rfl rfl rfl dX0_keep_28 ?_
    refine kz_aload_n (pc := 29) 0 (v := .ref a0) (i := 0) rfl rfl rfl dX0_keep_29 ?_
    obtain ⟨fs3, v4, hM, hv, h⟩ := h
    refine kz_getf (pc := 30) (k := 2) kcX0 hM hv (by decide) kw_158 dX0_keep_30 ?_
    obtain ⟨⟨fs16, he⟩, h⟩ := h
    refine kz_callV (pc := 33) (μ' := mX0_slotAt) (ci := 0) (q := (RX0, TX0, 3)) (b := a0) (d' := d + 2) (mc' := 0) (ms' := 0) (As := [.int v4]) (st := []) (c := 0) (sl := 0) kmX0_slotAt kw_1426 (by omega) rfl (Nat.le_of_ble_eq_true rfl) he rfl rfl (Nat.le_refl _) (Nat.le_refl _) dX0_keep_33 (fun E M9 hx => kz_Tout rfl (Nat.le_refl _) (Nat.le_refl _) hx) (kz_Cmono (fun v M5 h => ?_) (fun _ _ h => h) h)
    obtain ⟨r6, rfl, h⟩ := h
    show kz_Z G (d + 3) 0 0 mX0_keep Qr Qx 36 [(0, .ref a0), (1, .ref p1)] [kz_rf r6] M5 0 0
    refine kz_astore_n (pc := 36) (i := 2) (v := kz_rf r6) (ls' := [(0, .ref a0), (1, .ref p1)]) rfl (kz_isr_rf _) (by decide) rfl dX0_keep_36 ?_
    refine kz_aload_n (pc := 37) 0 (v := kz_rf r6) (i := 2) rfl rfl (kz_isr_rf _) dX0_keep_37 ?_
    rcases r6 with _ | y8
    · replace h := h.1 rfl
      refine kz_ifnull (pc := 38) (tgt := 56) rfl (by decide) dX0_keep_38 (fun _ => ?_) (fun hn => absurd rfl hn)
      exact kz_vret (pc := 56) rfl (Nat.le_refl _) (Nat.le_refl _) dX0_keep_56 h
    · replace h := h.2 y8 rfl
      refine kz_ifnull (pc := 38) (tgt := 56) rfl (by decide) dX0_keep_38 (fun hn => by cases hn) (fun _ => ?_)
      refine kz_aload_n (pc := 41) 0 (v := .ref y8) (i := 2) rfl rfl rfl dX0_keep_41 ?_
      refine kz_aload_n (pc := 42) 2 (v := .ref p1) (i := 1) rfl rfl rfl dX0_keep_42 ?_
      obtain ⟨⟨fs15, he⟩, h⟩ := h
      refine kz_callV (pc := 43) (μ' := mX9_takeOver) (ci := 8) (q := (RX9, TX9, 10)) (b := y8) (d' := d + 2) (mc' := 0) (ms' := 0) (As := [.ref p1]) (st := []) (c := 0) (sl := 0) kmX9_takeOver kw_1430 (by omega) rfl (Nat.le_of_ble_eq_true rfl) he rfl rfl (Nat.le_refl _) (Nat.le_refl _) dX0_keep_43 (fun E M9 hx => kz_Tout rfl (Nat.le_refl _) (Nat.le_refl _) hx) (kz_Cmono (fun v M9 h => ?_) (fun _ _ h => h) h)
      obtain ⟨rfl, h⟩ := h
      show kz_Z G (d + 3) 0 0 mX0_keep Qr Qx 46 [(2, .ref y8), (0, .ref a0), (1, .ref p1)] [] M9 0 0
      refine kz_aload_n (pc := 46) 1 (v := .ref a0) (i := 0) rfl rfl rfl dX0_keep_46 ?_
      refine kz_dup (pc := 47) rfl dX0_keep_47 ?_
      obtain ⟨fs12, v13, hM, hv, h⟩ := h
      refine kz_getf (pc := 48) (k := 2) kcX0 hM hv (by decide) kw_158 dX0_keep_48 ?_
      refine kz_iconst (pc := 51) (v := 1) (by decide) dX0_keep_51 ?_
      refine kz_iadd (pc := 52) dX0_keep_52 ?_
      obtain ⟨fs14, hM, hlen, h⟩ := h
      refine kz_putf (pc := 53) (k := 2) kcX0 hM (by decide) hlen kw_158 rfl rfl rfl dX0_keep_53 ?_
      exact kz_vret (pc := 56) rfl (Nat.le_refl _) (Nat.le_refl _) dX0_keep_56 h
  · replace h := h.2 hb
    refine kz_aload_n (pc := 9) 0 (v := .ref a0) (i := 0) rfl rfl rfl dX0_keep_9 ?_
    refine kz_aload_n (pc := 10) 0 (v := .ref a0) (i := 0) rfl rfl rfl dX0_keep_10 ?_
    obtain ⟨fs17, v18, hM, hv, h⟩ := h
    refine kz_getf (pc := 11) (k := 1) kcX0 hM hv (by decide) kw_157 dX0_keep_11 ?_
    refine kz_iconst (pc := 14) (v := 1) (by decide) dX0_keep_14 ?_
    refine kz_iadd (pc := 15) dX0_keep_15 ?_
    refine kz_bipush (pc := 16) (v := 8) (by decide) dX0_keep_16 ?_
    refine kz_irem (pc := 18) (by decide) dX0_keep_18 ?_
    obtain ⟨fs19, hM, hlen, h⟩ := h
    refine kz_putf (pc := 19) (k := 1) kcX0 hM (by decide) hlen kw_157 rfl rfl rfl dX0_keep_19 ?_
    refine kz_aload_n (pc := 22) 0 (v := .ref a0) (i := 0) rfl rfl rfl dX0_keep_22 ?_
    refine kz_bipush (pc := 23) (v := 7) (by decide) dX0_keep_23 ?_
    obtain ⟨fs20, hM, hlen, h⟩ := h
    refine kz_putf (pc := 25) (k := 2) kcX0 hM (by decide) hlen kw_158 rfl rfl rfl dX0_keep_25 ?_
    refine kz_aload_n (pc := 28) 0 (v := .ref a0) (i := 0) rfl rfl rfl dX0_keep_28 ?_
    refine kz_aload_n (pc := 29) 0 (v := .ref a0) (i := 0) rfl rfl rfl dX0_keep_29 ?_
    obtain ⟨fs21, v22, hM, hv, h⟩ := h
    refine kz_getf (pc := 30) (k := 2) kcX0 hM hv (by decide) kw_158 dX0_keep_30 ?_
    obtain ⟨⟨fs34, he⟩, h⟩ := h
    refine kz_callV (pc := 33) (μ' := mX0_slotAt) (ci := 0) (q := (RX0, TX0, 3)) (b := a0) (d' := d + 2) (mc' := 0) (ms' := 0) (As := [.int v22]) (st := []) (c := 0) (sl := 0) kmX0_slotAt kw_1426 (by omega) rfl (Nat.le_of_ble_eq_true rfl) he rfl rfl (Nat.le_refl _) (Nat.le_refl _) dX0_keep_33 (fun E M9 hx => kz_Tout rfl (Nat.le_refl _) (Nat.le_refl _) hx) (kz_Cmono (fun v M23 h => ?_) (fun _ _ h => h) h)
    obtain ⟨r24, rfl, h⟩ := h
    show kz_Z G (d + 3) 0 0 mX0_keep Qr Qx 36 [(0, .ref a0), (1, .ref p1)] [kz_rf r24] M23 0 0
    refine kz_astore_n (pc := 36) (i := 2) (v := kz_rf r24) (ls' := [(0, .ref a0), (1, .ref p1)]) rfl (kz_isr_rf _) (by decide) rfl dX0_keep_36 ?_
    refine kz_aload_n (pc := 37) 0 (v := kz_rf r24) (i := 2) rfl rfl (kz_isr_rf _) dX0_keep_37 ?_
    rcases r24 with _ | y26
    · replace h := h.1 rfl
      refine kz_ifnull (pc := 38) (tgt := 56) rfl (by decide) dX0_keep_38 (fun _ => ?_) (fun hn => absurd rfl hn)
      exact kz_vret (pc := 56) rfl (Nat.le_refl _) (Nat.le_refl _) dX0_keep_56 h
    · replace h := h.2 y26 rfl
      refine kz_ifnull (pc := 38) (tgt := 56) rfl (by decide) dX0_keep_38 (fun hn => by cases hn) (fun _ => ?_)
      refine kz_aload_n (pc := 41) 0 (v := .ref y26) (i := 2) rfl rfl rfl dX0_keep_41 ?_
      refine kz_aload_n (pc := 42) 2 (v := .ref p1) (i := 1) rfl rfl rfl dX0_keep_42 ?_
      obtain ⟨⟨fs33, he⟩, h⟩ := h
      refine kz_callV (pc := 43) (μ' := mX9_takeOver) (ci := 8) (q := (RX9, TX9, 10)) (b := y26) (d' := d + 2) (mc' := 0) (ms' := 0) (As := [.ref p1]) (st := []) (c := 0) (sl := 0) kmX9_takeOver kw_1430 (by omega) rfl (Nat.le_of_ble_eq_true rfl) he rfl rfl (Nat.le_refl _) (Nat.le_refl _) dX0_keep_43 (fun E M9 hx => kz_Tout rfl (Nat.le_refl _) (Nat.le_refl _) hx) (kz_Cmono (fun v M27 h => ?_) (fun _ _ h => h) h)
      obtain ⟨rfl, h⟩ := h
      show kz_Z G (d + 3) 0 0 mX0_keep Qr Qx 46 [(2, .ref y26), (0, .ref a0), (1, .ref p1)] [] M27 0 0
      refine kz_aload_n (pc := 46) 1 (v := .ref a0) (i := 0) rfl rfl rfl dX0_keep_46 ?_
      refine kz_dup (pc := 47) rfl dX0_keep_47 ?_
      obtain ⟨fs30, v31, hM, hv, h⟩ := h
      refine kz_getf (pc := 48) (k := 2) kcX0 hM hv (by decide) kw_158 dX0_keep_48 ?_
      refine kz_iconst (pc := 51) (v := 1) (by decide) dX0_keep_51 ?_
      refine kz_iadd (pc := 52) dX0_keep_52 ?_
      obtain ⟨fs32, hM, hlen, h⟩ := h
      refine kz_putf (pc := 53) (k := 2) kcX0 hM (by decide) hlen kw_158 rfl rfl rfl dX0_keep_53 ?_
      exact kz_vret (pc := 56) rfl (Nat.le_refl _) (Nat.le_refl _) dX0_keep_56 h
theorem dX0_slotAt_0 : decode cX0_slotAt 0 = .ok (.aload_n 0, 1) := by decide +kernel
theorem dX0_slotAt_1 : decode cX0_slotAt 1 = .ok (.getfield 22, 3) := by decide +kernel
theorem dX0_slotAt_4 : decode cX0_slotAt 4 = .ok (.iload_n 1, 1) := by decide +kernel
theorem dX0_slotAt_5 : decode cX0_slotAt 5 = .ok (.iadd, 1) := by decide +kernel
theorem dX0_slotAt_6 : decode cX0_slotAt 6 = .ok (.bipush 8, 2) := by decide +kernel
theorem dX0_slotAt_8 : decode cX0_slotAt 8 = .ok (.irem, 1) := by decide +kernel
theorem dX0_slotAt_9 : decode cX0_slotAt 9 = .ok (.istore_n 2, 1) := by decide +kernel
theorem dX0_slotAt_10 : decode cX0_slotAt 10 = .ok (.iload_n 2, 1) := by decide +kernel
theorem dX0_slotAt_11 : decode cX0_slotAt 11 = .ok (.ifCond .lt 21, 3) := by decide +kernel
theorem dX0_slotAt_14 : decode cX0_slotAt 14 = .ok (.iload_n 2, 1) := by decide +kernel
theorem dX0_slotAt_15 : decode cX0_slotAt 15 = .ok (.aload_n 0, 1) := by decide +kernel
theorem dX0_slotAt_16 : decode cX0_slotAt 16 = .ok (.getfield 11, 3) := by decide +kernel
theorem dX0_slotAt_19 : decode cX0_slotAt 19 = .ok (.arraylength, 1) := by decide +kernel
theorem dX0_slotAt_20 : decode cX0_slotAt 20 = .ok (.if_icmp .ge 12, 3) := by decide +kernel
theorem dX0_slotAt_23 : decode cX0_slotAt 23 = .ok (.aload_n 0, 1) := by decide +kernel
theorem dX0_slotAt_24 : decode cX0_slotAt 24 = .ok (.getfield 11, 3) := by decide +kernel
theorem dX0_slotAt_27 : decode cX0_slotAt 27 = .ok (.iload_n 2, 1) := by decide +kernel
theorem dX0_slotAt_28 : decode cX0_slotAt 28 = .ok (.aaload, 1) := by decide +kernel
theorem dX0_slotAt_29 : decode cX0_slotAt 29 = .ok (.goto 4, 3) := by decide +kernel
theorem dX0_slotAt_32 : decode cX0_slotAt 32 = .ok (.aconst_null, 1) := by decide +kernel
theorem dX0_slotAt_33 : decode cX0_slotAt 33 = .ok (.areturn, 1) := by decide +kernel
theorem rX0_slotAt_0 {G : kz_G} {d : Nat} {Qr : Option Value → kz_M → Prop} {Qx : String → kz_M → Prop} {a0 : Nat} {p1 : Int32}  {M : kz_M} (h : ∃ fs1 v2, (M).1 a0 = some (.inl (0, fs1)) ∧ fs1[1]? = some (.int v2) ∧ ((((v2 + p1) - (v2 + p1) / 8 * 8) < 0 → Qr (some (.null)) M) ∧ (¬ ((v2 + p1) - (v2 + p1) / 8 * 8) < 0 → ∃ fs3 v4, (M).1 a0 = some (.inl (0, fs3)) ∧ fs3[0]? = some (.ref v4) ∧ (∃ ty5 A6, (M).1 v4 = some (.inr (ty5, A6)) ∧ (((Int32.ofNat A6.1) ≤ ((v2 + p1) - (v2 + p1) / 8 * 8) → Qr (some (.null)) M) ∧ (¬ (Int32.ofNat A6.1) ≤ ((v2 + p1) - (v2 + p1) / 8 * 8) → ∃ fs7 v8, (M).1 a0 = some (.inl (0, fs7)) ∧ fs7[0]? = some (.ref v8) ∧ (∃ n9 f10, (M).1 v8 = some (.inr (.object "LineOffice$State", n9, .inr (.inr (.inr (.inr f10))))) ∧ vp_in ((v2 + p1) - (v2 + p1) / 8 * 8) n9 ∧ (∀ o11 : Option Nat, f10 ((v2 + p1) - (v2 + p1) / 8 * 8).toNatClampNeg = o11 → Qr (some (kz_rf o11)) M)))))))) : kz_C G d 0 0 mX0_slotAt [.ref a0, .int p1] M Qr Qx := by
  refine kz_enter (n := 1) kmX0_slotAt.1 (Nat.le_of_ble_eq_true rfl) (ls := [(0, .ref a0), (1, .int p1)]) rfl ?_
  refine kz_aload_n (pc := 0) 0 (v := .ref a0) (i := 0) rfl rfl rfl dX0_slotAt_0 ?_
  obtain ⟨fs1, v2, hM, hv, h⟩ := h
  refine kz_getf (pc := 1) (k := 1) kcX0 hM hv (by decide) kw_157 dX0_slotAt_1 ?_
  refine kz_iload_n (pc := 4) 1 (i := 1) rfl rfl dX0_slotAt_4 ?_
  refine kz_iadd (pc := 5) dX0_slotAt_5 ?_
  refine kz_bipush (pc := 6) (v := 8) (by decide) dX0_slotAt_6 ?_
  refine kz_irem (pc := 8) (by decide) dX0_slotAt_8 ?_
  refine kz_istore_n (pc := 9) (i := 2) (ls' := [(0, .ref a0), (1, .int p1)]) rfl (by decide) rfl dX0_slotAt_9 ?_
  refine kz_iload_n (pc := 10) 0 (i := 2) rfl rfl dX0_slotAt_10 ?_
  refine kz_if_lt (pc := 11) (tgt := 32) (by decide) dX0_slotAt_11 (fun hb => ?_) (fun hb => ?_)
  · replace h := h.1 hb
    refine kz_null (pc := 32) dX0_slotAt_32 ?_
    exact kz_aret (pc := 33) (v := .null) rfl rfl (Or.inl ⟨_, rfl⟩) (Nat.le_refl _) (Nat.le_refl _) dX0_slotAt_33 h
  · replace h := h.2 hb
    refine kz_iload_n (pc := 14) 0 (i := 2) rfl rfl dX0_slotAt_14 ?_
    refine kz_aload_n (pc := 15) 1 (v := .ref a0) (i := 0) rfl rfl rfl dX0_slotAt_15 ?_
    obtain ⟨fs3, v4, hM, hv, h⟩ := h
    refine kz_getf (pc := 16) (k := 0) kcX0 hM hv (by decide) kw_156 dX0_slotAt_16 ?_
    obtain ⟨ty5, A6, hM, h⟩ := h
    refine kz_alen (pc := 19) hM rfl dX0_slotAt_19 ?_
    refine kz_icmp_ge (pc := 20) (tgt := 32) (by decide) dX0_slotAt_20 (fun hb => ?_) (fun hb => ?_)
    · replace h := h.1 hb
      refine kz_null (pc := 32) dX0_slotAt_32 ?_
      exact kz_aret (pc := 33) (v := .null) rfl rfl (Or.inl ⟨_, rfl⟩) (Nat.le_refl _) (Nat.le_refl _) dX0_slotAt_33 h
    · replace h := h.2 hb
      refine kz_aload_n (pc := 23) 1 (v := .ref a0) (i := 0) rfl rfl rfl dX0_slotAt_23 ?_
      obtain ⟨fs7, v8, hM, hv, h⟩ := h
      refine kz_getf (pc := 24) (k := 0) kcX0 hM hv (by decide) kw_156 dX0_slotAt_24 ?_
      refine kz_iload_n (pc := 27) 0 (i := 2) rfl rfl dX0_slotAt_27 ?_
      obtain ⟨n9, f10, hM, hi, h⟩ := h
      refine kz_aald (pc := 28) hM hi dX0_slotAt_28 ?_
      generalize ho : f10 ((v2 + p1) - (v2 + p1) / 8 * 8).toNatClampNeg = o11 at h ⊢
      replace h := h _ rfl
      refine kz_goto (pc := 29) (tgt := 33) (by decide) dX0_slotAt_29 ?_
      exact kz_aret (pc := 33) (v := kz_rf o11) (kz_isr_rf _) rfl (Or.inl ⟨_, rfl⟩) (Nat.le_refl _) (Nat.le_refl _) dX0_slotAt_33 h
theorem dX2_init_0 : decode cX2_init 0 = .ok (.aload_n 0, 1) := by decide +kernel
theorem dX2_init_1 : decode cX2_init 1 = .ok (.invokespecial 3, 3) := by decide +kernel
theorem dX2_init_4 : decode cX2_init 4 = .ok (.aload_n 0, 1) := by decide +kernel
theorem dX2_init_5 : decode cX2_init 5 = .ok (.bipush 120, 2) := by decide +kernel
theorem dX2_init_7 : decode cX2_init 7 = .ok (.newarray .int, 2) := by decide +kernel
theorem dX2_init_9 : decode cX2_init 9 = .ok (.putfield 11, 3) := by decide +kernel
theorem dX2_init_12 : decode cX2_init 12 = .ok (.return_, 1) := by decide +kernel
theorem rX2_init_0 {G : kz_G} {d : Nat} {mc ms : Nat} {Qr : Option Value → kz_M → Prop} {Qx : String → kz_M → Prop} {a0 : Nat}  {M : kz_M} (h : ∃ N1, ¬ (120 : Int32) < 0 ∧ (120 : Int32).toNatClampNeg = N1 ∧ N1 ≤ 60000000 ∧ 0 + 1 ≤ mc ∧ 0 + N1 ≤ ms ∧ (∃ fs3, ((kz_nw M (.inr (.int, N1, .inl (fun _ => 0))))).1 a0 = some (.inl (2, fs3)) ∧ 0 < fs3.length ∧ (Qr none (kz_up (kz_nw M (.inr (.int, N1, .inl (fun _ => 0)))) a0 (.inl (2, fs3.set 0 (.ref ((M).2)))))))) : kz_C G (d + 1) mc ms mX2_init [.ref a0] M Qr Qx := by
  refine kz_enter (n := 0) kmX2_init.1 (Nat.le_of_ble_eq_true rfl) (ls := [(0, .ref a0)]) rfl ?_
  refine kz_aload_n (pc := 0) 0 (v := .ref a0) (i := 0) rfl rfl rfl dX2_init_0 ?_
  refine kz_objInit (pc := 1) kw_88 kw_43 kw_44 (by omega) (Nat.le_of_ble_eq_true rfl) dX2_init_1 ?_
  refine kz_aload_n (pc := 4) 0 (v := .ref a0) (i := 0) rfl rfl rfl dX2_init_4 ?_
  refine kz_bipush (pc := 5) (v := 120) (by decide) dX2_init_5 ?_
  obtain ⟨N1, hn, hN, hb8, hc2, hs2, h⟩ := h
  refine kz_newaI (pc := 7) N1 kw_98 hn hN hb8 hc2 hs2 dX2_init_7 ?_
  obtain ⟨fs3, hM, hlen, h⟩ := h
  refine kz_putF (pc := 9) (k := 0) kcX2 hM (by decide) hlen rfl rfl kw_89 rfl rfl rfl dX2_init_9 ?_
  exact kz_vret (pc := 12) rfl hc2 hs2 dX2_init_12 h
theorem dX2_takeOver_0 : decode cX2_takeOver 0 = .ok (.aload_n 1, 1) := by decide +kernel
theorem dX2_takeOver_1 : decode cX2_takeOver 1 = .ok (.getfield 11, 3) := by decide +kernel
theorem dX2_takeOver_4 : decode cX2_takeOver 4 = .ok (.iconst 0, 1) := by decide +kernel
theorem dX2_takeOver_5 : decode cX2_takeOver 5 = .ok (.aload_n 0, 1) := by decide +kernel
theorem dX2_takeOver_6 : decode cX2_takeOver 6 = .ok (.getfield 11, 3) := by decide +kernel
theorem dX2_takeOver_9 : decode cX2_takeOver 9 = .ok (.iconst 0, 1) := by decide +kernel
theorem dX2_takeOver_10 : decode cX2_takeOver 10 = .ok (.aload_n 0, 1) := by decide +kernel
theorem dX2_takeOver_11 : decode cX2_takeOver 11 = .ok (.getfield 11, 3) := by decide +kernel
theorem dX2_takeOver_14 : decode cX2_takeOver 14 = .ok (.arraylength, 1) := by decide +kernel
theorem dX2_takeOver_15 : decode cX2_takeOver 15 = .ok (.invokestatic 15, 3) := by decide +kernel
theorem dX2_takeOver_18 : decode cX2_takeOver 18 = .ok (.aload_n 0, 1) := by decide +kernel
theorem dX2_takeOver_19 : decode cX2_takeOver 19 = .ok (.aload_n 1, 1) := by decide +kernel
theorem dX2_takeOver_20 : decode cX2_takeOver 20 = .ok (.getfield 21, 3) := by decide +kernel
theorem dX2_takeOver_23 : decode cX2_takeOver 23 = .ok (.putfield 21, 3) := by decide +kernel
theorem dX2_takeOver_26 : decode cX2_takeOver 26 = .ok (.return_, 1) := by decide +kernel
theorem rX2_takeOver_0 {G : kz_G} {d : Nat} {Qr : Option Value → kz_M → Prop} {Qx : String → kz_M → Prop} {a0 : Nat} {p1 : Nat}  {M : kz_M} (h : ∃ fs1 v2, (M).1 p1 = some (.inl (2, fs1)) ∧ fs1[0]? = some (.ref v2) ∧ (∃ fs3 v4, (M).1 a0 = some (.inl (2, fs3)) ∧ fs3[0]? = some (.ref v4) ∧ (∃ fs5 v6, (M).1 a0 = some (.inl (2, fs5)) ∧ fs5[0]? = some (.ref v6) ∧ (∃ ty7 A8, (M).1 v6 = some (.inr (ty7, A8)) ∧ (∃ n11 f9 n12 g10, (M).1 v2 = some (.inr (.int, n11, .inl f9)) ∧ (M).1 v4 = some (.inr (.int, n12, .inl g10)) ∧ ¬ 0 < (0 : Int32) ∧ ¬ 0 < (0 : Int32) ∧ ¬ (Int32.ofNat A8.1) < (0 : Int32) ∧ (0 : Int32).toNatClampNeg + (Int32.ofNat A8.1 : Int32).toNatClampNeg ≤ n11 ∧ (0 : Int32).toNatClampNeg + (Int32.ofNat A8.1 : Int32).toNatClampNeg ≤ n12 ∧ (∃ fs13 v14, ((kz_up M v4 (.inr (.int, n12, .inl (va_cpy f9 g10 (0 : Int32).toNatClampNeg (0 : Int32).toNatClampNeg (Int32.ofNat A8.1 : Int32).toNatClampNeg))))).1 p1 = some (.inl (2, fs13)) ∧ fs13[1]? = some (.int v14) ∧ (∃ fs15, ((kz_up M v4 (.inr (.int, n12, .inl (va_cpy f9 g10 (0 : Int32).toNatClampNeg (0 : Int32).toNatClampNeg (Int32.ofNat A8.1 : Int32).toNatClampNeg))))).1 a0 = some (.inl (2, fs15)) ∧ 1 < fs15.length ∧ (∀ M16, M16 = kz_up (kz_up M v4 (.inr (.int, n12, .inl (va_cpy f9 g10 (0 : Int32).toNatClampNeg (0 : Int32).toNatClampNeg (Int32.ofNat A8.1 : Int32).toNatClampNeg)))) a0 (.inl (2, fs15.set 1 (.int v14))) → Qr none M16)))))))) : kz_C G (d + 1) 0 0 mX2_takeOver [.ref a0, .ref p1] M Qr Qx := by
  refine kz_enter (n := 1) kmX2_takeOver.1 (Nat.le_of_ble_eq_true rfl) (ls := [(0, .ref a0), (1, .ref p1)]) rfl ?_
  refine kz_aload_n (pc := 0) 1 (v := .ref p1) (i := 1) rfl rfl rfl dX2_takeOver_0 ?_
  obtain ⟨fs1, v2, hM, hv, h⟩ := h
  refine kz_getf (pc := 1) (k := 0) kcX2 hM hv (by decide) kw_89 dX2_takeOver_1 ?_
  refine kz_iconst (pc := 4) (v := 0) (by decide) dX2_takeOver_4 ?_
  refine kz_aload_n (pc := 5) 0 (v := .ref a0) (i := 0) rfl rfl rfl dX2_takeOver_5 ?_
  obtain ⟨fs3, v4, hM, hv, h⟩ := h
  refine kz_getf (pc := 6) (k := 0) kcX2 hM hv (by decide) kw_89 dX2_takeOver_6 ?_
  refine kz_iconst (pc := 9) (v := 0) (by decide) dX2_takeOver_9 ?_
  refine kz_aload_n (pc := 10) 0 (v := .ref a0) (i := 0) rfl rfl rfl dX2_takeOver_10 ?_
  obtain ⟨fs5, v6, hM, hv, h⟩ := h
  refine kz_getf (pc := 11) (k := 0) kcX2 hM hv (by decide) kw_89 dX2_takeOver_11 ?_
  obtain ⟨ty7, A8, hM, h⟩ := h
  refine kz_alen (pc := 14) hM rfl dX2_takeOver_14 ?_
  obtain ⟨n11, f9, n12, g10, ha, hb, h1, h2, h3, h4, h5, h⟩ := h
  refine kz_copyi (pc := 15) ⟨kw_414, kw_409, kw_408, kw_11⟩ ha hb h1 h2 h3 h4 h5 (by omega) (Nat.le_of_ble_eq_true rfl) dX2_takeOver_15 ?_
  refine kz_aload_n (pc := 18) 0 (v := .ref a0) (i := 0) rfl rfl rfl dX2_takeOver_18 ?_
  refine kz_aload_n (pc := 19) 1 (v := .ref p1) (i := 1) rfl rfl rfl dX2_takeOver_19 ?_
  obtain ⟨fs13, v14, hM, hv, h⟩ := h
  refine kz_getf (pc := 20) (k := 1) kcX2 hM hv (by decide) kw_90 dX2_takeOver_20 ?_
  obtain ⟨fs15, hM, hlen, h⟩ := h
  refine kz_putf (pc := 23) (k := 1) kcX2 hM (by decide) hlen kw_90 rfl rfl rfl dX2_takeOver_23 ?_
  refine kz_nameM (fun M16 e9 => ?_)
  replace h := h M16 e9
  exact kz_vret (pc := 26) rfl (Nat.le_refl _) (Nat.le_refl _) dX2_takeOver_26 h
theorem dX2_add_0 : decode cX2_add 0 = .ok (.aload_n 0, 1) := by decide +kernel
theorem dX2_add_1 : decode cX2_add 1 = .ok (.getfield 21, 3) := by decide +kernel
theorem dX2_add_4 : decode cX2_add 4 = .ok (.bipush 30, 2) := by decide +kernel
theorem dX2_add_6 : decode cX2_add 6 = .ok (.if_icmp .lt 29, 3) := by decide +kernel
theorem dX2_add_9 : decode cX2_add 9 = .ok (.aload_n 0, 1) := by decide +kernel
theorem dX2_add_10 : decode cX2_add 10 = .ok (.getfield 11, 3) := by decide +kernel
theorem dX2_add_13 : decode cX2_add 13 = .ok (.iconst 4, 1) := by decide +kernel
theorem dX2_add_14 : decode cX2_add 14 = .ok (.aload_n 0, 1) := by decide +kernel
theorem dX2_add_15 : decode cX2_add 15 = .ok (.getfield 11, 3) := by decide +kernel
theorem dX2_add_18 : decode cX2_add 18 = .ok (.iconst 0, 1) := by decide +kernel
theorem dX2_add_19 : decode cX2_add 19 = .ok (.aload_n 0, 1) := by decide +kernel
theorem dX2_add_20 : decode cX2_add 20 = .ok (.getfield 11, 3) := by decide +kernel
theorem dX2_add_23 : decode cX2_add 23 = .ok (.arraylength, 1) := by decide +kernel
theorem dX2_add_24 : decode cX2_add 24 = .ok (.iconst 4, 1) := by decide +kernel
theorem dX2_add_25 : decode cX2_add 25 = .ok (.isub, 1) := by decide +kernel
theorem dX2_add_26 : decode cX2_add 26 = .ok (.invokestatic 15, 3) := by decide +kernel
theorem dX2_add_29 : decode cX2_add 29 = .ok (.aload_n 0, 1) := by decide +kernel
theorem dX2_add_30 : decode cX2_add 30 = .ok (.bipush 29, 2) := by decide +kernel
theorem dX2_add_32 : decode cX2_add 32 = .ok (.putfield 21, 3) := by decide +kernel
theorem dX2_add_35 : decode cX2_add 35 = .ok (.aload_n 0, 1) := by decide +kernel
theorem dX2_add_36 : decode cX2_add 36 = .ok (.getfield 11, 3) := by decide +kernel
theorem dX2_add_39 : decode cX2_add 39 = .ok (.aload_n 0, 1) := by decide +kernel
theorem dX2_add_40 : decode cX2_add 40 = .ok (.getfield 21, 3) := by decide +kernel
theorem dX2_add_43 : decode cX2_add 43 = .ok (.iconst 4, 1) := by decide +kernel
theorem dX2_add_44 : decode cX2_add 44 = .ok (.imul, 1) := by decide +kernel
theorem dX2_add_45 : decode cX2_add 45 = .ok (.iload_n 1, 1) := by decide +kernel
theorem dX2_add_46 : decode cX2_add 46 = .ok (.invokestatic 25, 3) := by decide +kernel
theorem dX2_add_49 : decode cX2_add 49 = .ok (.aload_n 0, 1) := by decide +kernel
theorem dX2_add_50 : decode cX2_add 50 = .ok (.getfield 11, 3) := by decide +kernel
theorem dX2_add_53 : decode cX2_add 53 = .ok (.aload_n 0, 1) := by decide +kernel
theorem dX2_add_54 : decode cX2_add 54 = .ok (.getfield 21, 3) := by decide +kernel
theorem dX2_add_57 : decode cX2_add 57 = .ok (.iconst 4, 1) := by decide +kernel
theorem dX2_add_58 : decode cX2_add 58 = .ok (.imul, 1) := by decide +kernel
theorem dX2_add_59 : decode cX2_add 59 = .ok (.iconst 1, 1) := by decide +kernel
theorem dX2_add_60 : decode cX2_add 60 = .ok (.iadd, 1) := by decide +kernel
theorem dX2_add_61 : decode cX2_add 61 = .ok (.iload_n 2, 1) := by decide +kernel
theorem dX2_add_62 : decode cX2_add 62 = .ok (.invokestatic 25, 3) := by decide +kernel
theorem dX2_add_65 : decode cX2_add 65 = .ok (.aload_n 0, 1) := by decide +kernel
theorem dX2_add_66 : decode cX2_add 66 = .ok (.getfield 11, 3) := by decide +kernel
theorem dX2_add_69 : decode cX2_add 69 = .ok (.aload_n 0, 1) := by decide +kernel
theorem dX2_add_70 : decode cX2_add 70 = .ok (.getfield 21, 3) := by decide +kernel
theorem dX2_add_73 : decode cX2_add 73 = .ok (.iconst 4, 1) := by decide +kernel
theorem dX2_add_74 : decode cX2_add 74 = .ok (.imul, 1) := by decide +kernel
theorem dX2_add_75 : decode cX2_add 75 = .ok (.iconst 2, 1) := by decide +kernel
theorem dX2_add_76 : decode cX2_add 76 = .ok (.iadd, 1) := by decide +kernel
theorem dX2_add_77 : decode cX2_add 77 = .ok (.iload_n 3, 1) := by decide +kernel
theorem dX2_add_78 : decode cX2_add 78 = .ok (.invokestatic 25, 3) := by decide +kernel
theorem dX2_add_81 : decode cX2_add 81 = .ok (.aload_n 0, 1) := by decide +kernel
theorem dX2_add_82 : decode cX2_add 82 = .ok (.getfield 11, 3) := by decide +kernel
theorem dX2_add_85 : decode cX2_add 85 = .ok (.aload_n 0, 1) := by decide +kernel
theorem dX2_add_86 : decode cX2_add 86 = .ok (.getfield 21, 3) := by decide +kernel
theorem dX2_add_89 : decode cX2_add 89 = .ok (.iconst 4, 1) := by decide +kernel
theorem dX2_add_90 : decode cX2_add 90 = .ok (.imul, 1) := by decide +kernel
theorem dX2_add_91 : decode cX2_add 91 = .ok (.iconst 3, 1) := by decide +kernel
theorem dX2_add_92 : decode cX2_add 92 = .ok (.iadd, 1) := by decide +kernel
theorem dX2_add_93 : decode cX2_add 93 = .ok (.iload 4, 2) := by decide +kernel
theorem dX2_add_95 : decode cX2_add 95 = .ok (.invokestatic 25, 3) := by decide +kernel
theorem dX2_add_98 : decode cX2_add 98 = .ok (.aload_n 0, 1) := by decide +kernel
theorem dX2_add_99 : decode cX2_add 99 = .ok (.dup, 1) := by decide +kernel
theorem dX2_add_100 : decode cX2_add 100 = .ok (.getfield 21, 3) := by decide +kernel
theorem dX2_add_103 : decode cX2_add 103 = .ok (.iconst 1, 1) := by decide +kernel
theorem dX2_add_104 : decode cX2_add 104 = .ok (.iadd, 1) := by decide +kernel
theorem dX2_add_105 : decode cX2_add 105 = .ok (.putfield 21, 3) := by decide +kernel
theorem dX2_add_108 : decode cX2_add 108 = .ok (.return_, 1) := by decide +kernel
theorem rX2_add_0 {G : kz_G} {d : Nat} {Qr : Option Value → kz_M → Prop} {Qx : String → kz_M → Prop} {a0 : Nat} {p1 : Int32} {p2 : Int32} {p3 : Int32} {p4 : Int32}  {M : kz_M} (h : ∃ fs1 v2, (M).1 a0 = some (.inl (2, fs1)) ∧ fs1[1]? = some (.int v2) ∧ ((v2 < (30 : Int32) → ∃ fs3 v4, (M).1 a0 = some (.inl (2, fs3)) ∧ fs3[0]? = some (.ref v4) ∧ (∃ fs5 v6, (M).1 a0 = some (.inl (2, fs5)) ∧ fs5[1]? = some (.int v6) ∧ (kz_C G (d + 0) 0 0 mX11_put [.ref v4, .int (v6 * 4), .int p1] M (fun v M7 => v = none ∧ (∃ fs10 v11, (M7).1 a0 = some (.inl (2, fs10)) ∧ fs10[0]? = some (.ref v11) ∧ (∃ fs12 v13, (M7).1 a0 = some (.inl (2, fs12)) ∧ fs12[1]? = some (.int v13) ∧ (kz_C G (d + 0) 0 0 mX11_put [.ref v11, .int ((v13 * 4) + 1), .int p2] M7 (fun v M14 => v = none ∧ (∃ fs17 v18, (M14).1 a0 = some (.inl (2, fs17)) ∧ fs17[0]? = some (.ref v18) ∧ (∃ fs19 v20, (M14).1 a0 = some (.inl (2, fs19)) ∧ fs19[1]? = some (.int v20) ∧ (kz_C G (d + 0) 0 0 mX11_put [.ref v18, .int ((v20 * 4) + 2), .int p3] M14 (fun v M21 => v = none ∧ (∃ fs24 v25, (M21).1 a0 = some (.inl (2, fs24)) ∧ fs24[0]? = some (.ref v25) ∧ (∃ fs26 v27, (M21).1 a0 = some (.inl (2, fs26)) ∧ fs26[1]? = some (.int v27) ∧ (kz_C G (d + 0) 0 0 mX11_put [.ref v25, .int ((v27 * 4) + 3), .int p4] M21 (fun v M28 => v = none ∧ (∃ fs31 v32, (M28).1 a0 = some (.inl (2, fs31)) ∧ fs31[1]? = some (.int v32) ∧ (∃ fs33, (M28).1 a0 = some (.inl (2, fs33)) ∧ 1 < fs33.length ∧ (Qr none (kz_up M28 a0 (.inl (2, fs33.set 1 (.int (v32 + 1))))))))) Qx)))) Qx)))) Qx)))) Qx))) ∧ (¬ v2 < (30 : Int32) → ∃ fs38 v39, (M).1 a0 = some (.inl (2, fs38)) ∧ fs38[0]? = some (.ref v39) ∧ (∃ fs40 v41, (M).1 a0 = some (.inl (2, fs40)) ∧ fs40[0]? = some (.ref v41) ∧ (∃ fs42 v43, (M).1 a0 = some (.inl (2, fs42)) ∧ fs42[0]? = some (.ref v43) ∧ (∃ ty44 A45, (M).1 v43 = some (.inr (ty44, A45)) ∧ (∃ n48 f46 n49 g47, (M).1 v39 = some (.inr (.int, n48, .inl f46)) ∧ (M).1 v41 = some (.inr (.int, n49, .inl g47)) ∧ ¬ 4 < (0 : Int32) ∧ ¬ 0 < (0 : Int32) ∧ ¬ ((Int32.ofNat A45.1) - 4) < (0 : Int32) ∧ (4 : Int32).toNatClampNeg + ((Int32.ofNat A45.1) - 4 : Int32).toNatClampNeg ≤ n48 ∧ (0 : Int32).toNatClampNeg + ((Int32.ofNat A45.1) - 4 : Int32).toNatClampNeg ≤ n49 ∧ (∃ fs50, ((kz_up M v41 (.inr (.int, n49, .inl (va_cpy f46 g47 (4 : Int32).toNatClampNeg (0 : Int32).toNatClampNeg ((Int32.ofNat A45.1) - 4 : Int32).toNatClampNeg))))).1 a0 = some (.inl (2, fs50)) ∧ 1 < fs50.length ∧ (∀ M51, M51 = kz_up (kz_up M v41 (.inr (.int, n49, .inl (va_cpy f46 g47 (4 : Int32).toNatClampNeg (0 : Int32).toNatClampNeg ((Int32.ofNat A45.1) - 4 : Int32).toNatClampNeg)))) a0 (.inl (2, fs50.set 1 (.int 29))) → ∃ fs52 v53, (M51).1 a0 = some (.inl (2, fs52)) ∧ fs52[0]? = some (.ref v53) ∧ (∃ fs54 v55, (M51).1 a0 = some (.inl (2, fs54)) ∧ fs54[1]? = some (.int v55) ∧ (kz_C G (d + 0) 0 0 mX11_put [.ref v53, .int (v55 * 4), .int p1] M51 (fun v M56 => v = none ∧ (∃ fs59 v60, (M56).1 a0 = some (.inl (2, fs59)) ∧ fs59[0]? = some (.ref v60) ∧ (∃ fs61 v62, (M56).1 a0 = some (.inl (2, fs61)) ∧ fs61[1]? = some (.int v62) ∧ (kz_C G (d + 0) 0 0 mX11_put [.ref v60, .int ((v62 * 4) + 1), .int p2] M56 (fun v M63 => v = none ∧ (∃ fs66 v67, (M63).1 a0 = some (.inl (2, fs66)) ∧ fs66[0]? = some (.ref v67) ∧ (∃ fs68 v69, (M63).1 a0 = some (.inl (2, fs68)) ∧ fs68[1]? = some (.int v69) ∧ (kz_C G (d + 0) 0 0 mX11_put [.ref v67, .int ((v69 * 4) + 2), .int p3] M63 (fun v M70 => v = none ∧ (∃ fs73 v74, (M70).1 a0 = some (.inl (2, fs73)) ∧ fs73[0]? = some (.ref v74) ∧ (∃ fs75 v76, (M70).1 a0 = some (.inl (2, fs75)) ∧ fs75[1]? = some (.int v76) ∧ (kz_C G (d + 0) 0 0 mX11_put [.ref v74, .int ((v76 * 4) + 3), .int p4] M70 (fun v M77 => v = none ∧ (∃ fs80 v81, (M77).1 a0 = some (.inl (2, fs80)) ∧ fs80[1]? = some (.int v81) ∧ (∃ fs82, (M77).1 a0 = some (.inl (2, fs82)) ∧ 1 < fs82.length ∧ (Qr none (kz_up M77 a0 (.inl (2, fs82.set 1 (.int (v81 + 1))))))))) Qx)))) Qx)))) Qx)))) Qx))))))))))) : kz_C G (d + 1) 0 0 mX2_add [.ref a0, .int p1, .int p2, .int p3, .int p4] M Qr Qx := by
  refine kz_enter (n := 4) kmX2_add.1 (Nat.le_of_ble_eq_true rfl) (ls := [(0, .ref a0), (1, .int p1), (2, .int p2), (3, .int p3), (4, .int p4)]) rfl ?_
  refine kz_aload_n (pc := 0) 0 (v := .ref a0) (i := 0) rfl rfl rfl dX2_add_0 ?_
  obtain ⟨fs1, v2, hM, hv, h⟩ := h
  refine kz_getf (pc := 1) (k := 1) kcX2 hM hv (by decide) kw_90 dX2_add_1 ?_
  refine kz_bipush (pc := 4) (v := 30) (by decide) dX2_add_4 ?_
  refine kz_icmp_lt (pc := 6) (tgt := 35) (by decide) dX2_add_6 (fun hb => ?_) (fun hb => ?_)
  · replace h := h.1 hb
    refine kz_aload_n (pc := 35) 0 (v := .ref a0) (i := 0) rfl rfl rfl dX2_add_35 ?_
    obtain ⟨fs3, v4, hM, hv, h⟩ := h
    refine kz_getf (pc := 36) (k := 0) kcX2 hM hv (by decide) kw_89 dX2_add_36 ?_
    refine kz_aload_n (pc := 39) 0 (v := .ref a0) (i := 0) rfl rfl rfl dX2_add_39 ?_
    obtain ⟨fs5, v6, hM, hv, h⟩ := h
    refine kz_getf (pc := 40) (k := 1) kcX2 hM hv (by decide) kw_90 dX2_add_40 ?_
    refine kz_iconst (pc := 43) (v := 4) (by decide) dX2_add_43 ?_
    refine kz_imul (pc := 44) dX2_add_44 ?_
    refine kz_iload_n (pc := 45) 1 (i := 1) rfl rfl dX2_add_45 ?_
    refine kz_callSN (pc := 46) (μ' := mX11_put) (d' := d + 0) (mc' := 0) (ms' := 0) (As := [.ref v4, .int (v6 * 4), .int p1]) (st := []) (c := 0) (sl := 0) kmX11_put kw_1448 (by omega) rfl (Nat.le_of_ble_eq_true rfl) (Nat.le_refl _) (Nat.le_refl _) dX2_add_46 (fun E M9 hx => kz_Tout rfl (Nat.le_refl _) (Nat.le_refl _) hx) (kz_Cmono (fun v M7 h => ?_) (fun _ _ h => h) h)
    obtain ⟨rfl, h⟩ := h
    show kz_Z G (d + 1) 0 0 mX2_add Qr Qx 49 [(0, .ref a0), (1, .int p1), (2, .int p2), (3, .int p3), (4, .int p4)] [] M7 0 0
    refine kz_aload_n (pc := 49) 0 (v := .ref a0) (i := 0) rfl rfl rfl dX2_add_49 ?_
    obtain ⟨fs10, v11, hM, hv, h⟩ := h
    refine kz_getf (pc := 50) (k := 0) kcX2 hM hv (by decide) kw_89 dX2_add_50 ?_
    refine kz_aload_n (pc := 53) 0 (v := .ref a0) (i := 0) rfl rfl rfl dX2_add_53 ?_
    obtain ⟨fs12, v13, hM, hv, h⟩ := h
    refine kz_getf (pc := 54) (k := 1) kcX2 hM hv (by decide) kw_90 dX2_add_54 ?_
    refine kz_iconst (pc := 57) (v := 4) (by decide) dX2_add_57 ?_
    refine kz_imul (pc := 58) dX2_add_58 ?_
    refine kz_iconst (pc := 59) (v := 1) (by decide) dX2_add_59 ?_
    refine kz_iadd (pc := 60) dX2_add_60 ?_
    refine kz_iload_n (pc := 61) 2 (i := 2) rfl rfl dX2_add_61 ?_
    refine kz_callSN (pc := 62) (μ' := mX11_put) (d' := d + 0) (mc' := 0) (ms' := 0) (As := [.ref v11, .int ((v13 * 4) + 1), .int p2]) (st := []) (c := 0) (sl := 0) kmX11_put kw_1448 (by omega) rfl (Nat.le_of_ble_eq_true rfl) (Nat.le_refl _) (Nat.le_refl _) dX2_add_62 (fun E M9 hx => kz_Tout rfl (Nat.le_refl _) (Nat.le_refl _) hx) (kz_Cmono (fun v M14 h => ?_) (fun _ _ h => h) h)
    obtain ⟨rfl, h⟩ := h
    show kz_Z G (d + 1) 0 0 mX2_add Qr Qx 65 [(0, .ref a0), (1, .int p1), (2, .int p2), (3, .int p3), (4, .int p4)] [] M14 0 0
    refine kz_aload_n (pc := 65) 0 (v := .ref a0) (i := 0) rfl rfl rfl dX2_add_65 ?_
    obtain ⟨fs17, v18, hM, hv, h⟩ := h
    refine kz_getf (pc := 66) (k := 0) kcX2 hM hv (by decide) kw_89 dX2_add_66 ?_
    refine kz_aload_n (pc := 69) 0 (v := .ref a0) (i := 0) rfl rfl rfl dX2_add_69 ?_
    obtain ⟨fs19, v20, hM, hv, h⟩ := h
    refine kz_getf (pc := 70) (k := 1) kcX2 hM hv (by decide) kw_90 dX2_add_70 ?_
    refine kz_iconst (pc := 73) (v := 4) (by decide) dX2_add_73 ?_
    refine kz_imul (pc := 74) dX2_add_74 ?_
    refine kz_iconst (pc := 75) (v := 2) (by decide) dX2_add_75 ?_
    refine kz_iadd (pc := 76) dX2_add_76 ?_
    refine kz_iload_n (pc := 77) 3 (i := 3) rfl rfl dX2_add_77 ?_
    refine kz_callSN (pc := 78) (μ' := mX11_put) (d' := d + 0) (mc' := 0) (ms' := 0) (As := [.ref v18, .int ((v20 * 4) + 2), .int p3]) (st := []) (c := 0) (sl := 0) kmX11_put kw_1448 (by omega) rfl (Nat.le_of_ble_eq_true rfl) (Nat.le_refl _) (Nat.le_refl _) dX2_add_78 (fun E M9 hx => kz_Tout rfl (Nat.le_refl _) (Nat.le_refl _) hx) (kz_Cmono (fun v M21 h => ?_) (fun _ _ h => h) h)
    obtain ⟨rfl, h⟩ := h
    show kz_Z G (d + 1) 0 0 mX2_add Qr Qx 81 [(0, .ref a0), (1, .int p1), (2, .int p2), (3, .int p3), (4, .int p4)] [] M21 0 0
    refine kz_aload_n (pc := 81) 0 (v := .ref a0) (i := 0) rfl rfl rfl dX2_add_81 ?_
    obtain ⟨fs24, v25, hM, hv, h⟩ := h
    refine kz_getf (pc := 82) (k := 0) kcX2 hM hv (by decide) kw_89 dX2_add_82 ?_
    refine kz_aload_n (pc := 85) 0 (v := .ref a0) (i := 0) rfl rfl rfl dX2_add_85 ?_
    obtain ⟨fs26, v27, hM, hv, h⟩ := h
    refine kz_getf (pc := 86) (k := 1) kcX2 hM hv (by decide) kw_90 dX2_add_86 ?_
    refine kz_iconst (pc := 89) (v := 4) (by decide) dX2_add_89 ?_
    refine kz_imul (pc := 90) dX2_add_90 ?_
    refine kz_iconst (pc := 91) (v := 3) (by decide) dX2_add_91 ?_
    refine kz_iadd (pc := 92) dX2_add_92 ?_
    refine kz_iload (pc := 93) 4 (i := 4) rfl dX2_add_93 ?_
    refine kz_callSN (pc := 95) (μ' := mX11_put) (d' := d + 0) (mc' := 0) (ms' := 0) (As := [.ref v25, .int ((v27 * 4) + 3), .int p4]) (st := []) (c := 0) (sl := 0) kmX11_put kw_1448 (by omega) rfl (Nat.le_of_ble_eq_true rfl) (Nat.le_refl _) (Nat.le_refl _) dX2_add_95 (fun E M9 hx => kz_Tout rfl (Nat.le_refl _) (Nat.le_refl _) hx) (kz_Cmono (fun v M28 h => ?_) (fun _ _ h => h) h)
    obtain ⟨rfl, h⟩ := h
    show kz_Z G (d + 1) 0 0 mX2_add Qr Qx 98 [(0, .ref a0), (1, .int p1), (2, .int p2), (3, .int p3), (4, .int p4)] [] M28 0 0
    refine kz_aload_n (pc := 98) 0 (v := .ref a0) (i := 0) rfl rfl rfl dX2_add_98 ?_
    refine kz_dup (pc := 99) rfl dX2_add_99 ?_
    obtain ⟨fs31, v32, hM, hv, h⟩ := h
    refine kz_getf (pc := 100) (k := 1) kcX2 hM hv (by decide) kw_90 dX2_add_100 ?_
    refine kz_iconst (pc := 103) (v := 1) (by decide) dX2_add_103 ?_
    refine kz_iadd (pc := 104) dX2_add_104 ?_
    obtain ⟨fs33, hM, hlen, h⟩ := h
    refine kz_putf (pc := 105) (k := 1) kcX2 hM (by decide) hlen kw_90 rfl rfl rfl dX2_add_105 ?_
    exact kz_vret (pc := 108) rfl (Nat.le_refl _) (Nat.le_refl _) dX2_add_108 h
  · replace h := h.2 hb
    refine kz_aload_n (pc := 9) 0 (v := .ref a0) (i := 0) rfl rfl rfl dX2_add_9 ?_
    obtain ⟨fs38, v39, hM, hv, h⟩ := h
    refine kz_getf (pc := 10) (k := 0) kcX2 hM hv (by decide) kw_89 dX2_add_10 ?_
    refine kz_iconst (pc := 13) (v := 4) (by decide) dX2_add_13 ?_
    refine kz_aload_n (pc := 14) 0 (v := .ref a0) (i := 0) rfl rfl rfl dX2_add_14 ?_
    obtain ⟨fs40, v41, hM, hv, h⟩ := h
    refine kz_getf (pc := 15) (k := 0) kcX2 hM hv (by decide) kw_89 dX2_add_15 ?_
    refine kz_iconst (pc := 18) (v := 0) (by decide) dX2_add_18 ?_
    refine kz_aload_n (pc := 19) 0 (v := .ref a0) (i := 0) rfl rfl rfl dX2_add_19 ?_
    obtain ⟨fs42, v43, hM, hv, h⟩ := h
    refine kz_getf (pc := 20) (k := 0) kcX2 hM hv (by decide) kw_89 dX2_add_20 ?_
    obtain ⟨ty44, A45, hM, h⟩ := h
    refine kz_alen (pc := 23) hM rfl dX2_add_23 ?_
    refine kz_iconst (pc := 24) (v := 4) (by decide) dX2_add_24 ?_
    refine kz_isub (pc := 25) dX2_add_25 ?_
    obtain ⟨n48, f46, n49, g47, ha, hb, h1, h2, h3, h4, h5, h⟩ := h
    refine kz_copyi (pc := 26) ⟨kw_414, kw_409, kw_408, kw_11⟩ ha hb h1 h2 h3 h4 h5 (by omega) (Nat.le_of_ble_eq_true rfl) dX2_add_26 ?_
    refine kz_aload_n (pc := 29) 0 (v := .ref a0) (i := 0) rfl rfl rfl dX2_add_29 ?_
    refine kz_bipush (pc := 30) (v := 29) (by decide) dX2_add_30 ?_
    obtain ⟨fs50, hM, hlen, h⟩ := h
    refine kz_putf (pc := 32) (k := 1) kcX2 hM (by decide) hlen kw_90 rfl rfl rfl dX2_add_32 ?_
    refine kz_nameM (fun M51 e9 => ?_)
    replace h := h M51 e9
    refine kz_aload_n (pc := 35) 0 (v := .ref a0) (i := 0) rfl rfl rfl dX2_add_35 ?_
    obtain ⟨fs52, v53, hM, hv, h⟩ := h
    refine kz_getf (pc := 36) (k := 0) kcX2 hM hv (by decide) kw_89 dX2_add_36 ?_
    refine kz_aload_n (pc := 39) 0 (v := .ref a0) (i := 0) rfl rfl rfl dX2_add_39 ?_
    obtain ⟨fs54, v55, hM, hv, h⟩ := h
    refine kz_getf (pc := 40) (k := 1) kcX2 hM hv (by decide) kw_90 dX2_add_40 ?_
    refine kz_iconst (pc := 43) (v := 4) (by decide) dX2_add_43 ?_
    refine kz_imul (pc := 44) dX2_add_44 ?_
    refine kz_iload_n (pc := 45) 1 (i := 1) rfl rfl dX2_add_45 ?_
    refine kz_callSN (pc := 46) (μ' := mX11_put) (d' := d + 0) (mc' := 0) (ms' := 0) (As := [.ref v53, .int (v55 * 4), .int p1]) (st := []) (c := 0) (sl := 0) kmX11_put kw_1448 (by omega) rfl (Nat.le_of_ble_eq_true rfl) (Nat.le_refl _) (Nat.le_refl _) dX2_add_46 (fun E M9 hx => kz_Tout rfl (Nat.le_refl _) (Nat.le_refl _) hx) (kz_Cmono (fun v M56 h => ?_) (fun _ _ h => h) h)
    obtain ⟨rfl, h⟩ := h
    show kz_Z G (d + 1) 0 0 mX2_add Qr Qx 49 [(0, .ref a0), (1, .int p1), (2, .int p2), (3, .int p3), (4, .int p4)] [] M56 0 0
    refine kz_aload_n (pc := 49) 0 (v := .ref a0) (i := 0) rfl rfl rfl dX2_add_49 ?_
    obtain ⟨fs59, v60, hM, hv, h⟩ := h
    refine kz_getf (pc := 50) (k := 0) kcX2 hM hv (by decide) kw_89 dX2_add_50 ?_
    refine kz_aload_n (pc := 53) 0 (v := .ref a0) (i := 0) rfl rfl rfl dX2_add_53 ?_
    obtain ⟨fs61, v62, hM, hv, h⟩ := h
    refine kz_getf (pc := 54) (k := 1) kcX2 hM hv (by decide) kw_90 dX2_add_54 ?_
    refine kz_iconst (pc := 57) (v := 4) (by decide) dX2_add_57 ?_
    refine kz_imul (pc := 58) dX2_add_58 ?_
    refine kz_iconst (pc := 59) (v := 1) (by decide) dX2_add_59 ?_
    refine kz_iadd (pc := 60) dX2_add_60 ?_
    refine kz_iload_n (pc := 61) 2 (i := 2) rfl rfl dX2_add_61 ?_
    refine kz_callSN (pc := 62) (μ' := mX11_put) (d' := d + 0) (mc' := 0) (ms' := 0) (As := [.ref v60, .int ((v62 * 4) + 1), .int p2]) (st := []) (c := 0) (sl := 0) kmX11_put kw_1448 (by omega) rfl (Nat.le_of_ble_eq_true rfl) (Nat.le_refl _) (Nat.le_refl _) dX2_add_62 (fun E M9 hx => kz_Tout rfl (Nat.le_refl _) (Nat.le_refl _) hx) (kz_Cmono (fun v M63 h => ?_) (fun _ _ h => h) h)
    obtain ⟨rfl, h⟩ := h
    show kz_Z G (d + 1) 0 0 mX2_add Qr Qx 65 [(0, .ref a0), (1, .int p1), (2, .int p2), (3, .int p3), (4, .int p4)] [] M63 0 0
    refine kz_aload_n (pc := 65) 0 (v := .ref a0) (i := 0) rfl rfl rfl dX2_add_65 ?_
    obtain ⟨fs66, v67, hM, hv, h⟩ := h
    refine kz_getf (pc := 66) (k := 0) kcX2 hM hv (by decide) kw_89 dX2_add_66 ?_
    refine kz_aload_n (pc := 69) 0 (v := .ref a0) (i := 0) rfl rfl rfl dX2_add_69 ?_
    obtain ⟨fs68, v69, hM, hv, h⟩ := h
    refine kz_getf (pc := 70) (k := 1) kcX2 hM hv (by decide) kw_90 dX2_add_70 ?_
    refine kz_iconst (pc := 73) (v := 4) (by decide) dX2_add_73 ?_
    refine kz_imul (pc := 74) dX2_add_74 ?_
    refine kz_iconst (pc := 75) (v := 2) (by decide) dX2_add_75 ?_
    refine kz_iadd (pc := 76) dX2_add_76 ?_
    refine kz_iload_n (pc := 77) 3 (i := 3) rfl rfl dX2_add_77 ?_
    refine kz_callSN (pc := 78) (μ' := mX11_put) (d' := d + 0) (mc' := 0) (ms' := 0) (As := [.ref v67, .int ((v69 * 4) + 2), .int p3]) (st := []) (c := 0) (sl := 0) kmX11_put kw_1448 (by omega) rfl (Nat.le_of_ble_eq_true rfl) (Nat.le_refl _) (Nat.le_refl _) dX2_add_78 (fun E M9 hx => kz_Tout rfl (Nat.le_refl _) (Nat.le_refl _) hx) (kz_Cmono (fun v M70 h => ?_) (fun _ _ h => h) h)
    obtain ⟨rfl, h⟩ := h
    show kz_Z G (d + 1) 0 0 mX2_add Qr Qx 81 [(0, .ref a0), (1, .int p1), (2, .int p2), (3, .int p3), (4, .int p4)] [] M70 0 0
    refine kz_aload_n (pc := 81) 0 (v := .ref a0) (i := 0) rfl rfl rfl dX2_add_81 ?_
    obtain ⟨fs73, v74, hM, hv, h⟩ := h
    refine kz_getf (pc := 82) (k := 0) kcX2 hM hv (by decide) kw_89 dX2_add_82 ?_
    refine kz_aload_n (pc := 85) 0 (v := .ref a0) (i := 0) rfl rfl rfl dX2_add_85 ?_
    obtain ⟨fs75, v76, hM, hv, h⟩ := h
    refine kz_getf (pc := 86) (k := 1) kcX2 hM hv (by decide) kw_90 dX2_add_86 ?_
    refine kz_iconst (pc := 89) (v := 4) (by decide) dX2_add_89 ?_
    refine kz_imul (pc := 90) dX2_add_90 ?_
    refine kz_iconst (pc := 91) (v := 3) (by decide) dX2_add_91 ?_
    refine kz_iadd (pc := 92) dX2_add_92 ?_
    refine kz_iload (pc := 93) 4 (i := 4) rfl dX2_add_93 ?_
    refine kz_callSN (pc := 95) (μ' := mX11_put) (d' := d + 0) (mc' := 0) (ms' := 0) (As := [.ref v74, .int ((v76 * 4) + 3), .int p4]) (st := []) (c := 0) (sl := 0) kmX11_put kw_1448 (by omega) rfl (Nat.le_of_ble_eq_true rfl) (Nat.le_refl _) (Nat.le_refl _) dX2_add_95 (fun E M9 hx => kz_Tout rfl (Nat.le_refl _) (Nat.le_refl _) hx) (kz_Cmono (fun v M77 h => ?_) (fun _ _ h => h) h)
    obtain ⟨rfl, h⟩ := h
    show kz_Z G (d + 1) 0 0 mX2_add Qr Qx 98 [(0, .ref a0), (1, .int p1), (2, .int p2), (3, .int p3), (4, .int p4)] [] M77 0 0
    refine kz_aload_n (pc := 98) 0 (v := .ref a0) (i := 0) rfl rfl rfl dX2_add_98 ?_
    refine kz_dup (pc := 99) rfl dX2_add_99 ?_
    obtain ⟨fs80, v81, hM, hv, h⟩ := h
    refine kz_getf (pc := 100) (k := 1) kcX2 hM hv (by decide) kw_90 dX2_add_100 ?_
    refine kz_iconst (pc := 103) (v := 1) (by decide) dX2_add_103 ?_
    refine kz_iadd (pc := 104) dX2_add_104 ?_
    obtain ⟨fs82, hM, hlen, h⟩ := h
    refine kz_putf (pc := 105) (k := 1) kcX2 hM (by decide) hlen kw_90 rfl rfl rfl dX2_add_105 ?_
    exact kz_vret (pc := 108) rfl (Nat.le_refl _) (Nat.le_refl _) dX2_add_108 h
theorem dX4_init_0 : decode cX4_init 0 = .ok (.aload_n 0, 1) := by decide +kernel
theorem dX4_init_1 : decode cX4_init 1 = .ok (.invokespecial 3, 3) := by decide +kernel
theorem dX4_init_4 : decode cX4_init 4 = .ok (.aload_n 0, 1) := by decide +kernel
theorem dX4_init_5 : decode cX4_init 5 = .ok (.sipush 256, 3) := by decide +kernel
theorem dX4_init_8 : decode cX4_init 8 = .ok (.newarray .byte, 2) := by decide +kernel
theorem dX4_init_10 : decode cX4_init 10 = .ok (.putfield 9, 3) := by decide +kernel
theorem dX4_init_13 : decode cX4_init 13 = .ok (.return_, 1) := by decide +kernel
theorem rX4_init_0 {G : kz_G} {d : Nat} {mc ms : Nat} {Qr : Option Value → kz_M → Prop} {Qx : String → kz_M → Prop} {a0 : Nat}  {M : kz_M} (h : ∃ N1, ¬ (256 : Int32) < 0 ∧ (256 : Int32).toNatClampNeg = N1 ∧ N1 ≤ 60000000 ∧ 0 + 1 ≤ mc ∧ 0 + N1 ≤ ms ∧ (∃ fs3, ((kz_nw M (.inr (.byte, N1, .inl (fun _ => 0))))).1 a0 = some (.inl (4, fs3)) ∧ 0 < fs3.length ∧ (Qr none (kz_up (kz_nw M (.inr (.byte, N1, .inl (fun _ => 0)))) a0 (.inl (4, fs3.set 0 (.ref ((M).2)))))))) : kz_C G (d + 1) mc ms mX4_init [.ref a0] M Qr Qx := by
  refine kz_enter (n := 0) kmX4_init.1 (Nat.le_of_ble_eq_true rfl) (ls := [(0, .ref a0)]) rfl ?_
  refine kz_aload_n (pc := 0) 0 (v := .ref a0) (i := 0) rfl rfl rfl dX4_init_0 ?_
  refine kz_objInit (pc := 1) kw_66 kw_43 kw_44 (by omega) (Nat.le_of_ble_eq_true rfl) dX4_init_1 ?_
  refine kz_aload_n (pc := 4) 0 (v := .ref a0) (i := 0) rfl rfl rfl dX4_init_4 ?_
  refine kz_sipush (pc := 5) (v := 256) (by decide) dX4_init_5 ?_
  obtain ⟨N1, hn, hN, hb8, hc2, hs2, h⟩ := h
  refine kz_newaB (pc := 8) N1 kw_60 hn hN hb8 hc2 hs2 dX4_init_8 ?_
  obtain ⟨fs3, hM, hlen, h⟩ := h
  refine kz_putF (pc := 10) (k := 0) kcX4 hM (by decide) hlen rfl rfl kw_67 rfl rfl rfl dX4_init_10 ?_
  exact kz_vret (pc := 13) rfl hc2 hs2 dX4_init_13 h
