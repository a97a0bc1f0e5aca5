/-! The rules of 11.rscript: printed by program (wip/whole/rules.py) -/
theorem dX6_init_0 : decode cX6_init 0 = .ok (.aload_n 0, 1) := by decide +kernel
theorem dX6_init_1 : decode cX6_init 1 = .ok (.invokespecial 3, 3) := by decide +kernel
theorem dX6_init_4 : decode cX6_init 4 = .ok (.aload_n 0, 1) := by decide +kernel
theorem dX6_init_5 : decode cX6_init 5 = .ok (.iload_n 1, 1) := by decide +kernel
theorem dX6_init_6 : decode cX6_init 6 = .ok (.putfield 9, 3) := by decide +kernel
theorem dX6_init_9 : decode cX6_init 9 = .ok (.aload_n 0, 1) := by decide +kernel
theorem dX6_init_10 : decode cX6_init 10 = .ok (.aload_n 2, 1) := by decide +kernel
theorem dX6_init_11 : decode cX6_init 11 = .ok (.putfield 15, 3) := by decide +kernel
theorem dX6_init_14 : decode cX6_init 14 = .ok (.aload_n 0, 1) := by decide +kernel
theorem dX6_init_15 : decode cX6_init 15 = .ok (.aload_n 3, 1) := by decide +kernel
theorem dX6_init_16 : decode cX6_init 16 = .ok (.putfield 19, 3) := by decide +kernel
theorem dX6_init_19 : decode cX6_init 19 = .ok (.return_, 1) := by decide +kernel
theorem rX6_init_0 {G : kz_G} {d : Nat} {Qr : Option Value → kz_M → Prop} {Qx : String → kz_M → Prop} {a0 : Nat} {p1 : Int32} {p2 : Nat} {p3 : Nat}  {M : kz_M} (h : ∃ fs1, (M).1 a0 = some (.inl (6, fs1)) ∧ 0 < fs1.length ∧ (∃ fs2, ((kz_up M a0 (.inl (6, fs1.set 0 (.int p1))))).1 a0 = some (.inl (6, fs2)) ∧ 1 < fs2.length ∧ (∃ fs3, ((kz_up (kz_up M a0 (.inl (6, fs1.set 0 (.int p1)))) a0 (.inl (6, fs2.set 1 (.ref p2))))).1 a0 = some (.inl (6, fs3)) ∧ 2 < fs3.length ∧ (Qr none (kz_up (kz_up (kz_up M a0 (.inl (6, fs1.set 0 (.int p1)))) a0 (.inl (6, fs2.set 1 (.ref p2)))) a0 (.inl (6, fs3.set 2 (.ref p3)))))))) : kz_C G (d + 1) 0 0 mX6_init [.ref a0, .int p1, .ref p2, .ref p3] M Qr Qx := by
  refine kz_enter (n := 3) kmX6_init.1 (Nat.le_of_ble_eq_true rfl) (ls := [(0, .ref a0), (1, .int p1), (2, .ref p2), (3, .ref p3)]) rfl ?_
  refine kz_aload_n (pc := 0) 0 (v := .ref a0) (i := 0) rfl rfl rfl dX6_init_0 ?_
  refine kz_objInit (pc := 1) kw_1096 kw_43 kw_44 (by omega) (Nat.le_of_ble_eq_true rfl) dX6_init_1 ?_
  refine kz_aload_n (pc := 4) 0 (v := .ref a0) (i := 0) rfl rfl rfl dX6_init_4 ?_
  refine kz_iload_n (pc := 5) 1 (i := 1) rfl rfl dX6_init_5 ?_
  obtain ⟨fs1, hM, hlen, h⟩ := h
  refine kz_putF (pc := 6) (k := 0) kcX6 hM (by decide) hlen rfl rfl kw_1097 rfl rfl rfl dX6_init_6 ?_
  refine kz_aload_n (pc := 9) 0 (v := .ref a0) (i := 0) rfl rfl rfl dX6_init_9 ?_
  refine kz_aload_n (pc := 10) 2 (v := .ref p2) (i := 2) rfl rfl rfl dX6_init_10 ?_
  obtain ⟨fs2, hM, hlen, h⟩ := h
  refine kz_putF (pc := 11) (k := 1) kcX6 hM (by decide) hlen rfl rfl kw_1099 rfl rfl rfl dX6_init_11 ?_
  refine kz_aload_n (pc := 14) 0 (v := .ref a0) (i := 0) rfl rfl rfl dX6_init_14 ?_
  refine kz_aload_n (pc := 15) 3 (v := .ref p3) (i := 3) rfl rfl rfl dX6_init_15 ?_
  obtain ⟨fs3, hM, hlen, h⟩ := h
  refine kz_putF (pc := 16) (k := 2) kcX6 hM (by decide) hlen rfl rfl kw_1100 rfl rfl rfl dX6_init_16 ?_
  exact kz_vret (pc := 19) rfl (Nat.le_refl _) (Nat.le_refl _) dX6_init_19 h
theorem dX6_read_0 : decode cX6_read 0 = .ok (.aload_n 0, 1) := by decide +kernel
theorem dX6_read_1 : decode cX6_read 1 = .ok (.iload_n 1, 1) := by decide +kernel
theorem dX6_read_2 : decode cX6_read 2 = .ok (.iload_n 2, 1) := by decide +kernel
theorem dX6_read_3 : decode cX6_read 3 = .ok (.invokestatic 23, 3) := by decide +kernel
theorem dX6_read_6 : decode cX6_read 6 = .ok (.istore_n 3, 1) := by decide +kernel
theorem dX6_read_7 : decode cX6_read 7 = .ok (.iload_n 3, 1) := by decide +kernel
theorem dX6_read_8 : decode cX6_read 8 = .ok (.iconst 1, 1) := by decide +kernel
theorem dX6_read_9 : decode cX6_read 9 = .ok (.if_icmp .lt 9, 3) := by decide +kernel
theorem dX6_read_12 : decode cX6_read 12 = .ok (.iload_n 3, 1) := by decide +kernel
theorem dX6_read_13 : decode cX6_read 13 = .ok (.bipush 60, 2) := by decide +kernel
theorem dX6_read_15 : decode cX6_read 15 = .ok (.if_icmp .le 5, 3) := by decide +kernel
theorem dX6_read_18 : decode cX6_read 18 = .ok (.aconst_null, 1) := by decide +kernel
theorem dX6_read_19 : decode cX6_read 19 = .ok (.areturn, 1) := by decide +kernel
theorem dX6_read_20 : decode cX6_read 20 = .ok (.new 10, 3) := by decide +kernel
theorem dX6_read_23 : decode cX6_read 23 = .ok (.dup, 1) := by decide +kernel
theorem dX6_read_24 : decode cX6_read 24 = .ok (.iload_n 1, 1) := by decide +kernel
theorem dX6_read_25 : decode cX6_read 25 = .ok (.iload_n 3, 1) := by decide +kernel
theorem dX6_read_26 : decode cX6_read 26 = .ok (.newarray .long, 2) := by decide +kernel
theorem dX6_read_28 : decode cX6_read 28 = .ok (.iload_n 3, 1) := by decide +kernel
theorem dX6_read_29 : decode cX6_read 29 = .ok (.newarray .int, 2) := by decide +kernel
theorem dX6_read_31 : decode cX6_read 31 = .ok (.invokespecial 27, 3) := by decide +kernel
theorem dX6_read_34 : decode cX6_read 34 = .ok (.astore 4, 2) := by decide +kernel
theorem dX6_read_36 : decode cX6_read 36 = .ok (.iconst 0, 1) := by decide +kernel
theorem dX6_read_37 : decode cX6_read 37 = .ok (.istore 5, 2) := by decide +kernel
theorem dX6_read_39 : decode cX6_read 39 = .ok (.iconst 0, 1) := by decide +kernel
theorem dX6_read_40 : decode cX6_read 40 = .ok (.istore 6, 2) := by decide +kernel
theorem dX6_read_42 : decode cX6_read 42 = .ok (.iconst 0, 1) := by decide +kernel
theorem dX6_read_43 : decode cX6_read 43 = .ok (.istore 7, 2) := by decide +kernel
theorem dX6_read_45 : decode cX6_read 45 = .ok (.iload 7, 2) := by decide +kernel
theorem dX6_read_47 : decode cX6_read 47 = .ok (.iload_n 2, 1) := by decide +kernel
theorem dX6_read_48 : decode cX6_read 48 = .ok (.if_icmp .ge 73, 3) := by decide +kernel
theorem dX6_read_51 : decode cX6_read 51 = .ok (.aload_n 0, 1) := by decide +kernel
theorem dX6_read_52 : decode cX6_read 52 = .ok (.iload 7, 2) := by decide +kernel
theorem dX6_read_54 : decode cX6_read 54 = .ok (.invokevirtual 30, 3) := by decide +kernel
theorem dX6_read_57 : decode cX6_read 57 = .ok (.istore 8, 2) := by decide +kernel
theorem dX6_read_59 : decode cX6_read 59 = .ok (.iload 8, 2) := by decide +kernel
theorem dX6_read_61 : decode cX6_read 61 = .ok (.invokestatic 36, 3) := by decide +kernel
theorem dX6_read_64 : decode cX6_read 64 = .ok (.ifCond .eq 41, 3) := by decide +kernel
theorem dX6_read_67 : decode cX6_read 67 = .ok (.aload 4, 2) := by decide +kernel
theorem dX6_read_69 : decode cX6_read 69 = .ok (.iload 5, 2) := by decide +kernel
theorem dX6_read_71 : decode cX6_read 71 = .ok (.iload 8, 2) := by decide +kernel
theorem dX6_read_73 : decode cX6_read 73 = .ok (.iload 6, 2) := by decide +kernel
theorem dX6_read_75 : decode cX6_read 75 = .ok (.invokevirtual 40, 3) := by decide +kernel
theorem dX6_read_78 : decode cX6_read 78 = .ok (.iload 5, 2) := by decide +kernel
theorem dX6_read_80 : decode cX6_read 80 = .ok (.aload_n 0, 1) := by decide +kernel
theorem dX6_read_81 : decode cX6_read 81 = .ok (.iload 7, 2) := by decide +kernel
theorem dX6_read_83 : decode cX6_read 83 = .ok (.iconst 1, 1) := by decide +kernel
theorem dX6_read_84 : decode cX6_read 84 = .ok (.iadd, 1) := by decide +kernel
theorem dX6_read_85 : decode cX6_read 85 = .ok (.invokevirtual 30, 3) := by decide +kernel
theorem dX6_read_88 : decode cX6_read 88 = .ok (.invokestatic 36, 3) := by decide +kernel
theorem dX6_read_91 : decode cX6_read 91 = .ok (.ifCond .eq 7, 3) := by decide +kernel
theorem dX6_read_94 : decode cX6_read 94 = .ok (.iconst 0, 1) := by decide +kernel
theorem dX6_read_95 : decode cX6_read 95 = .ok (.goto 4, 3) := by decide +kernel
theorem dX6_read_98 : decode cX6_read 98 = .ok (.iconst 1, 1) := by decide +kernel
theorem dX6_read_99 : decode cX6_read 99 = .ok (.iadd, 1) := by decide +kernel
theorem dX6_read_100 : decode cX6_read 100 = .ok (.istore 5, 2) := by decide +kernel
theorem dX6_read_102 : decode cX6_read 102 = .ok (.goto 13, 3) := by decide +kernel
theorem dX6_read_105 : decode cX6_read 105 = .ok (.iload 8, 2) := by decide +kernel
theorem dX6_read_107 : decode cX6_read 107 = .ok (.bipush 47, 2) := by decide +kernel
theorem dX6_read_109 : decode cX6_read 109 = .ok (.if_icmp .ne 6, 3) := by decide +kernel
theorem dX6_read_112 : decode cX6_read 112 = .ok (.iinc 6 1, 3) := by decide +kernel
theorem dX6_read_115 : decode cX6_read 115 = .ok (.iinc 7 1, 3) := by decide +kernel
theorem dX6_read_118 : decode cX6_read 118 = .ok (.goto (-73), 3) := by decide +kernel
theorem dX6_read_121 : decode cX6_read 121 = .ok (.aload 4, 2) := by decide +kernel
theorem dX6_read_123 : decode cX6_read 123 = .ok (.areturn, 1) := by decide +kernel
def zX6_read_45 (G : kz_G) (d mc ms : Nat) (Qr : Option Value → kz_M → Prop) (Qx : String → kz_M → Prop) (x0 : Nat) (x2 : Int32) (x4 : Nat) (x5 : Int32) (x6 : Int32) (x7 : Int32)  (M : kz_M) (c sl : Nat) : Prop := kz_Z G (d + 2) mc ms mX6_read Qr Qx 45 [(0, .ref x0), (2, .int x2), (4, .ref x4), (5, .int x5), (6, .int x6), (7, .int x7)] [] M c sl
theorem rX6_read_0 {G : kz_G} {d : Nat} {mc ms : Nat} {Qr : Option Value → kz_M → Prop} {Qx : String → kz_M → Prop} {p0 : Nat} {p1 : Int32} {p2 : Int32}  {M : kz_M} (h : kz_C G (d + 1) 0 0 mX6_wordsIn [.ref p0, .int p1, .int p2] M (fun v M1 => ∃ r2 : Int32, v = some (.int r2) ∧ ((r2 < (1 : Int32) → Qr (some (.null)) M1) ∧ (¬ r2 < (1 : Int32) → (r2 ≤ (60 : Int32) → 0 + 1 ≤ mc ∧ 0 + 3 ≤ ms ∧ (∃ N5, ¬ r2 < 0 ∧ (r2 : Int32).toNatClampNeg = N5 ∧ N5 ≤ 60000000 ∧ 0 + 1 + 1 ≤ mc ∧ 0 + 3 + N5 ≤ ms ∧ (∃ N7, ¬ r2 < 0 ∧ (r2 : Int32).toNatClampNeg = N7 ∧ N7 ≤ 60000000 ∧ 0 + 1 + 1 + 1 ≤ mc ∧ 0 + 3 + N5 + N7 ≤ ms ∧ (kz_C G (d + 1) 0 0 mX6_init [.ref ((M1).2), .int p1, .ref ((kz_nw M1 (.inl (6, [.int 0, .null, .null]))).2), .ref ((kz_nw (kz_nw M1 (.inl (6, [.int 0, .null, .null]))) (.inr (.long, N5, .inr (.inl (fun _ => 0))))).2)] (kz_nw (kz_nw (kz_nw M1 (.inl (6, [.int 0, .null, .null]))) (.inr (.long, N5, .inr (.inl (fun _ => 0))))) (.inr (.int, N7, .inl (fun _ => 0)))) (fun v M9 => v = none ∧ (zX6_read_45 G d mc ms Qr Qx p0 p2 ((M1).2) 0 0 0 M9 (0 + 1 + 1 + 1) (0 + 3 + N5 + N7))) Qx)))) ∧ (¬ r2 ≤ (60 : Int32) → Qr (some (.null)) M1)))) Qx) : kz_C G (d + 2) mc ms mX6_read [.ref p0, .int p1, .int p2] M Qr Qx := by
  refine kz_enter (n := 3) kmX6_read.1 (Nat.le_of_ble_eq_true rfl) (ls := [(0, .ref p0), (1, .int p1), (2, .int p2)]) rfl ?_
  refine kz_aload_n (pc := 0) 0 (v := .ref p0) (i := 0) rfl rfl rfl dX6_read_0 ?_
  refine kz_iload_n (pc := 1) 1 (i := 1) rfl rfl dX6_read_1 ?_
  refine kz_iload_n (pc := 2) 2 (i := 2) rfl rfl dX6_read_2 ?_
  refine kz_callS (pc := 3) (μ' := mX6_wordsIn) (d' := d + 1) (mc' := 0) (ms' := 0) (As := [.ref p0, .int p1, .int p2]) (st := []) (c := 0) (sl := 0) kmX6_wordsIn kw_1085 (by omega) rfl (Nat.le_of_ble_eq_true rfl) (Nat.zero_le _) (Nat.zero_le _) dX6_read_3 (fun E M9 hx => kz_Tout rfl (Nat.zero_le _) (Nat.zero_le _) hx) (kz_Cmono (fun v M1 h => ?_) (fun _ _ h => h) h)
  obtain ⟨r2, rfl, h⟩ := h
  show kz_Z G (d + 2) mc ms mX6_read Qr Qx 6 [(0, .ref p0), (1, .int p1), (2, .int p2)] [.int r2] M1 0 0
  refine kz_istore_n (pc := 6) (i := 3) (ls' := [(0, .ref p0), (1, .int p1), (2, .int p2)]) rfl (by decide) rfl dX6_read_6 ?_
  refine kz_iload_n (pc := 7) 0 (i := 3) rfl rfl dX6_read_7 ?_
  refine kz_iconst (pc := 8) (v := 1) (by decide) dX6_read_8 ?_
  refine kz_icmp_lt (pc := 9) (tgt := 18) (by decide) dX6_read_9 (fun hb => ?_) (fun hb => ?_)
  · replace h := h.1 hb
    refine kz_null (pc := 18) dX6_read_18 ?_
    exact kz_aret (pc := 19) (v := .null) rfl rfl (Or.inl ⟨_, rfl⟩) (Nat.zero_le _) (Nat.zero_le _) dX6_read_19 h
  · replace h := h.2 hb
    refine kz_iload_n (pc := 12) 0 (i := 3) rfl rfl dX6_read_12 ?_
    refine kz_bipush (pc := 13) (v := 60) (by decide) dX6_read_13 ?_
    refine kz_icmp_le (pc := 15) (tgt := 20) (by decide) dX6_read_15 (fun hb => ?_) (fun hb => ?_)
    · replace h := h.1 hb
      obtain ⟨hc4, hs4, h⟩ := h
      refine kz_newc (pc := 20) kcX6 rfl kw_1091 kw_1092 kw_30 hc4 hs4 dX6_read_20 ?_
      refine kz_dup (pc := 23) rfl dX6_read_23 ?_
      refine kz_iload_n (pc := 24) 2 (i := 1) rfl rfl dX6_read_24 ?_
      refine kz_iload_n (pc := 25) 0 (i := 3) rfl rfl dX6_read_25 ?_
      obtain ⟨N5, hn, hN, hb8, hc6, hs6, h⟩ := h
      refine kz_newaL (pc := 26) N5 kw_99 hn hN hb8 hc6 hs6 dX6_read_26 ?_
      refine kz_iload_n (pc := 28) 0 (i := 3) rfl rfl dX6_read_28 ?_
      obtain ⟨N7, hn, hN, hb8, hc8, hs8, h⟩ := h
      refine kz_newaI (pc := 29) N7 kw_98 hn hN hb8 hc8 hs8 dX6_read_29 ?_
      refine kz_callI (pc := 31) (μ' := mX6_init) (b := (M1).2) (d' := d + 1) (mc' := 0) (ms' := 0) (As := [.int p1, .ref ((kz_nw M1 (.inl (6, [.int 0, .null, .null]))).2), .ref ((kz_nw (kz_nw M1 (.inl (6, [.int 0, .null, .null]))) (.inr (.long, N5, .inr (.inl (fun _ => 0))))).2)]) (st := [.ref ((M1).2)]) (c := 0 + 1 + 1 + 1) (sl := 0 + 3 + N5 + N7) kmX6_init kw_1093 (by omega) rfl (Nat.le_of_ble_eq_true rfl) hc8 hs8 dX6_read_31 (fun E M9 hx => kz_Tout rfl hc8 hs8 hx) (kz_Cmono (fun v M9 h => ?_) (fun _ _ h => h) h)
      obtain ⟨rfl, h⟩ := h
      show kz_Z G (d + 2) mc ms mX6_read Qr Qx 34 [(3, .int r2), (0, .ref p0), (1, .int p1), (2, .int p2)] [.ref ((M1).2)] M9 (0 + 1 + 1 + 1) (0 + 3 + N5 + N7)
      refine kz_astore (pc := 34) (i := 4) (v := .ref ((M1).2)) (ls' := [(3, .int r2), (0, .ref p0), (1, .int p1), (2, .int p2)]) rfl (by decide) rfl dX6_read_34 ?_
      refine kz_iconst (pc := 36) (v := 0) (by decide) dX6_read_36 ?_
      refine kz_istore (pc := 37) (i := 5) (ls' := [(4, .ref ((M1).2)), (3, .int r2), (0, .ref p0), (1, .int p1), (2, .int p2)]) (by decide) rfl dX6_read_37 ?_
      refine kz_iconst (pc := 39) (v := 0) (by decide) dX6_read_39 ?_
      refine kz_istore (pc := 40) (i := 6) (ls' := [(5, .int 0), (4, .ref ((M1).2)), (3, .int r2), (0, .ref p0), (1, .int p1), (2, .int p2)]) (by decide) rfl dX6_read_40 ?_
      refine kz_iconst (pc := 42) (v := 0) (by decide) dX6_read_42 ?_
      refine kz_istore (pc := 43) (i := 7) (ls' := [(6, .int 0), (5, .int 0), (4, .ref ((M1).2)), (3, .int r2), (0, .ref p0), (1, .int p1), (2, .int p2)]) (by decide) rfl dX6_read_43 ?_
      refine kz_sub [5, 7, 3, 2, 1, 0] rfl ?_
      exact h
    · replace h := h.2 hb
      refine kz_null (pc := 18) dX6_read_18 ?_
      exact kz_aret (pc := 19) (v := .null) rfl rfl (Or.inl ⟨_, rfl⟩) (Nat.zero_le _) (Nat.zero_le _) dX6_read_19 h
theorem rX6_read_45 {G : kz_G} {d : Nat} {mc ms : Nat} {Qr : Option Value → kz_M → Prop} {Qx : String → kz_M → Prop} {x0 : Nat} {x2 : Int32} {x4 : Nat} {x5 : Int32} {x6 : Int32} {x7 : Int32}  {M : kz_M} {c sl : Nat} (hc : c ≤ mc) (hs : sl ≤ ms) (h : (x2 ≤ x7 → Qr (some (.ref x4)) M) ∧ (¬ x2 ≤ x7 → (∃ fs20, (M).1 x0 = some (.inl (1, fs20))) ∧ kz_C G (d + 1) 0 0 mX1_signAt [.ref x0, .int x7] M (fun v M1 => ∃ r2 : Int32, v = some (.int r2) ∧ (kz_C G (d + 1) 0 0 mX11_isLetter [.int r2] M1 (fun v M4 => ∃ r5 : Int32, v = some (.int r5) ∧ ((r5 = 0 → (¬ r2 = (47 : Int32) → zX6_read_45 G d mc ms Qr Qx x0 x2 x4 x5 x6 (x7 + 1) M4 c sl) ∧ (r2 = (47 : Int32) → zX6_read_45 G d mc ms Qr Qx x0 x2 x4 x5 (x6 + 1) (x7 + 1) M4 c sl)) ∧ (¬ r5 = 0 → (∃ fs18, (M4).1 x4 = some (.inl (6, fs18))) ∧ kz_C G (d + 1) 0 0 mX6_addLetter [.ref x4, .int x5, .int r2, .int x6] M4 (fun v M7 => v = none ∧ ((∃ fs17, (M7).1 x0 = some (.inl (1, fs17))) ∧ kz_C G (d + 1) 0 0 mX1_signAt [.ref x0, .int (x7 + 1)] M7 (fun v M10 => ∃ r11 : Int32, v = some (.int r11) ∧ (kz_C G (d + 1) 0 0 mX11_isLetter [.int r11] M10 (fun v M13 => ∃ r14 : Int32, v = some (.int r14) ∧ ((r14 = 0 → zX6_read_45 G d mc ms Qr Qx x0 x2 x4 (x5 + 1) x6 (x7 + 1) M13 c sl) ∧ (¬ r14 = 0 → zX6_read_45 G d mc ms Qr Qx x0 x2 x4 (x5 + 0) x6 (x7 + 1) M13 c sl))) Qx)) Qx)) Qx))) Qx)) Qx)) : zX6_read_45 G d mc ms Qr Qx x0 x2 x4 x5 x6 x7  M c sl := by
  show kz_Z G (d + 2) mc ms mX6_read Qr Qx 45 [(0, .ref x0), (2, .int x2), (4, .ref x4), (5, .int x5), (6, .int x6), (7, .int x7)] [] M c sl
  refine kz_iload (pc := 45) 5 (i := 7) rfl dX6_read_45 ?_
  refine kz_iload_n (pc := 47) 1 (i := 2) rfl rfl dX6_read_47 ?_
  refine kz_icmp_ge (pc := 48) (tgt := 121) (by decide) dX6_read_48 (fun hb => ?_) (fun hb => ?_)
  · replace h := h.1 hb
    refine kz_aload (pc := 121) 2 (v := .ref x4) (i := 4) rfl rfl dX6_read_121 ?_
    exact kz_aret (pc := 123) (v := .ref x4) rfl rfl (Or.inl ⟨_, rfl⟩) hc hs dX6_read_123 h
  · replace h := h.2 hb
    refine kz_aload_n (pc := 51) 0 (v := .ref x0) (i := 0) rfl rfl rfl dX6_read_51 ?_
    refine kz_iload (pc := 52) 5 (i := 7) rfl dX6_read_52 ?_
    obtain ⟨⟨fs20, he⟩, h⟩ := h
    refine kz_callV (pc := 54) (μ' := mX1_signAt) (ci := 1) (q := (RX1, TX1, 2)) (b := x0) (d' := d + 1) (mc' := 0) (ms' := 0) (As := [.int x7]) (st := []) (c := c) (sl := sl) kmX1_signAt kw_1088 (by omega) rfl (Nat.le_of_ble_eq_true rfl) he rfl rfl hc hs dX6_read_54 (fun E M9 hx => kz_Tout rfl hc hs hx) (kz_Cmono (fun v M1 h => ?_) (fun _ _ h => h) h)
    obtain ⟨r2, rfl, h⟩ := h
    show kz_Z G (d + 2) mc ms mX6_read Qr Qx 57 [(0, .ref x0), (2, .int x2), (4, .ref x4), (5, .int x5), (6, .int x6), (7, .int x7)] [.int r2] M1 c sl
    refine kz_istore (pc := 57) (i := 8) (ls' := [(0, .ref x0), (2, .int x2), (4, .ref x4), (5, .int x5), (6, .int x6), (7, .int x7)]) (by decide) rfl dX6_read_57 ?_
    refine kz_iload (pc := 59) 0 (i := 8) rfl dX6_read_59 ?_
    refine kz_callSN (pc := 61) (μ' := mX11_isLetter) (d' := d + 1) (mc' := 0) (ms' := 0) (As := [.int r2]) (st := []) (c := c) (sl := sl) kmX11_isLetter kw_1089 (by omega) rfl (Nat.le_of_ble_eq_true rfl) hc hs dX6_read_61 (fun E M9 hx => kz_Tout rfl hc hs hx) (kz_Cmono (fun v M4 h => ?_) (fun _ _ h => h) h)
    obtain ⟨r5, rfl, h⟩ := h
    show kz_Z G (d + 2) mc ms mX6_read Qr Qx 64 [(8, .int r2), (0, .ref x0), (2, .int x2), (4, .ref x4), (5, .int x5), (6, .int x6), (7, .int x7)] [.int r5] M4 c sl
    refine kz_if_eq (pc := 64) (tgt := 105) (by decide) dX6_read_64 (fun hb => ?_) (fun hb => ?_)
    · replace h := h.1 hb
      refine kz_iload (pc := 105) 0 (i := 8) rfl dX6_read_105 ?_
      refine kz_bipush (pc := 107) (v := 47) (by decide) dX6_read_107 ?_
      refine kz_icmp_ne (pc := 109) (tgt := 115) (by decide) dX6_read_109 (fun hb => ?_) (fun hb => ?_)
      · replace h := h.1 hb
        refine kz_iinc (pc := 115) 6 (i := 7) (v := x7 + 1) (ls' := [(8, .int r2), (0, .ref x0), (2, .int x2), (4, .ref x4), (5, .int x5), (6, .int x6)]) rfl (congrArg (fun z => x7 + z) (by decide)) (by decide) rfl dX6_read_115 ?_
        refine kz_goto (pc := 118) (tgt := 45) (by decide) dX6_read_118 ?_
        refine kz_sub [2, 3, 4, 5, 6, 0] rfl ?_
        exact h
      · replace h := h.2 hb
        refine kz_iinc (pc := 112) 5 (i := 6) (v := x6 + 1) (ls' := [(8, .int r2), (0, .ref x0), (2, .int x2), (4, .ref x4), (5, .int x5), (7, .int x7)]) rfl (congrArg (fun z => x6 + z) (by decide)) (by decide) rfl dX6_read_112 ?_
        refine kz_iinc (pc := 115) 6 (i := 7) (v := x7 + 1) (ls' := [(6, .int (x6 + 1)), (8, .int r2), (0, .ref x0), (2, .int x2), (4, .ref x4), (5, .int x5)]) rfl (congrArg (fun z => x7 + z) (by decide)) (by decide) rfl dX6_read_115 ?_
        refine kz_goto (pc := 118) (tgt := 45) (by decide) dX6_read_118 ?_
        refine kz_sub [3, 4, 5, 6, 1, 0] rfl ?_
        exact h
    · replace h := h.2 hb
      refine kz_aload (pc := 67) 3 (v := .ref x4) (i := 4) rfl rfl dX6_read_67 ?_
      refine kz_iload (pc := 69) 4 (i := 5) rfl dX6_read_69 ?_
      refine kz_iload (pc := 71) 0 (i := 8) rfl dX6_read_71 ?_
      refine kz_iload (pc := 73) 5 (i := 6) rfl dX6_read_73 ?_
      obtain ⟨⟨fs18, he⟩, h⟩ := h
      refine kz_callV (pc := 75) (μ' := mX6_addLetter) (ci := 6) (q := (RX6, TX6, 3)) (b := x4) (d' := d + 1) (mc' := 0) (ms' := 0) (As := [.int x5, .int r2, .int x6]) (st := []) (c := c) (sl := sl) kmX6_addLetter kw_1108 (by omega) rfl (Nat.le_of_ble_eq_true rfl) he rfl rfl hc hs dX6_read_75 (fun E M9 hx => kz_Tout rfl hc hs hx) (kz_Cmono (fun v M7 h => ?_) (fun _ _ h => h) h)
      obtain ⟨rfl, h⟩ := h
      show kz_Z G (d + 2) mc ms mX6_read Qr Qx 78 [(8, .int r2), (0, .ref x0), (2, .int x2), (4, .ref x4), (5, .int x5), (6, .int x6), (7, .int x7)] [] M7 c sl
      refine kz_iload (pc := 78) 4 (i := 5) rfl dX6_read_78 ?_
      refine kz_aload_n (pc := 80) 1 (v := .ref x0) (i := 0) rfl rfl rfl dX6_read_80 ?_
      refine kz_iload (pc := 81) 6 (i := 7) rfl dX6_read_81 ?_
      refine kz_iconst (pc := 83) (v := 1) (by decide) dX6_read_83 ?_
      refine kz_iadd (pc := 84) dX6_read_84 ?_
      obtain ⟨⟨fs17, he⟩, h⟩ := h
      refine kz_callV (pc := 85) (μ' := mX1_signAt) (ci := 1) (q := (RX1, TX1, 2)) (b := x0) (d' := d + 1) (mc' := 0) (ms' := 0) (As := [.int (x7 + 1)]) (st := [.int x5]) (c := c) (sl := sl) kmX1_signAt kw_1088 (by omega) rfl (Nat.le_of_ble_eq_true rfl) he rfl rfl hc hs dX6_read_85 (fun E M9 hx => kz_Tout rfl hc hs hx) (kz_Cmono (fun v M10 h => ?_) (fun _ _ h => h) h)
      obtain ⟨r11, rfl, h⟩ := h
      show kz_Z G (d + 2) mc ms mX6_read Qr Qx 88 [(8, .int r2), (0, .ref x0), (2, .int x2), (4, .ref x4), (5, .int x5), (6, .int x6), (7, .int x7)] [.int r11, .int x5] M10 c sl
      refine kz_callSN (pc := 88) (μ' := mX11_isLetter) (d' := d + 1) (mc' := 0) (ms' := 0) (As := [.int r11]) (st := [.int x5]) (c := c) (sl := sl) kmX11_isLetter kw_1089 (by omega) rfl (Nat.le_of_ble_eq_true rfl) hc hs dX6_read_88 (fun E M9 hx => kz_Tout rfl hc hs hx) (kz_Cmono (fun v M13 h => ?_) (fun _ _ h => h) h)
      obtain ⟨r14, rfl, h⟩ := h
      show kz_Z G (d + 2) mc ms mX6_read Qr Qx 91 [(8, .int r2), (0, .ref x0), (2, .int x2), (4, .ref x4), (5, .int x5), (6, .int x6), (7, .int x7)] [.int r14, .int x5] M13 c sl
      refine kz_if_eq (pc := 91) (tgt := 98) (by decide) dX6_read_91 (fun hb => ?_) (fun hb => ?_)
      · replace h := h.1 hb
        refine kz_iconst (pc := 98) (v := 1) (by decide) dX6_read_98 ?_
        refine kz_iadd (pc := 99) dX6_read_99 ?_
        refine kz_istore (pc := 100) (i := 5) (ls' := [(8, .int r2), (0, .ref x0), (2, .int x2), (4, .ref x4), (6, .int x6), (7, .int x7)]) (by decide) rfl dX6_read_100 ?_
        refine kz_goto (pc := 102) (tgt := 115) (by decide) dX6_read_102 ?_
        refine kz_iinc (pc := 115) 6 (i := 7) (v := x7 + 1) (ls' := [(5, .int (x5 + 1)), (8, .int r2), (0, .ref x0), (2, .int x2), (4, .ref x4), (6, .int x6)]) rfl (congrArg (fun z => x7 + z) (by decide)) (by decide) rfl dX6_read_115 ?_
        refine kz_goto (pc := 118) (tgt := 45) (by decide) dX6_read_118 ?_
        refine kz_sub [3, 4, 5, 1, 6, 0] rfl ?_
        exact h
      · replace h := h.2 hb
        refine kz_iconst (pc := 94) (v := 0) (by decide) dX6_read_94 ?_
        refine kz_goto (pc := 95) (tgt := 99) (by decide) dX6_read_95 ?_
        refine kz_iadd (pc := 99) dX6_read_99 ?_
        refine kz_istore (pc := 100) (i := 5) (ls' := [(8, .int r2), (0, .ref x0), (2, .int x2), (4, .ref x4), (6, .int x6), (7, .int x7)]) (by decide) rfl dX6_read_100 ?_
        refine kz_goto (pc := 102) (tgt := 115) (by decide) dX6_read_102 ?_
        refine kz_iinc (pc := 115) 6 (i := 7) (v := x7 + 1) (ls' := [(5, .int (x5 + 0)), (8, .int r2), (0, .ref x0), (2, .int x2), (4, .ref x4), (6, .int x6)]) rfl (congrArg (fun z => x7 + z) (by decide)) (by decide) rfl dX6_read_115 ?_
        refine kz_goto (pc := 118) (tgt := 45) (by decide) dX6_read_118 ?_
        refine kz_sub [3, 4, 5, 1, 6, 0] rfl ?_
        exact h
theorem dX6_wordsIn_0 : decode cX6_wordsIn 0 = .ok (.iconst 0, 1) := by decide +kernel
theorem dX6_wordsIn_1 : decode cX6_wordsIn 1 = .ok (.istore_n 3, 1) := by decide +kernel
theorem dX6_wordsIn_2 : decode cX6_wordsIn 2 = .ok (.iconst 0, 1) := by decide +kernel
theorem dX6_wordsIn_3 : decode cX6_wordsIn 3 = .ok (.istore 4, 2) := by decide +kernel
theorem dX6_wordsIn_5 : decode cX6_wordsIn 5 = .ok (.iconst 0, 1) := by decide +kernel
theorem dX6_wordsIn_6 : decode cX6_wordsIn 6 = .ok (.istore 5, 2) := by decide +kernel
theorem dX6_wordsIn_8 : decode cX6_wordsIn 8 = .ok (.iload 5, 2) := by decide +kernel
theorem dX6_wordsIn_10 : decode cX6_wordsIn 10 = .ok (.iload_n 2, 1) := by decide +kernel
theorem dX6_wordsIn_11 : decode cX6_wordsIn 11 = .ok (.if_icmp .ge 78, 3) := by decide +kernel
theorem dX6_wordsIn_14 : decode cX6_wordsIn 14 = .ok (.aload_n 0, 1) := by decide +kernel
theorem dX6_wordsIn_15 : decode cX6_wordsIn 15 = .ok (.iload 5, 2) := by decide +kernel
theorem dX6_wordsIn_17 : decode cX6_wordsIn 17 = .ok (.invokevirtual 30, 3) := by decide +kernel
theorem dX6_wordsIn_20 : decode cX6_wordsIn 20 = .ok (.istore 6, 2) := by decide +kernel
theorem dX6_wordsIn_22 : decode cX6_wordsIn 22 = .ok (.iload 6, 2) := by decide +kernel
theorem dX6_wordsIn_24 : decode cX6_wordsIn 24 = .ok (.invokestatic 36, 3) := by decide +kernel
theorem dX6_wordsIn_27 : decode cX6_wordsIn 27 = .ok (.ifCond .eq 28, 3) := by decide +kernel
theorem dX6_wordsIn_30 : decode cX6_wordsIn 30 = .ok (.iload_n 3, 1) := by decide +kernel
theorem dX6_wordsIn_31 : decode cX6_wordsIn 31 = .ok (.iload 4, 2) := by decide +kernel
theorem dX6_wordsIn_33 : decode cX6_wordsIn 33 = .ok (.ifCond .ne 7, 3) := by decide +kernel
theorem dX6_wordsIn_36 : decode cX6_wordsIn 36 = .ok (.iconst 1, 1) := by decide +kernel
theorem dX6_wordsIn_37 : decode cX6_wordsIn 37 = .ok (.goto 4, 3) := by decide +kernel
theorem dX6_wordsIn_40 : decode cX6_wordsIn 40 = .ok (.iconst 0, 1) := by decide +kernel
theorem dX6_wordsIn_41 : decode cX6_wordsIn 41 = .ok (.iadd, 1) := by decide +kernel
theorem dX6_wordsIn_42 : decode cX6_wordsIn 42 = .ok (.istore_n 3, 1) := by decide +kernel
theorem dX6_wordsIn_43 : decode cX6_wordsIn 43 = .ok (.iinc 4 1, 3) := by decide +kernel
theorem dX6_wordsIn_46 : decode cX6_wordsIn 46 = .ok (.iload 4, 2) := by decide +kernel
theorem dX6_wordsIn_48 : decode cX6_wordsIn 48 = .ok (.bipush 12, 2) := by decide +kernel
theorem dX6_wordsIn_50 : decode cX6_wordsIn 50 = .ok (.if_icmp .le 33, 3) := by decide +kernel
theorem dX6_wordsIn_53 : decode cX6_wordsIn 53 = .ok (.iconst (-1), 1) := by decide +kernel
theorem dX6_wordsIn_54 : decode cX6_wordsIn 54 = .ok (.ireturn, 1) := by decide +kernel
theorem dX6_wordsIn_55 : decode cX6_wordsIn 55 = .ok (.iload 6, 2) := by decide +kernel
theorem dX6_wordsIn_57 : decode cX6_wordsIn 57 = .ok (.invokestatic 44, 3) := by decide +kernel
theorem dX6_wordsIn_60 : decode cX6_wordsIn 60 = .ok (.ifCond .ne 15, 3) := by decide +kernel
theorem dX6_wordsIn_63 : decode cX6_wordsIn 63 = .ok (.iload 6, 2) := by decide +kernel
theorem dX6_wordsIn_65 : decode cX6_wordsIn 65 = .ok (.bipush 47, 2) := by decide +kernel
theorem dX6_wordsIn_67 : decode cX6_wordsIn 67 = .ok (.if_icmp .ne 14, 3) := by decide +kernel
theorem dX6_wordsIn_70 : decode cX6_wordsIn 70 = .ok (.iload_n 1, 1) := by decide +kernel
theorem dX6_wordsIn_71 : decode cX6_wordsIn 71 = .ok (.iconst 1, 1) := by decide +kernel
theorem dX6_wordsIn_72 : decode cX6_wordsIn 72 = .ok (.if_icmp .ne 9, 3) := by decide +kernel
theorem dX6_wordsIn_75 : decode cX6_wordsIn 75 = .ok (.iconst 0, 1) := by decide +kernel
theorem dX6_wordsIn_76 : decode cX6_wordsIn 76 = .ok (.istore 4, 2) := by decide +kernel
theorem dX6_wordsIn_78 : decode cX6_wordsIn 78 = .ok (.goto 5, 3) := by decide +kernel
theorem dX6_wordsIn_81 : decode cX6_wordsIn 81 = .ok (.iconst (-1), 1) := by decide +kernel
theorem dX6_wordsIn_82 : decode cX6_wordsIn 82 = .ok (.ireturn, 1) := by decide +kernel
theorem dX6_wordsIn_83 : decode cX6_wordsIn 83 = .ok (.iinc 5 1, 3) := by decide +kernel
theorem dX6_wordsIn_86 : decode cX6_wordsIn 86 = .ok (.goto (-78), 3) := by decide +kernel
theorem dX6_wordsIn_89 : decode cX6_wordsIn 89 = .ok (.iload_n 3, 1) := by decide +kernel
theorem dX6_wordsIn_90 : decode cX6_wordsIn 90 = .ok (.ireturn, 1) := by decide +kernel
def zX6_wordsIn_8 (G : kz_G) (d : Nat) (Qr : Option Value → kz_M → Prop) (Qx : String → kz_M → Prop) (x0 : Nat) (x1 : Int32) (x2 : Int32) (x3 : Int32) (x4 : Int32) (x5 : Int32)  (M : kz_M) : Prop := kz_Z G (d + 1) 0 0 mX6_wordsIn Qr Qx 8 [(0, .ref x0), (1, .int x1), (2, .int x2), (3, .int x3), (4, .int x4), (5, .int x5)] [] M 0 0
theorem rX6_wordsIn_0 {G : kz_G} {d : Nat} {Qr : Option Value → kz_M → Prop} {Qx : String → kz_M → Prop} {p0 : Nat} {p1 : Int32} {p2 : Int32}  {M : kz_M} (h : zX6_wordsIn_8 G d Qr Qx p0 p1 p2 0 0 0 M) : kz_C G (d + 1) 0 0 mX6_wordsIn [.ref p0, .int p1, .int p2] M Qr Qx := by
  refine kz_enter (n := 3) kmX6_wordsIn.1 (Nat.le_of_ble_eq_true rfl) (ls := [(0, .ref p0), (1, .int p1), (2, .int p2)]) rfl ?_
  refine kz_iconst (pc := 0) (v := 0) (by decide) dX6_wordsIn_0 ?_
  refine kz_istore_n (pc := 1) (i := 3) (ls' := [(0, .ref p0), (1, .int p1), (2, .int p2)]) rfl (by decide) rfl dX6_wordsIn_1 ?_
  refine kz_iconst (pc := 2) (v := 0) (by decide) dX6_wordsIn_2 ?_
  refine kz_istore (pc := 3) (i := 4) (ls' := [(3, .int 0), (0, .ref p0), (1, .int p1), (2, .int p2)]) (by decide) rfl dX6_wordsIn_3 ?_
  refine kz_iconst (pc := 5) (v := 0) (by decide) dX6_wordsIn_5 ?_
  refine kz_istore (pc := 6) (i := 5) (ls' := [(4, .int 0), (3, .int 0), (0, .ref p0), (1, .int p1), (2, .int p2)]) (by decide) rfl dX6_wordsIn_6 ?_
  refine kz_sub [3, 4, 5, 2, 1, 0] rfl ?_
  exact h
theorem rX6_wordsIn_8 {G : kz_G} {d : Nat} {Qr : Option Value → kz_M → Prop} {Qx : String → kz_M → Prop} {x0 : Nat} {x1 : Int32} {x2 : Int32} {x3 : Int32} {x4 : Int32} {x5 : Int32}  {M : kz_M} (h : (x2 ≤ x5 → Qr (some (.int x3)) M) ∧ (¬ x2 ≤ x5 → (∃ fs12, (M).1 x0 = some (.inl (1, fs12))) ∧ kz_C G (d + 0) 0 0 mX1_signAt [.ref x0, .int x5] M (fun v M1 => ∃ r2 : Int32, v = some (.int r2) ∧ (kz_C G (d + 0) 0 0 mX11_isLetter [.int r2] M1 (fun v M4 => ∃ r5 : Int32, v = some (.int r5) ∧ ((r5 = 0 → kz_C G (d + 0) 0 0 mX11_isBlank [.int r2] M4 (fun v M7 => ∃ r8 : Int32, v = some (.int r8) ∧ ((¬ r8 = 0 → zX6_wordsIn_8 G d Qr Qx x0 x1 x2 x3 0 (x5 + 1) M7) ∧ (r8 = 0 → (¬ r2 = (47 : Int32) → Qr (some (.int ((-1)))) M7) ∧ (r2 = (47 : Int32) → (¬ x1 = (1 : Int32) → Qr (some (.int ((-1)))) M7) ∧ (x1 = (1 : Int32) → zX6_wordsIn_8 G d Qr Qx x0 x1 x2 x3 0 (x5 + 1) M7))))) Qx) ∧ (¬ r5 = 0 → (¬ x4 = 0 → ((x4 + 1) ≤ (12 : Int32) → zX6_wordsIn_8 G d Qr Qx x0 x1 x2 (x3 + 0) (x4 + 1) (x5 + 1) M4) ∧ (¬ (x4 + 1) ≤ (12 : Int32) → Qr (some (.int ((-1)))) M4)) ∧ (x4 = 0 → ((x4 + 1) ≤ (12 : Int32) → zX6_wordsIn_8 G d Qr Qx x0 x1 x2 (x3 + 1) (x4 + 1) (x5 + 1) M4) ∧ (¬ (x4 + 1) ≤ (12 : Int32) → Qr (some (.int ((-1)))) M4))))) Qx)) Qx)) : zX6_wordsIn_8 G d Qr Qx x0 x1 x2 x3 x4 x5  M := by
  show kz_Z G (d + 1) 0 0 mX6_wordsIn Qr Qx 8 [(0, .ref x0), (1, .int x1), (2, .int x2), (3, .int x3), (4, .int x4), (5, .int x5)] [] M 0 0
  refine kz_iload (pc := 8) 5 (i := 5) rfl dX6_wordsIn_8 ?_
  refine kz_iload_n (pc := 10) 2 (i := 2) rfl rfl dX6_wordsIn_10 ?_
  refine kz_icmp_ge (pc := 11) (tgt := 89) (by decide) dX6_wordsIn_11 (fun hb => ?_) (fun hb => ?_)
  · replace h := h.1 hb
    refine kz_iload_n (pc := 89) 3 (i := 3) rfl rfl dX6_wordsIn_89 ?_
    exact kz_iret (pc := 90) rfl (Nat.le_refl _) (Nat.le_refl _) dX6_wordsIn_90 h
  · replace h := h.2 hb
    refine kz_aload_n (pc := 14) 0 (v := .ref x0) (i := 0) rfl rfl rfl dX6_wordsIn_14 ?_
    refine kz_iload (pc := 15) 5 (i := 5) rfl dX6_wordsIn_15 ?_
    obtain ⟨⟨fs12, he⟩, h⟩ := h
    refine kz_callV (pc := 17) (μ' := mX1_signAt) (ci := 1) (q := (RX1, TX1, 2)) (b := x0) (d' := d + 0) (mc' := 0) (ms' := 0) (As := [.int x5]) (st := []) (c := 0) (sl := 0) kmX1_signAt kw_1088 (by omega) rfl (Nat.le_of_ble_eq_true rfl) he rfl rfl (Nat.le_refl _) (Nat.le_refl _) dX6_wordsIn_17 (fun E M9 hx => kz_Tout rfl (Nat.le_refl _) (Nat.le_refl _) hx) (kz_Cmono (fun v M1 h => ?_) (fun _ _ h => h) h)
    obtain ⟨r2, rfl, h⟩ := h
    show kz_Z G (d + 1) 0 0 mX6_wordsIn Qr Qx 20 [(0, .ref x0), (1, .int x1), (2, .int x2), (3, .int x3), (4, .int x4), (5, .int x5)] [.int r2] M1 0 0
    refine kz_istore (pc := 20) (i := 6) (ls' := [(0, .ref x0), (1, .int x1), (2, .int x2), (3, .int x3), (4, .int x4), (5, .int x5)]) (by decide) rfl dX6_wordsIn_20 ?_
    refine kz_iload (pc := 22) 0 (i := 6) rfl dX6_wordsIn_22 ?_
    refine kz_callSN (pc := 24) (μ' := mX11_isLetter) (d' := d + 0) (mc' := 0) (ms' := 0) (As := [.int r2]) (st := []) (c := 0) (sl := 0) kmX11_isLetter kw_1089 (by omega) rfl (Nat.le_of_ble_eq_true rfl) (Nat.le_refl _) (Nat.le_refl _) dX6_wordsIn_24 (fun E M9 hx => kz_Tout rfl (Nat.le_refl _) (Nat.le_refl _) hx) (kz_Cmono (fun v M4 h => ?_) (fun _ _ h => h) h)
    obtain ⟨r5, rfl, h⟩ := h
    show kz_Z G (d + 1) 0 0 mX6_wordsIn Qr Qx 27 [(6, .int r2), (0, .ref x0), (1, .int x1), (2, .int x2), (3, .int x3), (4, .int x4), (5, .int x5)] [.int r5] M4 0 0
    refine kz_if_eq (pc := 27) (tgt := 55) (by decide) dX6_wordsIn_27 (fun hb => ?_) (fun hb => ?_)
    · replace h := h.1 hb
      refine kz_iload (pc := 55) 0 (i := 6) rfl dX6_wordsIn_55 ?_
      refine kz_callSN (pc := 57) (μ' := mX11_isBlank) (d' := d + 0) (mc' := 0) (ms' := 0) (As := [.int r2]) (st := []) (c := 0) (sl := 0) kmX11_isBlank kw_1090 (by omega) rfl (Nat.le_of_ble_eq_true rfl) (Nat.le_refl _) (Nat.le_refl _) dX6_wordsIn_57 (fun E M9 hx => kz_Tout rfl (Nat.le_refl _) (Nat.le_refl _) hx) (kz_Cmono (fun v M7 h => ?_) (fun _ _ h => h) h)
      obtain ⟨r8, rfl, h⟩ := h
      show kz_Z G (d + 1) 0 0 mX6_wordsIn Qr Qx 60 [(6, .int r2), (0, .ref x0), (1, .int x1), (2, .int x2), (3, .int x3), (4, .int x4), (5, .int x5)] [.int r8] M7 0 0
      refine kz_if_ne (pc := 60) (tgt := 75) (by decide) dX6_wordsIn_60 (fun hb => ?_) (fun hb => ?_)
      · replace h := h.1 hb
        refine kz_iconst (pc := 75) (v := 0) (by decide) dX6_wordsIn_75 ?_
        refine kz_istore (pc := 76) (i := 4) (ls' := [(6, .int r2), (0, .ref x0), (1, .int x1), (2, .int x2), (3, .int x3), (5, .int x5)]) (by decide) rfl dX6_wordsIn_76 ?_
        refine kz_goto (pc := 78) (tgt := 83) (by decide) dX6_wordsIn_78 ?_
        refine kz_iinc (pc := 83) 6 (i := 5) (v := x5 + 1) (ls' := [(4, .int 0), (6, .int r2), (0, .ref x0), (1, .int x1), (2, .int x2), (3, .int x3)]) rfl (congrArg (fun z => x5 + z) (by decide)) (by decide) rfl dX6_wordsIn_83 ?_
        refine kz_goto (pc := 86) (tgt := 8) (by decide) dX6_wordsIn_86 ?_
        refine kz_sub [3, 4, 5, 6, 1, 0] rfl ?_
        exact h
      · replace h := h.2 hb
        refine kz_iload (pc := 63) 0 (i := 6) rfl dX6_wordsIn_63 ?_
        refine kz_bipush (pc := 65) (v := 47) (by decide) dX6_wordsIn_65 ?_
        refine kz_icmp_ne (pc := 67) (tgt := 81) (by decide) dX6_wordsIn_67 (fun hb => ?_) (fun hb => ?_)
        · replace h := h.1 hb
          refine kz_iconst (pc := 81) (v := (-1)) (by decide) dX6_wordsIn_81 ?_
          exact kz_iret (pc := 82) rfl (Nat.le_refl _) (Nat.le_refl _) dX6_wordsIn_82 h
        · replace h := h.2 hb
          refine kz_iload_n (pc := 70) 2 (i := 1) rfl rfl dX6_wordsIn_70 ?_
          refine kz_iconst (pc := 71) (v := 1) (by decide) dX6_wordsIn_71 ?_
          refine kz_icmp_ne (pc := 72) (tgt := 81) (by decide) dX6_wordsIn_72 (fun hb => ?_) (fun hb => ?_)
          · replace h := h.1 hb
            refine kz_iconst (pc := 81) (v := (-1)) (by decide) dX6_wordsIn_81 ?_
            exact kz_iret (pc := 82) rfl (Nat.le_refl _) (Nat.le_refl _) dX6_wordsIn_82 h
          · replace h := h.2 hb
            refine kz_iconst (pc := 75) (v := 0) (by decide) dX6_wordsIn_75 ?_
            refine kz_istore (pc := 76) (i := 4) (ls' := [(6, .int r2), (0, .ref x0), (1, .int x1), (2, .int x2), (3, .int x3), (5, .int x5)]) (by decide) rfl dX6_wordsIn_76 ?_
            refine kz_goto (pc := 78) (tgt := 83) (by decide) dX6_wordsIn_78 ?_
            refine kz_iinc (pc := 83) 6 (i := 5) (v := x5 + 1) (ls' := [(4, .int 0), (6, .int r2), (0, .ref x0), (1, .int x1), (2, .int x2), (3, .int x3)]) rfl (congrArg (fun z => x5 + z) (by decide)) (by decide) rfl dX6_wordsIn_83 ?_
            refine kz_goto (pc := 86) (tgt := 8) (by decide) dX6_wordsIn_86 ?_
            refine kz_sub [3, 4, 5, 6, 1, 0] rfl ?_
            exact h
    · replace h := h.2 hb
      refine kz_iload_n (pc := 30) 4 (i := 3) rfl rfl dX6_wordsIn_30 ?_
      refine kz_iload (pc := 31) 5 (i := 4) rfl dX6_wordsIn_31 ?_
      refine kz_if_ne (pc := 33) (tgt := 40) (by decide) dX6_wordsIn_33 (fun hb => ?_) (fun hb => ?_)
      · replace h := h.1 hb
        refine kz_iconst (pc := 40) (v := 0) (by decide) dX6_wordsIn_40 ?_
        refine kz_iadd (pc := 41) dX6_wordsIn_41 ?_
        refine kz_istore_n (pc := 42) (i := 3) (ls' := [(6, .int r2), (0, .ref x0), (1, .int x1), (2, .int x2), (4, .int x4), (5, .int x5)]) rfl (by decide) rfl dX6_wordsIn_42 ?_
        refine kz_iinc (pc := 43) 5 (i := 4) (v := x4 + 1) (ls' := [(3, .int (x3 + 0)), (6, .int r2), (0, .ref x0), (1, .int x1), (2, .int x2), (5, .int x5)]) rfl (congrArg (fun z => x4 + z) (by decide)) (by decide) rfl dX6_wordsIn_43 ?_
        refine kz_iload (pc := 46) 0 (i := 4) rfl dX6_wordsIn_46 ?_
        refine kz_bipush (pc := 48) (v := 12) (by decide) dX6_wordsIn_48 ?_
        refine kz_icmp_le (pc := 50) (tgt := 83) (by decide) dX6_wordsIn_50 (fun hb => ?_) (fun hb => ?_)
        · replace h := h.1 hb
          refine kz_iinc (pc := 83) 6 (i := 5) (v := x5 + 1) (ls' := [(4, .int (x4 + 1)), (3, .int (x3 + 0)), (6, .int r2), (0, .ref x0), (1, .int x1), (2, .int x2)]) rfl (congrArg (fun z => x5 + z) (by decide)) (by decide) rfl dX6_wordsIn_83 ?_
          refine kz_goto (pc := 86) (tgt := 8) (by decide) dX6_wordsIn_86 ?_
          refine kz_sub [4, 5, 6, 2, 1, 0] rfl ?_
          exact h
        · replace h := h.2 hb
          refine kz_iconst (pc := 53) (v := (-1)) (by decide) dX6_wordsIn_53 ?_
          exact kz_iret (pc := 54) rfl (Nat.le_refl _) (Nat.le_refl _) dX6_wordsIn_54 h
      · replace h := h.2 hb
        refine kz_iconst (pc := 36) (v := 1) (by decide) dX6_wordsIn_36 ?_
        refine kz_goto (pc := 37) (tgt := 41) (by decide) dX6_wordsIn_37 ?_
        refine kz_iadd (pc := 41) dX6_wordsIn_41 ?_
        refine kz_istore_n (pc := 42) (i := 3) (ls' := [(6, .int r2), (0, .ref x0), (1, .int x1), (2, .int x2), (4, .int x4), (5, .int x5)]) rfl (by decide) rfl dX6_wordsIn_42 ?_
        refine kz_iinc (pc := 43) 5 (i := 4) (v := x4 + 1) (ls' := [(3, .int (x3 + 1)), (6, .int r2), (0, .ref x0), (1, .int x1), (2, .int x2), (5, .int x5)]) rfl (congrArg (fun z => x4 + z) (by decide)) (by decide) rfl dX6_wordsIn_43 ?_
        refine kz_iload (pc := 46) 0 (i := 4) rfl dX6_wordsIn_46 ?_
        refine kz_bipush (pc := 48) (v := 12) (by decide) dX6_wordsIn_48 ?_
        refine kz_icmp_le (pc := 50) (tgt := 83) (by decide) dX6_wordsIn_50 (fun hb => ?_) (fun hb => ?_)
        · replace h := h.1 hb
          refine kz_iinc (pc := 83) 6 (i := 5) (v := x5 + 1) (ls' := [(4, .int (x4 + 1)), (3, .int (x3 + 1)), (6, .int r2), (0, .ref x0), (1, .int x1), (2, .int x2)]) rfl (congrArg (fun z => x5 + z) (by decide)) (by decide) rfl dX6_wordsIn_83 ?_
          refine kz_goto (pc := 86) (tgt := 8) (by decide) dX6_wordsIn_86 ?_
          refine kz_sub [4, 5, 6, 2, 1, 0] rfl ?_
          exact h
        · replace h := h.2 hb
          refine kz_iconst (pc := 53) (v := (-1)) (by decide) dX6_wordsIn_53 ?_
          exact kz_iret (pc := 54) rfl (Nat.le_refl _) (Nat.le_refl _) dX6_wordsIn_54 h
theorem dX6_addLetter_0 : decode cX6_addLetter 0 = .ok (.iload_n 1, 1) := by decide +kernel
theorem dX6_addLetter_1 : decode cX6_addLetter 1 = .ok (.ifCond .lt 37, 3) := by decide +kernel
theorem dX6_addLetter_4 : decode cX6_addLetter 4 = .ok (.iload_n 1, 1) := by decide +kernel
theorem dX6_addLetter_5 : decode cX6_addLetter 5 = .ok (.aload_n 0, 1) := by decide +kernel
theorem dX6_addLetter_6 : decode cX6_addLetter 6 = .ok (.getfield 15, 3) := by decide +kernel
theorem dX6_addLetter_9 : decode cX6_addLetter 9 = .ok (.arraylength, 1) := by decide +kernel
theorem dX6_addLetter_10 : decode cX6_addLetter 10 = .ok (.if_icmp .ge 28, 3) := by decide +kernel
theorem dX6_addLetter_13 : decode cX6_addLetter 13 = .ok (.aload_n 0, 1) := by decide +kernel
theorem dX6_addLetter_14 : decode cX6_addLetter 14 = .ok (.getfield 15, 3) := by decide +kernel
theorem dX6_addLetter_17 : decode cX6_addLetter 17 = .ok (.iload_n 1, 1) := by decide +kernel
theorem dX6_addLetter_18 : decode cX6_addLetter 18 = .ok (.aload_n 0, 1) := by decide +kernel
theorem dX6_addLetter_19 : decode cX6_addLetter 19 = .ok (.getfield 15, 3) := by decide +kernel
theorem dX6_addLetter_22 : decode cX6_addLetter 22 = .ok (.iload_n 1, 1) := by decide +kernel
theorem dX6_addLetter_23 : decode cX6_addLetter 23 = .ok (.laload, 1) := by decide +kernel
theorem dX6_addLetter_24 : decode cX6_addLetter 24 = .ok (.iload_n 2, 1) := by decide +kernel
theorem dX6_addLetter_25 : decode cX6_addLetter 25 = .ok (.invokestatic 47, 3) := by decide +kernel
theorem dX6_addLetter_28 : decode cX6_addLetter 28 = .ok (.lastore, 1) := by decide +kernel
theorem dX6_addLetter_29 : decode cX6_addLetter 29 = .ok (.aload_n 0, 1) := by decide +kernel
theorem dX6_addLetter_30 : decode cX6_addLetter 30 = .ok (.getfield 19, 3) := by decide +kernel
theorem dX6_addLetter_33 : decode cX6_addLetter 33 = .ok (.iload_n 1, 1) := by decide +kernel
theorem dX6_addLetter_34 : decode cX6_addLetter 34 = .ok (.iload_n 3, 1) := by decide +kernel
theorem dX6_addLetter_35 : decode cX6_addLetter 35 = .ok (.invokestatic 51, 3) := by decide +kernel
theorem dX6_addLetter_38 : decode cX6_addLetter 38 = .ok (.return_, 1) := by decide +kernel
theorem rX6_addLetter_0 {G : kz_G} {d : Nat} {Qr : Option Value → kz_M → Prop} {Qx : String → kz_M → Prop} {a0 : Nat} {p1 : Int32} {p2 : Int32} {p3 : Int32}  {M : kz_M} (h : (p1 < 0 → Qr none M) ∧ (¬ p1 < 0 → ∃ fs1 v2, (M).1 a0 = some (.inl (6, fs1)) ∧ fs1[1]? = some (.ref v2) ∧ (∃ ty3 A4, (M).1 v2 = some (.inr (ty3, A4)) ∧ (((Int32.ofNat A4.1) ≤ p1 → Qr none M) ∧ (¬ (Int32.ofNat A4.1) ≤ p1 → ∃ fs5 v6, (M).1 a0 = some (.inl (6, fs5)) ∧ fs5[1]? = some (.ref v6) ∧ (∃ fs7 v8, (M).1 a0 = some (.inl (6, fs7)) ∧ fs7[1]? = some (.ref v8) ∧ (∃ n9 f10, (M).1 v8 = some (.inr (.long, n9, .inr (.inl f10))) ∧ vp_in p1 n9 ∧ (kz_C G (d + 0) 0 0 mX11_withLetter [.long (f10 p1.toNatClampNeg), .int p2] M (fun v M11 => ∃ r12 : Int64, v = some (.long r12) ∧ (∃ n14 f15, (M11).1 v6 = some (.inr (.long, n14, .inr (.inl f15))) ∧ vp_in p1 n14 ∧ (∃ fs16 v17, ((kz_up M11 v6 (.inr (.long, n14, .inr (.inl (vp_updL f15 (p1 : Int32).toNatClampNeg r12)))))).1 a0 = some (.inl (6, fs16)) ∧ fs16[2]? = some (.ref v17) ∧ (kz_C G (d + 0) 0 0 mX11_put [.ref v17, .int p1, .int p3] (kz_up M11 v6 (.inr (.long, n14, .inr (.inl (vp_updL f15 (p1 : Int32).toNatClampNeg r12))))) (fun v M18 => v = none ∧ (Qr none M18)) Qx)))) Qx)))))))) : kz_C G (d + 1) 0 0 mX6_addLetter [.ref a0, .int p1, .int p2, .int p3] M Qr Qx := by
  refine kz_enter (n := 3) kmX6_addLetter.1 (Nat.le_of_ble_eq_true rfl) (ls := [(0, .ref a0), (1, .int p1), (2, .int p2), (3, .int p3)]) rfl ?_
  refine kz_iload_n (pc := 0) 1 (i := 1) rfl rfl dX6_addLetter_0 ?_
  refine kz_if_lt (pc := 1) (tgt := 38) (by decide) dX6_addLetter_1 (fun hb => ?_) (fun hb => ?_)
  · replace h := h.1 hb
    exact kz_vret (pc := 38) rfl (Nat.le_refl _) (Nat.le_refl _) dX6_addLetter_38 h
  · replace h := h.2 hb
    refine kz_iload_n (pc := 4) 1 (i := 1) rfl rfl dX6_addLetter_4 ?_
    refine kz_aload_n (pc := 5) 0 (v := .ref a0) (i := 0) rfl rfl rfl dX6_addLetter_5 ?_
    obtain ⟨fs1, v2, hM, hv, h⟩ := h
    refine kz_getf (pc := 6) (k := 1) kcX6 hM hv (by decide) kw_1099 dX6_addLetter_6 ?_
    obtain ⟨ty3, A4, hM, h⟩ := h
    refine kz_alen (pc := 9) hM rfl dX6_addLetter_9 ?_
    refine kz_icmp_ge (pc := 10) (tgt := 38) (by decide) dX6_addLetter_10 (fun hb => ?_) (fun hb => ?_)
    · replace h := h.1 hb
      exact kz_vret (pc := 38) rfl (Nat.le_refl _) (Nat.le_refl _) dX6_addLetter_38 h
    · replace h := h.2 hb
      refine kz_aload_n (pc := 13) 0 (v := .ref a0) (i := 0) rfl rfl rfl dX6_addLetter_13 ?_
      obtain ⟨fs5, v6, hM, hv, h⟩ := h
      refine kz_getf (pc := 14) (k := 1) kcX6 hM hv (by decide) kw_1099 dX6_addLetter_14 ?_
      refine kz_iload_n (pc := 17) 1 (i := 1) rfl rfl dX6_addLetter_17 ?_
      refine kz_aload_n (pc := 18) 0 (v := .ref a0) (i := 0) rfl rfl rfl dX6_addLetter_18 ?_
      obtain ⟨fs7, v8, hM, hv, h⟩ := h
      refine kz_getf (pc := 19) (k := 1) kcX6 hM hv (by decide) kw_1099 dX6_addLetter_19 ?_
      refine kz_iload_n (pc := 22) 1 (i := 1) rfl rfl dX6_addLetter_22 ?_
      obtain ⟨n9, f10, hM, hi, h⟩ := h
      refine kz_lald (pc := 23) hM hi dX6_addLetter_23 ?_
      refine kz_iload_n (pc := 24) 2 (i := 2) rfl rfl dX6_addLetter_24 ?_
      refine kz_callSN (pc := 25) (μ' := mX11_withLetter) (d' := d + 0) (mc' := 0) (ms' := 0) (As := [.long (f10 p1.toNatClampNeg), .int p2]) (st := [.int p1, .ref v6]) (c := 0) (sl := 0) kmX11_withLetter kw_1112 (by omega) rfl (Nat.le_of_ble_eq_true rfl) (Nat.le_refl _) (Nat.le_refl _) dX6_addLetter_25 (fun E M9 hx => kz_Tout rfl (Nat.le_refl _) (Nat.le_refl _) hx) (kz_Cmono (fun v M11 h => ?_) (fun _ _ h => h) h)
      obtain ⟨r12, rfl, h⟩ := h
      show kz_Z G (d + 1) 0 0 mX6_addLetter Qr Qx 28 [(0, .ref a0), (1, .int p1), (2, .int p2), (3, .int p3)] [.long r12, .int p1, .ref v6] M11 0 0
      obtain ⟨n14, f15, hM, hi, h⟩ := h
      refine kz_last (pc := 28) hM hi dX6_addLetter_28 ?_
      refine kz_aload_n (pc := 29) 0 (v := .ref a0) (i := 0) rfl rfl rfl dX6_addLetter_29 ?_
      obtain ⟨fs16, v17, hM, hv, h⟩ := h
      refine kz_getf (pc := 30) (k := 2) kcX6 hM hv (by decide) kw_1100 dX6_addLetter_30 ?_
      refine kz_iload_n (pc := 33) 1 (i := 1) rfl rfl dX6_addLetter_33 ?_
      refine kz_iload_n (pc := 34) 3 (i := 3) rfl rfl dX6_addLetter_34 ?_
      refine kz_callSN (pc := 35) (μ' := mX11_put) (d' := d + 0) (mc' := 0) (ms' := 0) (As := [.ref v17, .int p1, .int p3]) (st := []) (c := 0) (sl := 0) kmX11_put kw_1113 (by omega) rfl (Nat.le_of_ble_eq_true rfl) (Nat.le_refl _) (Nat.le_refl _) dX6_addLetter_35 (fun E M9 hx => kz_Tout rfl (Nat.le_refl _) (Nat.le_refl _) hx) (kz_Cmono (fun v M18 h => ?_) (fun _ _ h => h) h)
      obtain ⟨rfl, h⟩ := h
      show kz_Z G (d + 1) 0 0 mX6_addLetter Qr Qx 38 [(0, .ref a0), (1, .int p1), (2, .int p2), (3, .int p3)] [] M18 0 0
      exact kz_vret (pc := 38) rfl (Nat.le_refl _) (Nat.le_refl _) dX6_addLetter_38 h
theorem dX6_size_0 : decode cX6_size 0 = .ok (.aload_n 0, 1) := by decide +kernel
theorem dX6_size_1 : decode cX6_size 1 = .ok (.getfield 15, 3) := by decide +kernel
theorem dX6_size_4 : decode cX6_size 4 = .ok (.arraylength, 1) := by decide +kernel
theorem dX6_size_5 : decode cX6_size 5 = .ok (.ireturn, 1) := by decide +kernel
theorem rX6_size_0 {G : kz_G} {d : Nat} {Qr : Option Value → kz_M → Prop} {Qx : String → kz_M → Prop} {a0 : Nat}  {M : kz_M} (h : ∃ fs1 v2, (M).1 a0 = some (.inl (6, fs1)) ∧ fs1[1]? = some (.ref v2) ∧ (∃ ty3 A4, (M).1 v2 = some (.inr (ty3, A4)) ∧ (Qr (some (.int (Int32.ofNat A4.1))) M))) : kz_C G d 0 0 mX6_size [.ref a0] M Qr Qx := by
  refine kz_enter (n := 0) kmX6_size.1 (Nat.le_of_ble_eq_true rfl) (ls := [(0, .ref a0)]) rfl ?_
  refine kz_aload_n (pc := 0) 0 (v := .ref a0) (i := 0) rfl rfl rfl dX6_size_0 ?_
  obtain ⟨fs1, v2, hM, hv, h⟩ := h
  refine kz_getf (pc := 1) (k := 1) kcX6 hM hv (by decide) kw_1099 dX6_size_1 ?_
  obtain ⟨ty3, A4, hM, h⟩ := h
  refine kz_alen (pc := 4) hM rfl dX6_size_4 ?_
  exact kz_iret (pc := 5) rfl (Nat.le_refl _) (Nat.le_refl _) dX6_size_5 h
theorem dX6_wordAt_0 : decode cX6_wordAt 0 = .ok (.iload_n 1, 1) := by decide +kernel
theorem dX6_wordAt_1 : decode cX6_wordAt 1 = .ok (.ifCond .lt 21, 3) := by decide +kernel
theorem dX6_wordAt_4 : decode cX6_wordAt 4 = .ok (.iload_n 1, 1) := by decide +kernel
theorem dX6_wordAt_5 : decode cX6_wordAt 5 = .ok (.aload_n 0, 1) := by decide +kernel
theorem dX6_wordAt_6 : decode cX6_wordAt 6 = .ok (.getfield 15, 3) := by decide +kernel
theorem dX6_wordAt_9 : decode cX6_wordAt 9 = .ok (.arraylength, 1) := by decide +kernel
theorem dX6_wordAt_10 : decode cX6_wordAt 10 = .ok (.if_icmp .ge 12, 3) := by decide +kernel
theorem dX6_wordAt_13 : decode cX6_wordAt 13 = .ok (.aload_n 0, 1) := by decide +kernel
theorem dX6_wordAt_14 : decode cX6_wordAt 14 = .ok (.getfield 15, 3) := by decide +kernel
theorem dX6_wordAt_17 : decode cX6_wordAt 17 = .ok (.iload_n 1, 1) := by decide +kernel
theorem dX6_wordAt_18 : decode cX6_wordAt 18 = .ok (.laload, 1) := by decide +kernel
theorem dX6_wordAt_19 : decode cX6_wordAt 19 = .ok (.goto 4, 3) := by decide +kernel
theorem dX6_wordAt_22 : decode cX6_wordAt 22 = .ok (.lconst 0, 1) := by decide +kernel
theorem dX6_wordAt_23 : decode cX6_wordAt 23 = .ok (.lreturn, 1) := by decide +kernel
theorem rX6_wordAt_0 {G : kz_G} {d : Nat} {Qr : Option Value → kz_M → Prop} {Qx : String → kz_M → Prop} {a0 : Nat} {p1 : Int32}  {M : kz_M} (h : (p1 < 0 → Qr (some (.long 0)) M) ∧ (¬ p1 < 0 → ∃ fs1 v2, (M).1 a0 = some (.inl (6, fs1)) ∧ fs1[1]? = some (.ref v2) ∧ (∃ ty3 A4, (M).1 v2 = some (.inr (ty3, A4)) ∧ (((Int32.ofNat A4.1) ≤ p1 → Qr (some (.long 0)) M) ∧ (¬ (Int32.ofNat A4.1) ≤ p1 → ∃ fs5 v6, (M).1 a0 = some (.inl (6, fs5)) ∧ fs5[1]? = some (.ref v6) ∧ (∃ n7 f8, (M).1 v6 = some (.inr (.long, n7, .inr (.inl f8))) ∧ vp_in p1 n7 ∧ (Qr (some (.long (f8 p1.toNatClampNeg))) M))))))) : kz_C G d 0 0 mX6_wordAt [.ref a0, .int p1] M Qr Qx := by
  refine kz_enter (n := 1) kmX6_wordAt.1 (Nat.le_of_ble_eq_true rfl) (ls := [(0, .ref a0), (1, .int p1)]) rfl ?_
  refine kz_iload_n (pc := 0) 1 (i := 1) rfl rfl dX6_wordAt_0 ?_
  refine kz_if_lt (pc := 1) (tgt := 22) (by decide) dX6_wordAt_1 (fun hb => ?_) (fun hb => ?_)
  · replace h := h.1 hb
    refine kz_lconst (pc := 22) (v := 0) (by decide) dX6_wordAt_22 ?_
    exact kz_lret (pc := 23) rfl (Nat.le_refl _) (Nat.le_refl _) dX6_wordAt_23 h
  · replace h := h.2 hb
    refine kz_iload_n (pc := 4) 1 (i := 1) rfl rfl dX6_wordAt_4 ?_
    refine kz_aload_n (pc := 5) 0 (v := .ref a0) (i := 0) rfl rfl rfl dX6_wordAt_5 ?_
    obtain ⟨fs1, v2, hM, hv, h⟩ := h
    refine kz_getf (pc := 6) (k := 1) kcX6 hM hv (by decide) kw_1099 dX6_wordAt_6 ?_
    obtain ⟨ty3, A4, hM, h⟩ := h
    refine kz_alen (pc := 9) hM rfl dX6_wordAt_9 ?_
    refine kz_icmp_ge (pc := 10) (tgt := 22) (by decide) dX6_wordAt_10 (fun hb => ?_) (fun hb => ?_)
    · replace h := h.1 hb
      refine kz_lconst (pc := 22) (v := 0) (by decide) dX6_wordAt_22 ?_
      exact kz_lret (pc := 23) rfl (Nat.le_refl _) (Nat.le_refl _) dX6_wordAt_23 h
    · replace h := h.2 hb
      refine kz_aload_n (pc := 13) 0 (v := .ref a0) (i := 0) rfl rfl rfl dX6_wordAt_13 ?_
      obtain ⟨fs5, v6, hM, hv, h⟩ := h
      refine kz_getf (pc := 14) (k := 1) kcX6 hM hv (by decide) kw_1099 dX6_wordAt_14 ?_
      refine kz_iload_n (pc := 17) 1 (i := 1) rfl rfl dX6_wordAt_17 ?_
      obtain ⟨n7, f8, hM, hi, h⟩ := h
      refine kz_lald (pc := 18) hM hi dX6_wordAt_18 ?_
      refine kz_goto (pc := 19) (tgt := 23) (by decide) dX6_wordAt_19 ?_
      exact kz_lret (pc := 23) rfl (Nat.le_refl _) (Nat.le_refl _) dX6_wordAt_23 h
theorem dX6_isParted_0 : decode cX6_isParted 0 = .ok (.aload_n 0, 1) := by decide +kernel
theorem dX6_isParted_1 : decode cX6_isParted 1 = .ok (.getfield 19, 3) := by decide +kernel
theorem dX6_isParted_4 : decode cX6_isParted 4 = .ok (.iload_n 1, 1) := by decide +kernel
theorem dX6_isParted_5 : decode cX6_isParted 5 = .ok (.invokestatic 55, 3) := by decide +kernel
theorem dX6_isParted_8 : decode cX6_isParted 8 = .ok (.aload_n 0, 1) := by decide +kernel
theorem dX6_isParted_9 : decode cX6_isParted 9 = .ok (.getfield 19, 3) := by decide +kernel
theorem dX6_isParted_12 : decode cX6_isParted 12 = .ok (.iload_n 1, 1) := by decide +kernel
theorem dX6_isParted_13 : decode cX6_isParted 13 = .ok (.iconst 1, 1) := by decide +kernel
theorem dX6_isParted_14 : decode cX6_isParted 14 = .ok (.isub, 1) := by decide +kernel
theorem dX6_isParted_15 : decode cX6_isParted 15 = .ok (.invokestatic 55, 3) := by decide +kernel
theorem dX6_isParted_18 : decode cX6_isParted 18 = .ok (.if_icmp .eq 7, 3) := by decide +kernel
theorem dX6_isParted_21 : decode cX6_isParted 21 = .ok (.iconst 1, 1) := by decide +kernel
theorem dX6_isParted_22 : decode cX6_isParted 22 = .ok (.goto 4, 3) := by decide +kernel
theorem dX6_isParted_25 : decode cX6_isParted 25 = .ok (.iconst 0, 1) := by decide +kernel
theorem dX6_isParted_26 : decode cX6_isParted 26 = .ok (.ireturn, 1) := by decide +kernel
theorem rX6_isParted_0 {G : kz_G} {d : Nat} {Qr : Option Value → kz_M → Prop} {Qx : String → kz_M → Prop} {a0 : Nat} {p1 : Int32}  {M : kz_M} (h : ∃ fs1 v2, (M).1 a0 = some (.inl (6, fs1)) ∧ fs1[2]? = some (.ref v2) ∧ (kz_C G (d + 0) 0 0 mX11_at [.ref v2, .int p1] M (fun v M3 => ∃ r4 : Int32, v = some (.int r4) ∧ (∃ fs6 v7, (M3).1 a0 = some (.inl (6, fs6)) ∧ fs6[2]? = some (.ref v7) ∧ (kz_C G (d + 0) 0 0 mX11_at [.ref v7, .int (p1 - 1)] M3 (fun v M8 => ∃ r9 : Int32, v = some (.int r9) ∧ ((r4 = r9 → Qr (some (.int 0)) M8) ∧ (¬ r4 = r9 → Qr (some (.int 1)) M8))) Qx))) Qx)) : kz_C G (d + 1) 0 0 mX6_isParted [.ref a0, .int p1] M Qr Qx := by
  refine kz_enter (n := 1) kmX6_isParted.1 (Nat.le_of_ble_eq_true rfl) (ls := [(0, .ref a0), (1, .int p1)]) rfl ?_
  refine kz_aload_n (pc := 0) 0 (v := .ref a0) (i := 0) rfl rfl rfl dX6_isParted_0 ?_
  obtain ⟨fs1, v2, hM, hv, h⟩ := h
  refine kz_getf (pc := 1) (k := 2) kcX6 hM hv (by decide) kw_1100 dX6_isParted_1 ?_
  refine kz_iload_n (pc := 4) 1 (i := 1) rfl rfl dX6_isParted_4 ?_
  refine kz_callSN (pc := 5) (μ' := mX11_at) (d' := d + 0) (mc' := 0) (ms' := 0) (As := [.ref v2, .int p1]) (st := []) (c := 0) (sl := 0) kmX11_at kw_1138 (by omega) rfl (Nat.le_of_ble_eq_true rfl) (Nat.le_refl _) (Nat.le_refl _) dX6_isParted_5 (fun E M9 hx => kz_Tout rfl (Nat.le_refl _) (Nat.le_refl _) hx) (kz_Cmono (fun v M3 h => ?_) (fun _ _ h => h) h)
  obtain ⟨r4, rfl, h⟩ := h
  show kz_Z G (d + 1) 0 0 mX6_isParted Qr Qx 8 [(0, .ref a0), (1, .int p1)] [.int r4] M3 0 0
  refine kz_aload_n (pc := 8) 0 (v := .ref a0) (i := 0) rfl rfl rfl dX6_isParted_8 ?_
  obtain ⟨fs6, v7, hM, hv, h⟩ := h
  refine kz_getf (pc := 9) (k := 2) kcX6 hM hv (by decide) kw_1100 dX6_isParted_9 ?_
  refine kz_iload_n (pc := 12) 1 (i := 1) rfl rfl dX6_isParted_12 ?_
  refine kz_iconst (pc := 13) (v := 1) (by decide) dX6_isParted_13 ?_
  refine kz_isub (pc := 14) dX6_isParted_14 ?_
  refine kz_callSN (pc := 15) (μ' := mX11_at) (d' := d + 0) (mc' := 0) (ms' := 0) (As := [.ref v7, .int (p1 - 1)]) (st := [.int r4]) (c := 0) (sl := 0) kmX11_at kw_1138 (by omega) rfl (Nat.le_of_ble_eq_true rfl) (Nat.le_refl _) (Nat.le_refl _) dX6_isParted_15 (fun E M9 hx => kz_Tout rfl (Nat.le_refl _) (Nat.le_refl _) hx) (kz_Cmono (fun v M8 h => ?_) (fun _ _ h => h) h)
  obtain ⟨r9, rfl, h⟩ := h
  show kz_Z G (d + 1) 0 0 mX6_isParted Qr Qx 18 [(0, .ref a0), (1, .int p1)] [.int r9, .int r4] M8 0 0
  refine kz_icmp_eq (pc := 18) (tgt := 25) (by decide) dX6_isParted_18 (fun hb => ?_) (fun hb => ?_)
  · replace h := h.1 hb
    refine kz_iconst (pc := 25) (v := 0) (by decide) dX6_isParted_25 ?_
    exact kz_zret (pc := 26) (ty := .boolean) rfl (by decide) (Nat.le_refl _) (Nat.le_refl _) dX6_isParted_26 h
  · replace h := h.2 hb
    refine kz_iconst (pc := 21) (v := 1) (by decide) dX6_isParted_21 ?_
    refine kz_goto (pc := 22) (tgt := 26) (by decide) dX6_isParted_22 ?_
    exact kz_zret (pc := 26) (ty := .boolean) rfl (by decide) (Nat.le_refl _) (Nat.le_refl _) dX6_isParted_26 h
theorem dX6_times_0 : decode cX6_times 0 = .ok (.iconst 0, 1) := by decide +kernel
theorem dX6_times_1 : decode cX6_times 1 = .ok (.istore 5, 2) := by decide +kernel
theorem dX6_times_3 : decode cX6_times 3 = .ok (.iconst 0, 1) := by decide +kernel
theorem dX6_times_4 : decode cX6_times 4 = .ok (.iload_n 3, 1) := by decide +kernel
theorem dX6_times_5 : decode cX6_times 5 = .ok (.invokestatic 59, 3) := by decide +kernel
theorem dX6_times_8 : decode cX6_times 8 = .ok (.istore 6, 2) := by decide +kernel
theorem dX6_times_10 : decode cX6_times 10 = .ok (.iload 6, 2) := by decide +kernel
theorem dX6_times_12 : decode cX6_times 12 = .ok (.iload 4, 2) := by decide +kernel
theorem dX6_times_14 : decode cX6_times 14 = .ok (.if_icmp .ge 41, 3) := by decide +kernel
theorem dX6_times_17 : decode cX6_times 17 = .ok (.iload 6, 2) := by decide +kernel
theorem dX6_times_19 : decode cX6_times 19 = .ok (.aload_n 0, 1) := by decide +kernel
theorem dX6_times_20 : decode cX6_times 20 = .ok (.getfield 15, 3) := by decide +kernel
theorem dX6_times_23 : decode cX6_times 23 = .ok (.arraylength, 1) := by decide +kernel
theorem dX6_times_24 : decode cX6_times 24 = .ok (.if_icmp .ge 31, 3) := by decide +kernel
theorem dX6_times_27 : decode cX6_times 27 = .ok (.iload 5, 2) := by decide +kernel
theorem dX6_times_29 : decode cX6_times 29 = .ok (.aload_n 0, 1) := by decide +kernel
theorem dX6_times_30 : decode cX6_times 30 = .ok (.getfield 15, 3) := by decide +kernel
theorem dX6_times_33 : decode cX6_times 33 = .ok (.iload 6, 2) := by decide +kernel
theorem dX6_times_35 : decode cX6_times 35 = .ok (.laload, 1) := by decide +kernel
theorem dX6_times_36 : decode cX6_times 36 = .ok (.lload_n 1, 1) := by decide +kernel
theorem dX6_times_37 : decode cX6_times 37 = .ok (.lcmp, 1) := by decide +kernel
theorem dX6_times_38 : decode cX6_times 38 = .ok (.ifCond .ne 7, 3) := by decide +kernel
theorem dX6_times_41 : decode cX6_times 41 = .ok (.iconst 1, 1) := by decide +kernel
theorem dX6_times_42 : decode cX6_times 42 = .ok (.goto 4, 3) := by decide +kernel
theorem dX6_times_45 : decode cX6_times 45 = .ok (.iconst 0, 1) := by decide +kernel
theorem dX6_times_46 : decode cX6_times 46 = .ok (.iadd, 1) := by decide +kernel
theorem dX6_times_47 : decode cX6_times 47 = .ok (.istore 5, 2) := by decide +kernel
theorem dX6_times_49 : decode cX6_times 49 = .ok (.iinc 6 1, 3) := by decide +kernel
theorem dX6_times_52 : decode cX6_times 52 = .ok (.goto (-42), 3) := by decide +kernel
theorem dX6_times_55 : decode cX6_times 55 = .ok (.iload 5, 2) := by decide +kernel
theorem dX6_times_57 : decode cX6_times 57 = .ok (.ireturn, 1) := by decide +kernel
def zX6_times_10 (G : kz_G) (d : Nat) (Qr : Option Value → kz_M → Prop) (Qx : String → kz_M → Prop) (x0 : Nat) (x1 : Int64) (x4 : Int32) (x5 : Int32) (x6 : Int32)  (M : kz_M) : Prop := kz_Z G (d + 1) 0 0 mX6_times Qr Qx 10 [(0, .ref x0), (1, .long x1), (4, .int x4), (5, .int x5), (6, .int x6)] [] M 0 0
theorem rX6_times_0 {G : kz_G} {d : Nat} {Qr : Option Value → kz_M → Prop} {Qx : String → kz_M → Prop} {a0 : Nat} {p1 : Int64} {p3 : Int32} {p4 : Int32}  {M : kz_M} (h : zX6_times_10 G d Qr Qx a0 p1 p4 0 (if 0 < p3 then p3 else 0) M) : kz_C G (d + 1) 0 0 mX6_times [.ref a0, .long p1, .int p3, .int p4] M Qr Qx := by
  refine kz_enter (n := 3) kmX6_times.1 (Nat.le_of_ble_eq_true rfl) (ls := [(0, .ref a0), (1, .long p1), (3, .int p3), (4, .int p4)]) rfl ?_
  refine kz_iconst (pc := 0) (v := 0) (by decide) dX6_times_0 ?_
  refine kz_istore (pc := 1) (i := 5) (ls' := [(0, .ref a0), (1, .long p1), (3, .int p3), (4, .int p4)]) (by decide) rfl dX6_times_1 ?_
  refine kz_iconst (pc := 3) (v := 0) (by decide) dX6_times_3 ?_
  refine kz_iload_n (pc := 4) 3 (i := 3) rfl rfl dX6_times_4 ?_
  refine kz_mmax (pc := 5) kw_907 kw_539 kw_9 kw_540 (by omega) (Nat.le_of_ble_eq_true rfl) (Nat.le_refl _) (Nat.le_refl _) dX6_times_5 ?_
  refine kz_istore (pc := 8) (i := 6) (ls' := [(5, .int 0), (0, .ref a0), (1, .long p1), (3, .int p3), (4, .int p4)]) (by decide) rfl dX6_times_8 ?_
  refine kz_sub [2, 3, 5, 1, 0] rfl ?_
  exact h
theorem rX6_times_10 {G : kz_G} {d : Nat} {Qr : Option Value → kz_M → Prop} {Qx : String → kz_M → Prop} {x0 : Nat} {x1 : Int64} {x4 : Int32} {x5 : Int32} {x6 : Int32}  {M : kz_M} (h : (x4 ≤ x6 → Qr (some (.int x5)) M) ∧ (¬ x4 ≤ x6 → ∃ fs1 v2, (M).1 x0 = some (.inl (6, fs1)) ∧ fs1[1]? = some (.ref v2) ∧ (∃ ty3 A4, (M).1 v2 = some (.inr (ty3, A4)) ∧ (((Int32.ofNat A4.1) ≤ x6 → Qr (some (.int x5)) M) ∧ (¬ (Int32.ofNat A4.1) ≤ x6 → ∃ fs5 v6, (M).1 x0 = some (.inl (6, fs5)) ∧ fs5[1]? = some (.ref v6) ∧ (∃ n7 f8, (M).1 v6 = some (.inr (.long, n7, .inr (.inl f8))) ∧ vp_in x6 n7 ∧ ((¬ (f8 x6.toNatClampNeg) = x1 → zX6_times_10 G d Qr Qx x0 x1 x4 (x5 + 0) (x6 + 1) M) ∧ ((f8 x6.toNatClampNeg) = x1 → zX6_times_10 G d Qr Qx x0 x1 x4 (x5 + 1) (x6 + 1) M)))))))) : zX6_times_10 G d Qr Qx x0 x1 x4 x5 x6  M := by
  show kz_Z G (d + 1) 0 0 mX6_times Qr Qx 10 [(0, .ref x0), (1, .long x1), (4, .int x4), (5, .int x5), (6, .int x6)] [] M 0 0
  refine kz_iload (pc := 10) 4 (i := 6) rfl dX6_times_10 ?_
  refine kz_iload (pc := 12) 2 (i := 4) rfl dX6_times_12 ?_
  refine kz_icmp_ge (pc := 14) (tgt := 55) (by decide) dX6_times_14 (fun hb => ?_) (fun hb => ?_)
  · replace h := h.1 hb
    refine kz_iload (pc := 55) 3 (i := 5) rfl dX6_times_55 ?_
    exact kz_iret (pc := 57) rfl (Nat.le_refl _) (Nat.le_refl _) dX6_times_57 h
  · replace h := h.2 hb
    refine kz_iload (pc := 17) 4 (i := 6) rfl dX6_times_17 ?_
    refine kz_aload_n (pc := 19) 0 (v := .ref x0) (i := 0) rfl rfl rfl dX6_times_19 ?_
    obtain ⟨fs1, v2, hM, hv, h⟩ := h
    refine kz_getf (pc := 20) (k := 1) kcX6 hM hv (by decide) kw_1099 dX6_times_20 ?_
    obtain ⟨ty3, A4, hM, h⟩ := h
    refine kz_alen (pc := 23) hM rfl dX6_times_23 ?_
    refine kz_icmp_ge (pc := 24) (tgt := 55) (by decide) dX6_times_24 (fun hb => ?_) (fun hb => ?_)
    · replace h := h.1 hb
      refine kz_iload (pc := 55) 3 (i := 5) rfl dX6_times_55 ?_
      exact kz_iret (pc := 57) rfl (Nat.le_refl _) (Nat.le_refl _) dX6_times_57 h
    · replace h := h.2 hb
      refine kz_iload (pc := 27) 3 (i := 5) rfl dX6_times_27 ?_
      refine kz_aload_n (pc := 29) 0 (v := .ref x0) (i := 0) rfl rfl rfl dX6_times_29 ?_
      obtain ⟨fs5, v6, hM, hv, h⟩ := h
      refine kz_getf (pc := 30) (k := 1) kcX6 hM hv (by decide) kw_1099 dX6_times_30 ?_
      refine kz_iload (pc := 33) 4 (i := 6) rfl dX6_times_33 ?_
      obtain ⟨n7, f8, hM, hi, h⟩ := h
      refine kz_lald (pc := 35) hM hi dX6_times_35 ?_
      refine kz_lload_n (pc := 36) 1 (i := 1) rfl rfl dX6_times_36 ?_
      refine kz_lcmp_ne (pc := 37) (tgt := 45) (by decide) dX6_times_37 dX6_times_38 (fun hb => ?_) (fun hb => ?_)
      · replace h := h.1 hb
        refine kz_iconst (pc := 45) (v := 0) (by decide) dX6_times_45 ?_
        refine kz_iadd (pc := 46) dX6_times_46 ?_
        refine kz_istore (pc := 47) (i := 5) (ls' := [(0, .ref x0), (1, .long x1), (4, .int x4), (6, .int x6)]) (by decide) rfl dX6_times_47 ?_
        refine kz_iinc (pc := 49) 4 (i := 6) (v := x6 + 1) (ls' := [(5, .int (x5 + 0)), (0, .ref x0), (1, .long x1), (4, .int x4)]) rfl (congrArg (fun z => x6 + z) (by decide)) (by decide) rfl dX6_times_49 ?_
        refine kz_goto (pc := 52) (tgt := 10) (by decide) dX6_times_52 ?_
        refine kz_sub [2, 3, 4, 1, 0] rfl ?_
        exact h
      · replace h := h.2 hb
        refine kz_iconst (pc := 41) (v := 1) (by decide) dX6_times_41 ?_
        refine kz_goto (pc := 42) (tgt := 46) (by decide) dX6_times_42 ?_
        refine kz_iadd (pc := 46) dX6_times_46 ?_
        refine kz_istore (pc := 47) (i := 5) (ls' := [(0, .ref x0), (1, .long x1), (4, .int x4), (6, .int x6)]) (by decide) rfl dX6_times_47 ?_
        refine kz_iinc (pc := 49) 4 (i := 6) (v := x6 + 1) (ls' := [(5, .int (x5 + 1)), (0, .ref x0), (1, .long x1), (4, .int x4)]) rfl (congrArg (fun z => x6 + z) (by decide)) (by decide) rfl dX6_times_49 ?_
        refine kz_goto (pc := 52) (tgt := 10) (by decide) dX6_times_52 ?_
        refine kz_sub [2, 3, 4, 1, 0] rfl ?_
        exact h
theorem dX6_isNewAt_0 : decode cX6_isNewAt 0 = .ok (.aload_n 0, 1) := by decide +kernel
theorem dX6_isNewAt_1 : decode cX6_isNewAt 1 = .ok (.aload_n 0, 1) := by decide +kernel
theorem dX6_isNewAt_2 : decode cX6_isNewAt 2 = .ok (.iload_n 2, 1) := by decide +kernel
theorem dX6_isNewAt_3 : decode cX6_isNewAt 3 = .ok (.invokevirtual 65, 3) := by decide +kernel
theorem dX6_isNewAt_6 : decode cX6_isNewAt 6 = .ok (.iload_n 1, 1) := by decide +kernel
theorem dX6_isNewAt_7 : decode cX6_isNewAt 7 = .ok (.iload_n 2, 1) := by decide +kernel
theorem dX6_isNewAt_8 : decode cX6_isNewAt 8 = .ok (.invokevirtual 69, 3) := by decide +kernel
theorem dX6_isNewAt_11 : decode cX6_isNewAt 11 = .ok (.ifCond .ne 7, 3) := by decide +kernel
theorem dX6_isNewAt_14 : decode cX6_isNewAt 14 = .ok (.iconst 1, 1) := by decide +kernel
theorem dX6_isNewAt_15 : decode cX6_isNewAt 15 = .ok (.goto 4, 3) := by decide +kernel
theorem dX6_isNewAt_18 : decode cX6_isNewAt 18 = .ok (.iconst 0, 1) := by decide +kernel
theorem dX6_isNewAt_19 : decode cX6_isNewAt 19 = .ok (.ireturn, 1) := by decide +kernel
theorem rX6_isNewAt_0 {G : kz_G} {d : Nat} {Qr : Option Value → kz_M → Prop} {Qx : String → kz_M → Prop} {a0 : Nat} {p1 : Int32} {p2 : Int32}  {M : kz_M} (h : (∃ fs8, (M).1 a0 = some (.inl (6, fs8))) ∧ kz_C G (d + 1) 0 0 mX6_wordAt [.ref a0, .int p2] M (fun v M1 => ∃ r2 : Int64, v = some (.long r2) ∧ ((∃ fs7, (M1).1 a0 = some (.inl (6, fs7))) ∧ kz_C G (d + 1) 0 0 mX6_times [.ref a0, .long r2, .int p1, .int p2] M1 (fun v M4 => ∃ r5 : Int32, v = some (.int r5) ∧ ((¬ r5 = 0 → Qr (some (.int 0)) M4) ∧ (r5 = 0 → Qr (some (.int 1)) M4))) Qx)) Qx) : kz_C G (d + 2) 0 0 mX6_isNewAt [.ref a0, .int p1, .int p2] M Qr Qx := by
  refine kz_enter (n := 2) kmX6_isNewAt.1 (Nat.le_of_ble_eq_true rfl) (ls := [(0, .ref a0), (1, .int p1), (2, .int p2)]) rfl ?_
  refine kz_aload_n (pc := 0) 0 (v := .ref a0) (i := 0) rfl rfl rfl dX6_isNewAt_0 ?_
  refine kz_aload_n (pc := 1) 0 (v := .ref a0) (i := 0) rfl rfl rfl dX6_isNewAt_1 ?_
  refine kz_iload_n (pc := 2) 2 (i := 2) rfl rfl dX6_isNewAt_2 ?_
  obtain ⟨⟨fs8, he⟩, h⟩ := h
  refine kz_callV (pc := 3) (μ' := mX6_wordAt) (ci := 6) (q := (RX6, TX6, 3)) (b := a0) (d' := d + 1) (mc' := 0) (ms' := 0) (As := [.int p2]) (st := [.ref a0]) (c := 0) (sl := 0) kmX6_wordAt kw_902 (by omega) rfl (Nat.le_of_ble_eq_true rfl) he rfl rfl (Nat.le_refl _) (Nat.le_refl _) dX6_isNewAt_3 (fun E M9 hx => kz_Tout rfl (Nat.le_refl _) (Nat.le_refl _) hx) (kz_Cmono (fun v M1 h => ?_) (fun _ _ h => h) h)
  obtain ⟨r2, rfl, h⟩ := h
  show kz_Z G (d + 2) 0 0 mX6_isNewAt Qr Qx 6 [(0, .ref a0), (1, .int p1), (2, .int p2)] [.long r2, .ref a0] M1 0 0
  refine kz_iload_n (pc := 6) 1 (i := 1) rfl rfl dX6_isNewAt_6 ?_
  refine kz_iload_n (pc := 7) 2 (i := 2) rfl rfl dX6_isNewAt_7 ?_
  obtain ⟨⟨fs7, he⟩, h⟩ := h
  refine kz_callV (pc := 8) (μ' := mX6_times) (ci := 6) (q := (RX6, TX6, 3)) (b := a0) (d' := d + 1) (mc' := 0) (ms' := 0) (As := [.long r2, .int p1, .int p2]) (st := []) (c := 0) (sl := 0) kmX6_times kw_903 (by omega) rfl (Nat.le_of_ble_eq_true rfl) he rfl rfl (Nat.le_refl _) (Nat.le_refl _) dX6_isNewAt_8 (fun E M9 hx => kz_Tout rfl (Nat.le_refl _) (Nat.le_refl _) hx) (kz_Cmono (fun v M4 h => ?_) (fun _ _ h => h) h)
  obtain ⟨r5, rfl, h⟩ := h
  show kz_Z G (d + 2) 0 0 mX6_isNewAt Qr Qx 11 [(0, .ref a0), (1, .int p1), (2, .int p2)] [.int r5] M4 0 0
  refine kz_if_ne (pc := 11) (tgt := 18) (by decide) dX6_isNewAt_11 (fun hb => ?_) (fun hb => ?_)
  · replace h := h.1 hb
    refine kz_iconst (pc := 18) (v := 0) (by decide) dX6_isNewAt_18 ?_
    exact kz_zret (pc := 19) (ty := .boolean) rfl (by decide) (Nat.le_refl _) (Nat.le_refl _) dX6_isNewAt_19 h
  · replace h := h.2 hb
    refine kz_iconst (pc := 14) (v := 1) (by decide) dX6_isNewAt_14 ?_
    refine kz_goto (pc := 15) (tgt := 19) (by decide) dX6_isNewAt_15 ?_
    exact kz_zret (pc := 19) (ty := .boolean) rfl (by decide) (Nat.le_refl _) (Nat.le_refl _) dX6_isNewAt_19 h
theorem dX6_differentBetween_0 : decode cX6_differentBetween 0 = .ok (.iconst 0, 1) := by decide +kernel
theorem dX6_differentBetween_1 : decode cX6_differentBetween 1 = .ok (.istore_n 3, 1) := by decide +kernel
theorem dX6_differentBetween_2 : decode cX6_differentBetween 2 = .ok (.iload_n 1, 1) := by decide +kernel
theorem dX6_differentBetween_3 : decode cX6_differentBetween 3 = .ok (.istore 4, 2) := by decide +kernel
theorem dX6_differentBetween_5 : decode cX6_differentBetween 5 = .ok (.iload 4, 2) := by decide +kernel
theorem dX6_differentBetween_7 : decode cX6_differentBetween 7 = .ok (.iload_n 2, 1) := by decide +kernel
theorem dX6_differentBetween_8 : decode cX6_differentBetween 8 = .ok (.if_icmp .ge 27, 3) := by decide +kernel
theorem dX6_differentBetween_11 : decode cX6_differentBetween 11 = .ok (.iload_n 3, 1) := by decide +kernel
theorem dX6_differentBetween_12 : decode cX6_differentBetween 12 = .ok (.aload_n 0, 1) := by decide +kernel
theorem dX6_differentBetween_13 : decode cX6_differentBetween 13 = .ok (.iload_n 1, 1) := by decide +kernel
theorem dX6_differentBetween_14 : decode cX6_differentBetween 14 = .ok (.iload 4, 2) := by decide +kernel
theorem dX6_differentBetween_16 : decode cX6_differentBetween 16 = .ok (.invokevirtual 73, 3) := by decide +kernel
theorem dX6_differentBetween_19 : decode cX6_differentBetween 19 = .ok (.ifCond .eq 7, 3) := by decide +kernel
theorem dX6_differentBetween_22 : decode cX6_differentBetween 22 = .ok (.iconst 1, 1) := by decide +kernel
theorem dX6_differentBetween_23 : decode cX6_differentBetween 23 = .ok (.goto 4, 3) := by decide +kernel
theorem dX6_differentBetween_26 : decode cX6_differentBetween 26 = .ok (.iconst 0, 1) := by decide +kernel
theorem dX6_differentBetween_27 : decode cX6_differentBetween 27 = .ok (.iadd, 1) := by decide +kernel
theorem dX6_differentBetween_28 : decode cX6_differentBetween 28 = .ok (.istore_n 3, 1) := by decide +kernel
theorem dX6_differentBetween_29 : decode cX6_differentBetween 29 = .ok (.iinc 4 1, 3) := by decide +kernel
theorem dX6_differentBetween_32 : decode cX6_differentBetween 32 = .ok (.goto (-27), 3) := by decide +kernel
theorem dX6_differentBetween_35 : decode cX6_differentBetween 35 = .ok (.iload_n 3, 1) := by decide +kernel
theorem dX6_differentBetween_36 : decode cX6_differentBetween 36 = .ok (.ireturn, 1) := by decide +kernel
def zX6_differentBetween_5 (G : kz_G) (d : Nat) (Qr : Option Value → kz_M → Prop) (Qx : String → kz_M → Prop) (x0 : Nat) (x1 : Int32) (x2 : Int32) (x3 : Int32) (x4 : Int32)  (M : kz_M) : Prop := kz_Z G (d + 3) 0 0 mX6_differentBetween Qr Qx 5 [(0, .ref x0), (1, .int x1), (2, .int x2), (3, .int x3), (4, .int x4)] [] M 0 0
theorem rX6_differentBetween_0 {G : kz_G} {d : Nat} {Qr : Option Value → kz_M → Prop} {Qx : String → kz_M → Prop} {a0 : Nat} {p1 : Int32} {p2 : Int32}  {M : kz_M} (h : zX6_differentBetween_5 G d Qr Qx a0 p1 p2 0 p1 M) : kz_C G (d + 3) 0 0 mX6_differentBetween [.ref a0, .int p1, .int p2] M Qr Qx := by
  refine kz_enter (n := 2) kmX6_differentBetween.1 (Nat.le_of_ble_eq_true rfl) (ls := [(0, .ref a0), (1, .int p1), (2, .int p2)]) rfl ?_
  refine kz_iconst (pc := 0) (v := 0) (by decide) dX6_differentBetween_0 ?_
  refine kz_istore_n (pc := 1) (i := 3) (ls' := [(0, .ref a0), (1, .int p1), (2, .int p2)]) rfl (by decide) rfl dX6_differentBetween_1 ?_
  refine kz_iload_n (pc := 2) 2 (i := 1) rfl rfl dX6_differentBetween_2 ?_
  refine kz_istore (pc := 3) (i := 4) (ls' := [(3, .int 0), (0, .ref a0), (1, .int p1), (2, .int p2)]) (by decide) rfl dX6_differentBetween_3 ?_
  refine kz_sub [2, 3, 4, 1, 0] rfl ?_
  exact h
theorem rX6_differentBetween_5 {G : kz_G} {d : Nat} {Qr : Option Value → kz_M → Prop} {Qx : String → kz_M → Prop} {x0 : Nat} {x1 : Int32} {x2 : Int32} {x3 : Int32} {x4 : Int32}  {M : kz_M} (h : (x2 ≤ x4 → Qr (some (.int x3)) M) ∧ (¬ x2 ≤ x4 → (∃ fs4, (M).1 x0 = some (.inl (6, fs4))) ∧ kz_C G (d + 2) 0 0 mX6_isNewAt [.ref x0, .int x1, .int x4] M (fun v M1 => ∃ r2 : Int32, v = some (.int r2) ∧ ((r2 = 0 → zX6_differentBetween_5 G d Qr Qx x0 x1 x2 (x3 + 0) (x4 + 1) M1) ∧ (¬ r2 = 0 → zX6_differentBetween_5 G d Qr Qx x0 x1 x2 (x3 + 1) (x4 + 1) M1))) Qx)) : zX6_differentBetween_5 G d Qr Qx x0 x1 x2 x3 x4  M := by
  show kz_Z G (d + 3) 0 0 mX6_differentBetween Qr Qx 5 [(0, .ref x0), (1, .int x1), (2, .int x2), (3, .int x3), (4, .int x4)] [] M 0 0
  refine kz_iload (pc := 5) 4 (i := 4) rfl dX6_differentBetween_5 ?_
  refine kz_iload_n (pc := 7) 2 (i := 2) rfl rfl dX6_differentBetween_7 ?_
  refine kz_icmp_ge (pc := 8) (tgt := 35) (by decide) dX6_differentBetween_8 (fun hb => ?_) (fun hb => ?_)
  · replace h := h.1 hb
    refine kz_iload_n (pc := 35) 3 (i := 3) rfl rfl dX6_differentBetween_35 ?_
    exact kz_iret (pc := 36) rfl (Nat.le_refl _) (Nat.le_refl _) dX6_differentBetween_36 h
  · replace h := h.2 hb
    refine kz_iload_n (pc := 11) 3 (i := 3) rfl rfl dX6_differentBetween_11 ?_
    refine kz_aload_n (pc := 12) 0 (v := .ref x0) (i := 0) rfl rfl rfl dX6_differentBetween_12 ?_
    refine kz_iload_n (pc := 13) 1 (i := 1) rfl rfl dX6_differentBetween_13 ?_
    refine kz_iload (pc := 14) 4 (i := 4) rfl dX6_differentBetween_14 ?_
    obtain ⟨⟨fs4, he⟩, h⟩ := h
    refine kz_callV (pc := 16) (μ' := mX6_isNewAt) (ci := 6) (q := (RX6, TX6, 3)) (b := x0) (d' := d + 2) (mc' := 0) (ms' := 0) (As := [.int x1, .int x4]) (st := [.int x3]) (c := 0) (sl := 0) kmX6_isNewAt kw_976 (by omega) rfl (Nat.le_of_ble_eq_true rfl) he rfl rfl (Nat.le_refl _) (Nat.le_refl _) dX6_differentBetween_16 (fun E M9 hx => kz_Tout rfl (Nat.le_refl _) (Nat.le_refl _) hx) (kz_Cmono (fun v M1 h => ?_) (fun _ _ h => h) h)
    obtain ⟨r2, rfl, h⟩ := h
    show kz_Z G (d + 3) 0 0 mX6_differentBetween Qr Qx 19 [(0, .ref x0), (1, .int x1), (2, .int x2), (3, .int x3), (4, .int x4)] [.int r2, .int x3] M1 0 0
    refine kz_if_eq (pc := 19) (tgt := 26) (by decide) dX6_differentBetween_19 (fun hb => ?_) (fun hb => ?_)
    · replace h := h.1 hb
      refine kz_iconst (pc := 26) (v := 0) (by decide) dX6_differentBetween_26 ?_
      refine kz_iadd (pc := 27) dX6_differentBetween_27 ?_
      refine kz_istore_n (pc := 28) (i := 3) (ls' := [(0, .ref x0), (1, .int x1), (2, .int x2), (4, .int x4)]) rfl (by decide) rfl dX6_differentBetween_28 ?_
      refine kz_iinc (pc := 29) 4 (i := 4) (v := x4 + 1) (ls' := [(3, .int (x3 + 0)), (0, .ref x0), (1, .int x1), (2, .int x2)]) rfl (congrArg (fun z => x4 + z) (by decide)) (by decide) rfl dX6_differentBetween_29 ?_
      refine kz_goto (pc := 32) (tgt := 5) (by decide) dX6_differentBetween_32 ?_
      refine kz_sub [2, 3, 4, 1, 0] rfl ?_
      exact h
    · replace h := h.2 hb
      refine kz_iconst (pc := 22) (v := 1) (by decide) dX6_differentBetween_22 ?_
      refine kz_goto (pc := 23) (tgt := 27) (by decide) dX6_differentBetween_23 ?_
      refine kz_iadd (pc := 27) dX6_differentBetween_27 ?_
      refine kz_istore_n (pc := 28) (i := 3) (ls' := [(0, .ref x0), (1, .int x1), (2, .int x2), (4, .int x4)]) rfl (by decide) rfl dX6_differentBetween_28 ?_
      refine kz_iinc (pc := 29) 4 (i := 4) (v := x4 + 1) (ls' := [(3, .int (x3 + 1)), (0, .ref x0), (1, .int x1), (2, .int x2)]) rfl (congrArg (fun z => x4 + z) (by decide)) (by decide) rfl dX6_differentBetween_29 ?_
      refine kz_goto (pc := 32) (tgt := 5) (by decide) dX6_differentBetween_32 ?_
      refine kz_sub [2, 3, 4, 1, 0] rfl ?_
      exact h
theorem dX6_widthBetween_0 : decode cX6_widthBetween 0 = .ok (.iconst 0, 1) := by decide +kernel
theorem dX6_widthBetween_1 : decode cX6_widthBetween 1 = .ok (.iload_n 2, 1) := by decide +kernel
theorem dX6_widthBetween_2 : decode cX6_widthBetween 2 = .ok (.iload_n 1, 1) := by decide +kernel
theorem dX6_widthBetween_3 : decode cX6_widthBetween 3 = .ok (.isub, 1) := by decide +kernel
theorem dX6_widthBetween_4 : decode cX6_widthBetween 4 = .ok (.iconst 1, 1) := by decide +kernel
theorem dX6_widthBetween_5 : decode cX6_widthBetween 5 = .ok (.isub, 1) := by decide +kernel
theorem dX6_widthBetween_6 : decode cX6_widthBetween 6 = .ok (.invokestatic 59, 3) := by decide +kernel
theorem dX6_widthBetween_9 : decode cX6_widthBetween 9 = .ok (.istore_n 3, 1) := by decide +kernel
theorem dX6_widthBetween_10 : decode cX6_widthBetween 10 = .ok (.iload_n 1, 1) := by decide +kernel
theorem dX6_widthBetween_11 : decode cX6_widthBetween 11 = .ok (.istore 4, 2) := by decide +kernel
theorem dX6_widthBetween_13 : decode cX6_widthBetween 13 = .ok (.iload 4, 2) := by decide +kernel
theorem dX6_widthBetween_15 : decode cX6_widthBetween 15 = .ok (.iload_n 2, 1) := by decide +kernel
theorem dX6_widthBetween_16 : decode cX6_widthBetween 16 = .ok (.if_icmp .ge 21, 3) := by decide +kernel
theorem dX6_widthBetween_19 : decode cX6_widthBetween 19 = .ok (.iload_n 3, 1) := by decide +kernel
theorem dX6_widthBetween_20 : decode cX6_widthBetween 20 = .ok (.aload_n 0, 1) := by decide +kernel
theorem dX6_widthBetween_21 : decode cX6_widthBetween 21 = .ok (.iload 4, 2) := by decide +kernel
theorem dX6_widthBetween_23 : decode cX6_widthBetween 23 = .ok (.invokevirtual 65, 3) := by decide +kernel
theorem dX6_widthBetween_26 : decode cX6_widthBetween 26 = .ok (.invokestatic 77, 3) := by decide +kernel
theorem dX6_widthBetween_29 : decode cX6_widthBetween 29 = .ok (.iadd, 1) := by decide +kernel
theorem dX6_widthBetween_30 : decode cX6_widthBetween 30 = .ok (.istore_n 3, 1) := by decide +kernel
theorem dX6_widthBetween_31 : decode cX6_widthBetween 31 = .ok (.iinc 4 1, 3) := by decide +kernel
theorem dX6_widthBetween_34 : decode cX6_widthBetween 34 = .ok (.goto (-21), 3) := by decide +kernel
theorem dX6_widthBetween_37 : decode cX6_widthBetween 37 = .ok (.iload_n 3, 1) := by decide +kernel
theorem dX6_widthBetween_38 : decode cX6_widthBetween 38 = .ok (.ireturn, 1) := by decide +kernel
def zX6_widthBetween_13 (G : kz_G) (d : Nat) (Qr : Option Value → kz_M → Prop) (Qx : String → kz_M → Prop) (x0 : Nat) (x2 : Int32) (x3 : Int32) (x4 : Int32)  (M : kz_M) : Prop := kz_Z G (d + 1) 0 0 mX6_widthBetween Qr Qx 13 [(0, .ref x0), (2, .int x2), (3, .int x3), (4, .int x4)] [] M 0 0
theorem rX6_widthBetween_0 {G : kz_G} {d : Nat} {Qr : Option Value → kz_M → Prop} {Qx : String → kz_M → Prop} {a0 : Nat} {p1 : Int32} {p2 : Int32}  {M : kz_M} (h : zX6_widthBetween_13 G d Qr Qx a0 p2 (if 0 < ((p2 - p1) - 1) then ((p2 - p1) - 1) else 0) p1 M) : kz_C G (d + 1) 0 0 mX6_widthBetween [.ref a0, .int p1, .int p2] M Qr Qx := by
  refine kz_enter (n := 2) kmX6_widthBetween.1 (Nat.le_of_ble_eq_true rfl) (ls := [(0, .ref a0), (1, .int p1), (2, .int p2)]) rfl ?_
  refine kz_iconst (pc := 0) (v := 0) (by decide) dX6_widthBetween_0 ?_
  refine kz_iload_n (pc := 1) 2 (i := 2) rfl rfl dX6_widthBetween_1 ?_
  refine kz_iload_n (pc := 2) 1 (i := 1) rfl rfl dX6_widthBetween_2 ?_
  refine kz_isub (pc := 3) dX6_widthBetween_3 ?_
  refine kz_iconst (pc := 4) (v := 1) (by decide) dX6_widthBetween_4 ?_
  refine kz_isub (pc := 5) dX6_widthBetween_5 ?_
  refine kz_mmax (pc := 6) kw_907 kw_539 kw_9 kw_540 (by omega) (Nat.le_of_ble_eq_true rfl) (Nat.le_refl _) (Nat.le_refl _) dX6_widthBetween_6 ?_
  refine kz_istore_n (pc := 9) (i := 3) (ls' := [(0, .ref a0), (1, .int p1), (2, .int p2)]) rfl (by decide) rfl dX6_widthBetween_9 ?_
  refine kz_iload_n (pc := 10) 2 (i := 1) rfl rfl dX6_widthBetween_10 ?_
  refine kz_istore (pc := 11) (i := 4) (ls' := [(3, .int (if 0 < ((p2 - p1) - 1) then ((p2 - p1) - 1) else 0)), (0, .ref a0), (1, .int p1), (2, .int p2)]) (by decide) rfl dX6_widthBetween_11 ?_
  refine kz_sub [2, 4, 1, 0] rfl ?_
  exact h
theorem rX6_widthBetween_13 {G : kz_G} {d : Nat} {Qr : Option Value → kz_M → Prop} {Qx : String → kz_M → Prop} {x0 : Nat} {x2 : Int32} {x3 : Int32} {x4 : Int32}  {M : kz_M} (h : (x2 ≤ x4 → Qr (some (.int x3)) M) ∧ (¬ x2 ≤ x4 → (∃ fs8, (M).1 x0 = some (.inl (6, fs8))) ∧ kz_C G (d + 0) 0 0 mX6_wordAt [.ref x0, .int x4] M (fun v M1 => ∃ r2 : Int64, v = some (.long r2) ∧ (kz_C G (d + 0) 0 0 mX11_lengthOf [.long r2] M1 (fun v M4 => ∃ r5 : Int32, v = some (.int r5) ∧ (zX6_widthBetween_13 G d Qr Qx x0 x2 (x3 + r5) (x4 + 1) M4)) Qx)) Qx)) : zX6_widthBetween_13 G d Qr Qx x0 x2 x3 x4  M := by
  show kz_Z G (d + 1) 0 0 mX6_widthBetween Qr Qx 13 [(0, .ref x0), (2, .int x2), (3, .int x3), (4, .int x4)] [] M 0 0
  refine kz_iload (pc := 13) 3 (i := 4) rfl dX6_widthBetween_13 ?_
  refine kz_iload_n (pc := 15) 1 (i := 2) rfl rfl dX6_widthBetween_15 ?_
  refine kz_icmp_ge (pc := 16) (tgt := 37) (by decide) dX6_widthBetween_16 (fun hb => ?_) (fun hb => ?_)
  · replace h := h.1 hb
    refine kz_iload_n (pc := 37) 2 (i := 3) rfl rfl dX6_widthBetween_37 ?_
    exact kz_iret (pc := 38) rfl (Nat.le_refl _) (Nat.le_refl _) dX6_widthBetween_38 h
  · replace h := h.2 hb
    refine kz_iload_n (pc := 19) 2 (i := 3) rfl rfl dX6_widthBetween_19 ?_
    refine kz_aload_n (pc := 20) 0 (v := .ref x0) (i := 0) rfl rfl rfl dX6_widthBetween_20 ?_
    refine kz_iload (pc := 21) 3 (i := 4) rfl dX6_widthBetween_21 ?_
    obtain ⟨⟨fs8, he⟩, h⟩ := h
    refine kz_callV (pc := 23) (μ' := mX6_wordAt) (ci := 6) (q := (RX6, TX6, 3)) (b := x0) (d' := d + 0) (mc' := 0) (ms' := 0) (As := [.int x4]) (st := [.int x3]) (c := 0) (sl := 0) kmX6_wordAt kw_902 (by omega) rfl (Nat.le_of_ble_eq_true rfl) he rfl rfl (Nat.le_refl _) (Nat.le_refl _) dX6_widthBetween_23 (fun E M9 hx => kz_Tout rfl (Nat.le_refl _) (Nat.le_refl _) hx) (kz_Cmono (fun v M1 h => ?_) (fun _ _ h => h) h)
    obtain ⟨r2, rfl, h⟩ := h
    show kz_Z G (d + 1) 0 0 mX6_widthBetween Qr Qx 26 [(0, .ref x0), (2, .int x2), (3, .int x3), (4, .int x4)] [.long r2, .int x3] M1 0 0
    refine kz_callSN (pc := 26) (μ' := mX11_lengthOf) (d' := d + 0) (mc' := 0) (ms' := 0) (As := [.long r2]) (st := [.int x3]) (c := 0) (sl := 0) kmX11_lengthOf kw_1133 (by omega) rfl (Nat.le_of_ble_eq_true rfl) (Nat.le_refl _) (Nat.le_refl _) dX6_widthBetween_26 (fun E M9 hx => kz_Tout rfl (Nat.le_refl _) (Nat.le_refl _) hx) (kz_Cmono (fun v M4 h => ?_) (fun _ _ h => h) h)
    obtain ⟨r5, rfl, h⟩ := h
    show kz_Z G (d + 1) 0 0 mX6_widthBetween Qr Qx 29 [(0, .ref x0), (2, .int x2), (3, .int x3), (4, .int x4)] [.int r5, .int x3] M4 0 0
    refine kz_iadd (pc := 29) dX6_widthBetween_29 ?_
    refine kz_istore_n (pc := 30) (i := 3) (ls' := [(0, .ref x0), (2, .int x2), (4, .int x4)]) rfl (by decide) rfl dX6_widthBetween_30 ?_
    refine kz_iinc (pc := 31) 3 (i := 4) (v := x4 + 1) (ls' := [(3, .int (x3 + r5)), (0, .ref x0), (2, .int x2)]) rfl (congrArg (fun z => x4 + z) (by decide)) (by decide) rfl dX6_widthBetween_31 ?_
    refine kz_goto (pc := 34) (tgt := 13) (by decide) dX6_widthBetween_34 ?_
    refine kz_sub [2, 3, 1, 0] rfl ?_
    exact h
theorem dX6_lineEnd_0 : decode cX6_lineEnd 0 = .ok (.iload_n 1, 1) := by decide +kernel
theorem dX6_lineEnd_1 : decode cX6_lineEnd 1 = .ok (.iconst 1, 1) := by decide +kernel
theorem dX6_lineEnd_2 : decode cX6_lineEnd 2 = .ok (.iadd, 1) := by decide +kernel
theorem dX6_lineEnd_3 : decode cX6_lineEnd 3 = .ok (.istore_n 3, 1) := by decide +kernel
theorem dX6_lineEnd_4 : decode cX6_lineEnd 4 = .ok (.aload_n 0, 1) := by decide +kernel
theorem dX6_lineEnd_5 : decode cX6_lineEnd 5 = .ok (.getfield 9, 3) := by decide +kernel
theorem dX6_lineEnd_8 : decode cX6_lineEnd 8 = .ok (.iconst 2, 1) := by decide +kernel
theorem dX6_lineEnd_9 : decode cX6_lineEnd 9 = .ok (.if_icmp .ne 5, 3) := by decide +kernel
theorem dX6_lineEnd_12 : decode cX6_lineEnd 12 = .ok (.iload_n 3, 1) := by decide +kernel
theorem dX6_lineEnd_13 : decode cX6_lineEnd 13 = .ok (.ireturn, 1) := by decide +kernel
theorem dX6_lineEnd_14 : decode cX6_lineEnd 14 = .ok (.aload_n 0, 1) := by decide +kernel
theorem dX6_lineEnd_15 : decode cX6_lineEnd 15 = .ok (.iload_n 1, 1) := by decide +kernel
theorem dX6_lineEnd_16 : decode cX6_lineEnd 16 = .ok (.invokevirtual 65, 3) := by decide +kernel
theorem dX6_lineEnd_19 : decode cX6_lineEnd 19 = .ok (.invokestatic 77, 3) := by decide +kernel
theorem dX6_lineEnd_22 : decode cX6_lineEnd 22 = .ok (.istore 4, 2) := by decide +kernel
theorem dX6_lineEnd_24 : decode cX6_lineEnd 24 = .ok (.iload_n 3, 1) := by decide +kernel
theorem dX6_lineEnd_25 : decode cX6_lineEnd 25 = .ok (.aload_n 0, 1) := by decide +kernel
theorem dX6_lineEnd_26 : decode cX6_lineEnd 26 = .ok (.getfield 15, 3) := by decide +kernel
theorem dX6_lineEnd_29 : decode cX6_lineEnd 29 = .ok (.arraylength, 1) := by decide +kernel
theorem dX6_lineEnd_30 : decode cX6_lineEnd 30 = .ok (.if_icmp .ge 49, 3) := by decide +kernel
theorem dX6_lineEnd_33 : decode cX6_lineEnd 33 = .ok (.aload_n 0, 1) := by decide +kernel
theorem dX6_lineEnd_34 : decode cX6_lineEnd 34 = .ok (.iload_n 3, 1) := by decide +kernel
theorem dX6_lineEnd_35 : decode cX6_lineEnd 35 = .ok (.invokevirtual 81, 3) := by decide +kernel
theorem dX6_lineEnd_38 : decode cX6_lineEnd 38 = .ok (.ifCond .ne 41, 3) := by decide +kernel
theorem dX6_lineEnd_41 : decode cX6_lineEnd 41 = .ok (.iload 4, 2) := by decide +kernel
theorem dX6_lineEnd_43 : decode cX6_lineEnd 43 = .ok (.iconst 1, 1) := by decide +kernel
theorem dX6_lineEnd_44 : decode cX6_lineEnd 44 = .ok (.iadd, 1) := by decide +kernel
theorem dX6_lineEnd_45 : decode cX6_lineEnd 45 = .ok (.aload_n 0, 1) := by decide +kernel
theorem dX6_lineEnd_46 : decode cX6_lineEnd 46 = .ok (.iload_n 3, 1) := by decide +kernel
theorem dX6_lineEnd_47 : decode cX6_lineEnd 47 = .ok (.invokevirtual 65, 3) := by decide +kernel
theorem dX6_lineEnd_50 : decode cX6_lineEnd 50 = .ok (.invokestatic 77, 3) := by decide +kernel
theorem dX6_lineEnd_53 : decode cX6_lineEnd 53 = .ok (.iadd, 1) := by decide +kernel
theorem dX6_lineEnd_54 : decode cX6_lineEnd 54 = .ok (.iload_n 2, 1) := by decide +kernel
theorem dX6_lineEnd_55 : decode cX6_lineEnd 55 = .ok (.if_icmp .gt 24, 3) := by decide +kernel
theorem dX6_lineEnd_58 : decode cX6_lineEnd 58 = .ok (.iload 4, 2) := by decide +kernel
theorem dX6_lineEnd_60 : decode cX6_lineEnd 60 = .ok (.iconst 1, 1) := by decide +kernel
theorem dX6_lineEnd_61 : decode cX6_lineEnd 61 = .ok (.aload_n 0, 1) := by decide +kernel
theorem dX6_lineEnd_62 : decode cX6_lineEnd 62 = .ok (.iload_n 3, 1) := by decide +kernel
theorem dX6_lineEnd_63 : decode cX6_lineEnd 63 = .ok (.invokevirtual 65, 3) := by decide +kernel
theorem dX6_lineEnd_66 : decode cX6_lineEnd 66 = .ok (.invokestatic 77, 3) := by decide +kernel
theorem dX6_lineEnd_69 : decode cX6_lineEnd 69 = .ok (.iadd, 1) := by decide +kernel
theorem dX6_lineEnd_70 : decode cX6_lineEnd 70 = .ok (.iadd, 1) := by decide +kernel
theorem dX6_lineEnd_71 : decode cX6_lineEnd 71 = .ok (.istore 4, 2) := by decide +kernel
theorem dX6_lineEnd_73 : decode cX6_lineEnd 73 = .ok (.iinc 3 1, 3) := by decide +kernel
theorem dX6_lineEnd_76 : decode cX6_lineEnd 76 = .ok (.goto (-52), 3) := by decide +kernel
theorem dX6_lineEnd_79 : decode cX6_lineEnd 79 = .ok (.iload_n 3, 1) := by decide +kernel
theorem dX6_lineEnd_80 : decode cX6_lineEnd 80 = .ok (.ireturn, 1) := by decide +kernel
def zX6_lineEnd_24 (G : kz_G) (d : Nat) (Qr : Option Value → kz_M → Prop) (Qx : String → kz_M → Prop) (x0 : Nat) (x2 : Int32) (x3 : Int32) (x4 : Int32)  (M : kz_M) : Prop := kz_Z G (d + 2) 0 0 mX6_lineEnd Qr Qx 24 [(0, .ref x0), (2, .int x2), (3, .int x3), (4, .int x4)] [] M 0 0
theorem rX6_lineEnd_0 {G : kz_G} {d : Nat} {Qr : Option Value → kz_M → Prop} {Qx : String → kz_M → Prop} {a0 : Nat} {p1 : Int32} {p2 : Int32}  {M : kz_M} (h : ∃ fs1 v2, (M).1 a0 = some (.inl (6, fs1)) ∧ fs1[0]? = some (.int v2) ∧ ((¬ v2 = (2 : Int32) → (∃ fs10, (M).1 a0 = some (.inl (6, fs10))) ∧ kz_C G (d + 1) 0 0 mX6_wordAt [.ref a0, .int p1] M (fun v M3 => ∃ r4 : Int64, v = some (.long r4) ∧ (kz_C G (d + 1) 0 0 mX11_lengthOf [.long r4] M3 (fun v M6 => ∃ r7 : Int32, v = some (.int r7) ∧ (zX6_lineEnd_24 G d Qr Qx a0 p2 (p1 + 1) r7 M6)) Qx)) Qx) ∧ (v2 = (2 : Int32) → Qr (some (.int (p1 + 1))) M))) : kz_C G (d + 2) 0 0 mX6_lineEnd [.ref a0, .int p1, .int p2] M Qr Qx := by
  refine kz_enter (n := 2) kmX6_lineEnd.1 (Nat.le_of_ble_eq_true rfl) (ls := [(0, .ref a0), (1, .int p1), (2, .int p2)]) rfl ?_
  refine kz_iload_n (pc := 0) 1 (i := 1) rfl rfl dX6_lineEnd_0 ?_
  refine kz_iconst (pc := 1) (v := 1) (by decide) dX6_lineEnd_1 ?_
  refine kz_iadd (pc := 2) dX6_lineEnd_2 ?_
  refine kz_istore_n (pc := 3) (i := 3) (ls' := [(0, .ref a0), (1, .int p1), (2, .int p2)]) rfl (by decide) rfl dX6_lineEnd_3 ?_
  refine kz_aload_n (pc := 4) 1 (v := .ref a0) (i := 0) rfl rfl rfl dX6_lineEnd_4 ?_
  obtain ⟨fs1, v2, hM, hv, h⟩ := h
  refine kz_getf (pc := 5) (k := 0) kcX6 hM hv (by decide) kw_1097 dX6_lineEnd_5 ?_
  refine kz_iconst (pc := 8) (v := 2) (by decide) dX6_lineEnd_8 ?_
  refine kz_icmp_ne (pc := 9) (tgt := 14) (by decide) dX6_lineEnd_9 (fun hb => ?_) (fun hb => ?_)
  · replace h := h.1 hb
    refine kz_aload_n (pc := 14) 1 (v := .ref a0) (i := 0) rfl rfl rfl dX6_lineEnd_14 ?_
    refine kz_iload_n (pc := 15) 2 (i := 1) rfl rfl dX6_lineEnd_15 ?_
    obtain ⟨⟨fs10, he⟩, h⟩ := h
    refine kz_callV (pc := 16) (μ' := mX6_wordAt) (ci := 6) (q := (RX6, TX6, 3)) (b := a0) (d' := d + 1) (mc' := 0) (ms' := 0) (As := [.int p1]) (st := []) (c := 0) (sl := 0) kmX6_wordAt kw_902 (by omega) rfl (Nat.le_of_ble_eq_true rfl) he rfl rfl (Nat.le_refl _) (Nat.le_refl _) dX6_lineEnd_16 (fun E M9 hx => kz_Tout rfl (Nat.le_refl _) (Nat.le_refl _) hx) (kz_Cmono (fun v M3 h => ?_) (fun _ _ h => h) h)
    obtain ⟨r4, rfl, h⟩ := h
    show kz_Z G (d + 2) 0 0 mX6_lineEnd Qr Qx 19 [(3, .int (p1 + 1)), (0, .ref a0), (1, .int p1), (2, .int p2)] [.long r4] M3 0 0
    refine kz_callSN (pc := 19) (μ' := mX11_lengthOf) (d' := d + 1) (mc' := 0) (ms' := 0) (As := [.long r4]) (st := []) (c := 0) (sl := 0) kmX11_lengthOf kw_1133 (by omega) rfl (Nat.le_of_ble_eq_true rfl) (Nat.le_refl _) (Nat.le_refl _) dX6_lineEnd_19 (fun E M9 hx => kz_Tout rfl (Nat.le_refl _) (Nat.le_refl _) hx) (kz_Cmono (fun v M6 h => ?_) (fun _ _ h => h) h)
    obtain ⟨r7, rfl, h⟩ := h
    show kz_Z G (d + 2) 0 0 mX6_lineEnd Qr Qx 22 [(3, .int (p1 + 1)), (0, .ref a0), (1, .int p1), (2, .int p2)] [.int r7] M6 0 0
    refine kz_istore (pc := 22) (i := 4) (ls' := [(3, .int (p1 + 1)), (0, .ref a0), (1, .int p1), (2, .int p2)]) (by decide) rfl dX6_lineEnd_22 ?_
    refine kz_sub [2, 4, 1, 0] rfl ?_
    exact h
  · replace h := h.2 hb
    refine kz_iload_n (pc := 12) 0 (i := 3) rfl rfl dX6_lineEnd_12 ?_
    exact kz_iret (pc := 13) rfl (Nat.le_refl _) (Nat.le_refl _) dX6_lineEnd_13 h
theorem rX6_lineEnd_24 {G : kz_G} {d : Nat} {Qr : Option Value → kz_M → Prop} {Qx : String → kz_M → Prop} {x0 : Nat} {x2 : Int32} {x3 : Int32} {x4 : Int32}  {M : kz_M} (h : ∃ fs1 v2, (M).1 x0 = some (.inl (6, fs1)) ∧ fs1[1]? = some (.ref v2) ∧ (∃ ty3 A4, (M).1 v2 = some (.inr (ty3, A4)) ∧ (((Int32.ofNat A4.1) ≤ x3 → Qr (some (.int x3)) M) ∧ (¬ (Int32.ofNat A4.1) ≤ x3 → (∃ fs24, (M).1 x0 = some (.inl (6, fs24))) ∧ kz_C G (d + 1) 0 0 mX6_isParted [.ref x0, .int x3] M (fun v M5 => ∃ r6 : Int32, v = some (.int r6) ∧ ((¬ r6 = 0 → Qr (some (.int x3)) M5) ∧ (r6 = 0 → (∃ fs23, (M5).1 x0 = some (.inl (6, fs23))) ∧ kz_C G (d + 1) 0 0 mX6_wordAt [.ref x0, .int x3] M5 (fun v M8 => ∃ r9 : Int64, v = some (.long r9) ∧ (kz_C G (d + 1) 0 0 mX11_lengthOf [.long r9] M8 (fun v M11 => ∃ r12 : Int32, v = some (.int r12) ∧ ((x2 < ((x4 + 1) + r12) → Qr (some (.int x3)) M11) ∧ (¬ x2 < ((x4 + 1) + r12) → (∃ fs21, (M11).1 x0 = some (.inl (6, fs21))) ∧ kz_C G (d + 1) 0 0 mX6_wordAt [.ref x0, .int x3] M11 (fun v M14 => ∃ r15 : Int64, v = some (.long r15) ∧ (kz_C G (d + 1) 0 0 mX11_lengthOf [.long r15] M14 (fun v M17 => ∃ r18 : Int32, v = some (.int r18) ∧ (zX6_lineEnd_24 G d Qr Qx x0 x2 (x3 + 1) (x4 + (1 + r18)) M17)) Qx)) Qx))) Qx)) Qx))) Qx)))) : zX6_lineEnd_24 G d Qr Qx x0 x2 x3 x4  M := by
  show kz_Z G (d + 2) 0 0 mX6_lineEnd Qr Qx 24 [(0, .ref x0), (2, .int x2), (3, .int x3), (4, .int x4)] [] M 0 0
  refine kz_iload_n (pc := 24) 2 (i := 3) rfl rfl dX6_lineEnd_24 ?_
  refine kz_aload_n (pc := 25) 0 (v := .ref x0) (i := 0) rfl rfl rfl dX6_lineEnd_25 ?_
  obtain ⟨fs1, v2, hM, hv, h⟩ := h
  refine kz_getf (pc := 26) (k := 1) kcX6 hM hv (by decide) kw_1099 dX6_lineEnd_26 ?_
  obtain ⟨ty3, A4, hM, h⟩ := h
  refine kz_alen (pc := 29) hM rfl dX6_lineEnd_29 ?_
  refine kz_icmp_ge (pc := 30) (tgt := 79) (by decide) dX6_lineEnd_30 (fun hb => ?_) (fun hb => ?_)
  · replace h := h.1 hb
    refine kz_iload_n (pc := 79) 2 (i := 3) rfl rfl dX6_lineEnd_79 ?_
    exact kz_iret (pc := 80) rfl (Nat.le_refl _) (Nat.le_refl _) dX6_lineEnd_80 h
  · replace h := h.2 hb
    refine kz_aload_n (pc := 33) 0 (v := .ref x0) (i := 0) rfl rfl rfl dX6_lineEnd_33 ?_
    refine kz_iload_n (pc := 34) 2 (i := 3) rfl rfl dX6_lineEnd_34 ?_
    obtain ⟨⟨fs24, he⟩, h⟩ := h
    refine kz_callV (pc := 35) (μ' := mX6_isParted) (ci := 6) (q := (RX6, TX6, 3)) (b := x0) (d' := d + 1) (mc' := 0) (ms' := 0) (As := [.int x3]) (st := []) (c := 0) (sl := 0) kmX6_isParted kw_1134 (by omega) rfl (Nat.le_of_ble_eq_true rfl) he rfl rfl (Nat.le_refl _) (Nat.le_refl _) dX6_lineEnd_35 (fun E M9 hx => kz_Tout rfl (Nat.le_refl _) (Nat.le_refl _) hx) (kz_Cmono (fun v M5 h => ?_) (fun _ _ h => h) h)
    obtain ⟨r6, rfl, h⟩ := h
    show kz_Z G (d + 2) 0 0 mX6_lineEnd Qr Qx 38 [(0, .ref x0), (2, .int x2), (3, .int x3), (4, .int x4)] [.int r6] M5 0 0
    refine kz_if_ne (pc := 38) (tgt := 79) (by decide) dX6_lineEnd_38 (fun hb => ?_) (fun hb => ?_)
    · replace h := h.1 hb
      refine kz_iload_n (pc := 79) 2 (i := 3) rfl rfl dX6_lineEnd_79 ?_
      exact kz_iret (pc := 80) rfl (Nat.le_refl _) (Nat.le_refl _) dX6_lineEnd_80 h
    · replace h := h.2 hb
      refine kz_iload (pc := 41) 3 (i := 4) rfl dX6_lineEnd_41 ?_
      refine kz_iconst (pc := 43) (v := 1) (by decide) dX6_lineEnd_43 ?_
      refine kz_iadd (pc := 44) dX6_lineEnd_44 ?_
      refine kz_aload_n (pc := 45) 0 (v := .ref x0) (i := 0) rfl rfl rfl dX6_lineEnd_45 ?_
      refine kz_iload_n (pc := 46) 2 (i := 3) rfl rfl dX6_lineEnd_46 ?_
      obtain ⟨⟨fs23, he⟩, h⟩ := h
      refine kz_callV (pc := 47) (μ' := mX6_wordAt) (ci := 6) (q := (RX6, TX6, 3)) (b := x0) (d' := d + 1) (mc' := 0) (ms' := 0) (As := [.int x3]) (st := [.int (x4 + 1)]) (c := 0) (sl := 0) kmX6_wordAt kw_902 (by omega) rfl (Nat.le_of_ble_eq_true rfl) he rfl rfl (Nat.le_refl _) (Nat.le_refl _) dX6_lineEnd_47 (fun E M9 hx => kz_Tout rfl (Nat.le_refl _) (Nat.le_refl _) hx) (kz_Cmono (fun v M8 h => ?_) (fun _ _ h => h) h)
      obtain ⟨r9, rfl, h⟩ := h
      show kz_Z G (d + 2) 0 0 mX6_lineEnd Qr Qx 50 [(0, .ref x0), (2, .int x2), (3, .int x3), (4, .int x4)] [.long r9, .int (x4 + 1)] M8 0 0
      refine kz_callSN (pc := 50) (μ' := mX11_lengthOf) (d' := d + 1) (mc' := 0) (ms' := 0) (As := [.long r9]) (st := [.int (x4 + 1)]) (c := 0) (sl := 0) kmX11_lengthOf kw_1133 (by omega) rfl (Nat.le_of_ble_eq_true rfl) (Nat.le_refl _) (Nat.le_refl _) dX6_lineEnd_50 (fun E M9 hx => kz_Tout rfl (Nat.le_refl _) (Nat.le_refl _) hx) (kz_Cmono (fun v M11 h => ?_) (fun _ _ h => h) h)
      obtain ⟨r12, rfl, h⟩ := h
      show kz_Z G (d + 2) 0 0 mX6_lineEnd Qr Qx 53 [(0, .ref x0), (2, .int x2), (3, .int x3), (4, .int x4)] [.int r12, .int (x4 + 1)] M11 0 0
      refine kz_iadd (pc := 53) dX6_lineEnd_53 ?_
      refine kz_iload_n (pc := 54) 1 (i := 2) rfl rfl dX6_lineEnd_54 ?_
      refine kz_icmp_gt (pc := 55) (tgt := 79) (by decide) dX6_lineEnd_55 (fun hb => ?_) (fun hb => ?_)
      · replace h := h.1 hb
        refine kz_iload_n (pc := 79) 2 (i := 3) rfl rfl dX6_lineEnd_79 ?_
        exact kz_iret (pc := 80) rfl (Nat.le_refl _) (Nat.le_refl _) dX6_lineEnd_80 h
      · replace h := h.2 hb
        refine kz_iload (pc := 58) 3 (i := 4) rfl dX6_lineEnd_58 ?_
        refine kz_iconst (pc := 60) (v := 1) (by decide) dX6_lineEnd_60 ?_
        refine kz_aload_n (pc := 61) 0 (v := .ref x0) (i := 0) rfl rfl rfl dX6_lineEnd_61 ?_
        refine kz_iload_n (pc := 62) 2 (i := 3) rfl rfl dX6_lineEnd_62 ?_
        obtain ⟨⟨fs21, he⟩, h⟩ := h
        refine kz_callV (pc := 63) (μ' := mX6_wordAt) (ci := 6) (q := (RX6, TX6, 3)) (b := x0) (d' := d + 1) (mc' := 0) (ms' := 0) (As := [.int x3]) (st := [.int 1, .int x4]) (c := 0) (sl := 0) kmX6_wordAt kw_902 (by omega) rfl (Nat.le_of_ble_eq_true rfl) he rfl rfl (Nat.le_refl _) (Nat.le_refl _) dX6_lineEnd_63 (fun E M9 hx => kz_Tout rfl (Nat.le_refl _) (Nat.le_refl _) hx) (kz_Cmono (fun v M14 h => ?_) (fun _ _ h => h) h)
        obtain ⟨r15, rfl, h⟩ := h
        show kz_Z G (d + 2) 0 0 mX6_lineEnd Qr Qx 66 [(0, .ref x0), (2, .int x2), (3, .int x3), (4, .int x4)] [.long r15, .int 1, .int x4] M14 0 0
        refine kz_callSN (pc := 66) (μ' := mX11_lengthOf) (d' := d + 1) (mc' := 0) (ms' := 0) (As := [.long r15]) (st := [.int 1, .int x4]) (c := 0) (sl := 0) kmX11_lengthOf kw_1133 (by omega) rfl (Nat.le_of_ble_eq_true rfl) (Nat.le_refl _) (Nat.le_refl _) dX6_lineEnd_66 (fun E M9 hx => kz_Tout rfl (Nat.le_refl _) (Nat.le_refl _) hx) (kz_Cmono (fun v M17 h => ?_) (fun _ _ h => h) h)
        obtain ⟨r18, rfl, h⟩ := h
        show kz_Z G (d + 2) 0 0 mX6_lineEnd Qr Qx 69 [(0, .ref x0), (2, .int x2), (3, .int x3), (4, .int x4)] [.int r18, .int 1, .int x4] M17 0 0
        refine kz_iadd (pc := 69) dX6_lineEnd_69 ?_
        refine kz_iadd (pc := 70) dX6_lineEnd_70 ?_
        refine kz_istore (pc := 71) (i := 4) (ls' := [(0, .ref x0), (2, .int x2), (3, .int x3)]) (by decide) rfl dX6_lineEnd_71 ?_
        refine kz_iinc (pc := 73) 3 (i := 3) (v := x3 + 1) (ls' := [(4, .int (x4 + (1 + r18))), (0, .ref x0), (2, .int x2)]) rfl (congrArg (fun z => x3 + z) (by decide)) (by decide) rfl dX6_lineEnd_73 ?_
        refine kz_goto (pc := 76) (tgt := 24) (by decide) dX6_lineEnd_76 ?_
        refine kz_sub [2, 3, 0, 1] rfl ?_
        exact h
theorem dX6_linesBy_0 : decode cX6_linesBy 0 = .ok (.iconst 0, 1) := by decide +kernel
theorem dX6_linesBy_1 : decode cX6_linesBy 1 = .ok (.istore_n 2, 1) := by decide +kernel
theorem dX6_linesBy_2 : decode cX6_linesBy 2 = .ok (.iconst 0, 1) := by decide +kernel
theorem dX6_linesBy_3 : decode cX6_linesBy 3 = .ok (.istore_n 3, 1) := by decide +kernel
theorem dX6_linesBy_4 : decode cX6_linesBy 4 = .ok (.iload_n 3, 1) := by decide +kernel
theorem dX6_linesBy_5 : decode cX6_linesBy 5 = .ok (.aload_n 0, 1) := by decide +kernel
theorem dX6_linesBy_6 : decode cX6_linesBy 6 = .ok (.getfield 15, 3) := by decide +kernel
theorem dX6_linesBy_9 : decode cX6_linesBy 9 = .ok (.arraylength, 1) := by decide +kernel
theorem dX6_linesBy_10 : decode cX6_linesBy 10 = .ok (.if_icmp .ge 22, 3) := by decide +kernel
theorem dX6_linesBy_13 : decode cX6_linesBy 13 = .ok (.iinc 2 1, 3) := by decide +kernel
theorem dX6_linesBy_16 : decode cX6_linesBy 16 = .ok (.iload_n 3, 1) := by decide +kernel
theorem dX6_linesBy_17 : decode cX6_linesBy 17 = .ok (.iconst 1, 1) := by decide +kernel
theorem dX6_linesBy_18 : decode cX6_linesBy 18 = .ok (.iadd, 1) := by decide +kernel
theorem dX6_linesBy_19 : decode cX6_linesBy 19 = .ok (.aload_n 0, 1) := by decide +kernel
theorem dX6_linesBy_20 : decode cX6_linesBy 20 = .ok (.iload_n 3, 1) := by decide +kernel
theorem dX6_linesBy_21 : decode cX6_linesBy 21 = .ok (.iload_n 1, 1) := by decide +kernel
theorem dX6_linesBy_22 : decode cX6_linesBy 22 = .ok (.invokevirtual 84, 3) := by decide +kernel
theorem dX6_linesBy_25 : decode cX6_linesBy 25 = .ok (.invokestatic 59, 3) := by decide +kernel
theorem dX6_linesBy_28 : decode cX6_linesBy 28 = .ok (.istore_n 3, 1) := by decide +kernel
theorem dX6_linesBy_29 : decode cX6_linesBy 29 = .ok (.goto (-25), 3) := by decide +kernel
theorem dX6_linesBy_32 : decode cX6_linesBy 32 = .ok (.iload_n 2, 1) := by decide +kernel
theorem dX6_linesBy_33 : decode cX6_linesBy 33 = .ok (.ireturn, 1) := by decide +kernel
def zX6_linesBy_4 (G : kz_G) (d : Nat) (Qr : Option Value → kz_M → Prop) (Qx : String → kz_M → Prop) (x0 : Nat) (x1 : Int32) (x2 : Int32) (x3 : Int32)  (M : kz_M) : Prop := kz_Z G (d + 3) 0 0 mX6_linesBy Qr Qx 4 [(0, .ref x0), (1, .int x1), (2, .int x2), (3, .int x3)] [] M 0 0
theorem rX6_linesBy_0 {G : kz_G} {d : Nat} {Qr : Option Value → kz_M → Prop} {Qx : String → kz_M → Prop} {a0 : Nat} {p1 : Int32}  {M : kz_M} (h : zX6_linesBy_4 G d Qr Qx a0 p1 0 0 M) : kz_C G (d + 3) 0 0 mX6_linesBy [.ref a0, .int p1] M Qr Qx := by
  refine kz_enter (n := 1) kmX6_linesBy.1 (Nat.le_of_ble_eq_true rfl) (ls := [(0, .ref a0), (1, .int p1)]) rfl ?_
  refine kz_iconst (pc := 0) (v := 0) (by decide) dX6_linesBy_0 ?_
  refine kz_istore_n (pc := 1) (i := 2) (ls' := [(0, .ref a0), (1, .int p1)]) rfl (by decide) rfl dX6_linesBy_1 ?_
  refine kz_iconst (pc := 2) (v := 0) (by decide) dX6_linesBy_2 ?_
  refine kz_istore_n (pc := 3) (i := 3) (ls' := [(2, .int 0), (0, .ref a0), (1, .int p1)]) rfl (by decide) rfl dX6_linesBy_3 ?_
  refine kz_sub [2, 3, 1, 0] rfl ?_
  exact h
theorem rX6_linesBy_4 {G : kz_G} {d : Nat} {Qr : Option Value → kz_M → Prop} {Qx : String → kz_M → Prop} {x0 : Nat} {x1 : Int32} {x2 : Int32} {x3 : Int32}  {M : kz_M} (h : ∃ fs1 v2, (M).1 x0 = some (.inl (6, fs1)) ∧ fs1[1]? = some (.ref v2) ∧ (∃ ty3 A4, (M).1 v2 = some (.inr (ty3, A4)) ∧ (((Int32.ofNat A4.1) ≤ x3 → Qr (some (.int x2)) M) ∧ (¬ (Int32.ofNat A4.1) ≤ x3 → (∃ fs8, (M).1 x0 = some (.inl (6, fs8))) ∧ kz_C G (d + 2) 0 0 mX6_lineEnd [.ref x0, .int x3, .int x1] M (fun v M5 => ∃ r6 : Int32, v = some (.int r6) ∧ (zX6_linesBy_4 G d Qr Qx x0 x1 (x2 + 1) (if (x3 + 1) < r6 then r6 else (x3 + 1)) M5)) Qx)))) : zX6_linesBy_4 G d Qr Qx x0 x1 x2 x3  M := by
  show kz_Z G (d + 3) 0 0 mX6_linesBy Qr Qx 4 [(0, .ref x0), (1, .int x1), (2, .int x2), (3, .int x3)] [] M 0 0
  refine kz_iload_n (pc := 4) 3 (i := 3) rfl rfl dX6_linesBy_4 ?_
  refine kz_aload_n (pc := 5) 0 (v := .ref x0) (i := 0) rfl rfl rfl dX6_linesBy_5 ?_
  obtain ⟨fs1, v2, hM, hv, h⟩ := h
  refine kz_getf (pc := 6) (k := 1) kcX6 hM hv (by decide) kw_1099 dX6_linesBy_6 ?_
  obtain ⟨ty3, A4, hM, h⟩ := h
  refine kz_alen (pc := 9) hM rfl dX6_linesBy_9 ?_
  refine kz_icmp_ge (pc := 10) (tgt := 32) (by decide) dX6_linesBy_10 (fun hb => ?_) (fun hb => ?_)
  · replace h := h.1 hb
    refine kz_iload_n (pc := 32) 2 (i := 2) rfl rfl dX6_linesBy_32 ?_
    exact kz_iret (pc := 33) rfl (Nat.le_refl _) (Nat.le_refl _) dX6_linesBy_33 h
  · replace h := h.2 hb
    refine kz_iinc (pc := 13) 2 (i := 2) (v := x2 + 1) (ls' := [(0, .ref x0), (1, .int x1), (3, .int x3)]) rfl (congrArg (fun z => x2 + z) (by decide)) (by decide) rfl dX6_linesBy_13 ?_
    refine kz_iload_n (pc := 16) 3 (i := 3) rfl rfl dX6_linesBy_16 ?_
    refine kz_iconst (pc := 17) (v := 1) (by decide) dX6_linesBy_17 ?_
    refine kz_iadd (pc := 18) dX6_linesBy_18 ?_
    refine kz_aload_n (pc := 19) 1 (v := .ref x0) (i := 0) rfl rfl rfl dX6_linesBy_19 ?_
    refine kz_iload_n (pc := 20) 3 (i := 3) rfl rfl dX6_linesBy_20 ?_
    refine kz_iload_n (pc := 21) 2 (i := 1) rfl rfl dX6_linesBy_21 ?_
    obtain ⟨⟨fs8, he⟩, h⟩ := h
    refine kz_callV (pc := 22) (μ' := mX6_lineEnd) (ci := 6) (q := (RX6, TX6, 3)) (b := x0) (d' := d + 2) (mc' := 0) (ms' := 0) (As := [.int x3, .int x1]) (st := [.int (x3 + 1)]) (c := 0) (sl := 0) kmX6_lineEnd kw_1129 (by omega) rfl (Nat.le_of_ble_eq_true rfl) he rfl rfl (Nat.le_refl _) (Nat.le_refl _) dX6_linesBy_22 (fun E M9 hx => kz_Tout rfl (Nat.le_refl _) (Nat.le_refl _) hx) (kz_Cmono (fun v M5 h => ?_) (fun _ _ h => h) h)
    obtain ⟨r6, rfl, h⟩ := h
    show kz_Z G (d + 3) 0 0 mX6_linesBy Qr Qx 25 [(2, .int (x2 + 1)), (0, .ref x0), (1, .int x1), (3, .int x3)] [.int r6, .int (x3 + 1)] M5 0 0
    refine kz_mmax (pc := 25) kw_907 kw_539 kw_9 kw_540 (by omega) (Nat.le_of_ble_eq_true rfl) (Nat.le_refl _) (Nat.le_refl _) dX6_linesBy_25 ?_
    refine kz_istore_n (pc := 28) (i := 3) (ls' := [(2, .int (x2 + 1)), (0, .ref x0), (1, .int x1)]) rfl (by decide) rfl dX6_linesBy_28 ?_
    refine kz_goto (pc := 29) (tgt := 4) (by decide) dX6_linesBy_29 ?_
    refine kz_sub [2, 3, 1, 0] rfl ?_
    exact h
