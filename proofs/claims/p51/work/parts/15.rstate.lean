/-! The rules of 15.rstate: printed by program (wip/whole/rules.py) -/
theorem dX9_init_0 : decode cX9_init 0 = .ok (.aload_n 0, 1) := by decide +kernel
theorem dX9_init_1 : decode cX9_init 1 = .ok (.invokespecial 3, 3) := by decide +kernel
theorem dX9_init_4 : decode cX9_init 4 = .ok (.aload_n 0, 1) := by decide +kernel
theorem dX9_init_5 : decode cX9_init 5 = .ok (.getstatic 9, 3) := by decide +kernel
theorem dX9_init_8 : decode cX9_init 8 = .ok (.arraylength, 1) := by decide +kernel
theorem dX9_init_9 : decode cX9_init 9 = .ok (.newarray .int, 2) := by decide +kernel
theorem dX9_init_11 : decode cX9_init 11 = .ok (.putfield 13, 3) := by decide +kernel
theorem dX9_init_14 : decode cX9_init 14 = .ok (.aload_n 0, 1) := by decide +kernel
theorem dX9_init_15 : decode cX9_init 15 = .ok (.bipush 6, 2) := by decide +kernel
theorem dX9_init_17 : decode cX9_init 17 = .ok (.newarray .long, 2) := by decide +kernel
theorem dX9_init_19 : decode cX9_init 19 = .ok (.putfield 19, 3) := by decide +kernel
theorem dX9_init_22 : decode cX9_init 22 = .ok (.aload_n 0, 1) := by decide +kernel
theorem dX9_init_23 : decode cX9_init 23 = .ok (.bipush 6, 2) := by decide +kernel
theorem dX9_init_25 : decode cX9_init 25 = .ok (.newarray .int, 2) := by decide +kernel
theorem dX9_init_27 : decode cX9_init 27 = .ok (.putfield 23, 3) := by decide +kernel
theorem dX9_init_30 : decode cX9_init 30 = .ok (.aload_n 0, 1) := by decide +kernel
theorem dX9_init_31 : decode cX9_init 31 = .ok (.bipush 6, 2) := by decide +kernel
theorem dX9_init_33 : decode cX9_init 33 = .ok (.newarray .int, 2) := by decide +kernel
theorem dX9_init_35 : decode cX9_init 35 = .ok (.putfield 26, 3) := by decide +kernel
theorem dX9_init_38 : decode cX9_init 38 = .ok (.aload_n 0, 1) := by decide +kernel
theorem dX9_init_39 : decode cX9_init 39 = .ok (.bipush 12, 2) := by decide +kernel
theorem dX9_init_41 : decode cX9_init 41 = .ok (.anewarray 29, 3) := by decide +kernel
theorem dX9_init_44 : decode cX9_init 44 = .ok (.putfield 31, 3) := by decide +kernel
theorem dX9_init_47 : decode cX9_init 47 = .ok (.aload_n 0, 1) := by decide +kernel
theorem dX9_init_48 : decode cX9_init 48 = .ok (.new 35, 3) := by decide +kernel
theorem dX9_init_51 : decode cX9_init 51 = .ok (.dup, 1) := by decide +kernel
theorem dX9_init_52 : decode cX9_init 52 = .ok (.invokespecial 37, 3) := by decide +kernel
theorem dX9_init_55 : decode cX9_init 55 = .ok (.putfield 38, 3) := by decide +kernel
theorem dX9_init_58 : decode cX9_init 58 = .ok (.aload_n 0, 1) := by decide +kernel
theorem dX9_init_59 : decode cX9_init 59 = .ok (.invokevirtual 42, 3) := by decide +kernel
theorem dX9_init_62 : decode cX9_init 62 = .ok (.return_, 1) := by decide +kernel
theorem rX9_init_0 {G : kz_G} {d : Nat} {mc ms : Nat} {Qr : Option Value → kz_M → Prop} {Qx : String → kz_M → Prop} {a0 : Nat}  {M : kz_M} (hG : kz_stat G) (h : ∃ N1, ¬ (10 : Int32) < 0 ∧ (10 : Int32).toNatClampNeg = N1 ∧ N1 ≤ 60000000 ∧ 0 + 1 ≤ mc ∧ 0 + N1 ≤ ms ∧ (∃ fs3, ((kz_nw M (.inr (.int, N1, .inl (fun _ => 0))))).1 a0 = some (.inl (8, fs3)) ∧ 4 < fs3.length ∧ (∃ N4, ¬ (6 : Int32) < 0 ∧ (6 : Int32).toNatClampNeg = N4 ∧ N4 ≤ 60000000 ∧ 0 + 1 + 1 ≤ mc ∧ 0 + N1 + N4 ≤ ms ∧ (∃ fs6, ((kz_nw (kz_up (kz_nw M (.inr (.int, N1, .inl (fun _ => 0)))) a0 (.inl (8, fs3.set 4 (.ref ((M).2))))) (.inr (.long, N4, .inr (.inl (fun _ => 0)))))).1 a0 = some (.inl (8, fs6)) ∧ 5 < fs6.length ∧ (∀ M7, M7 = kz_up (kz_nw (kz_up (kz_nw M (.inr (.int, N1, .inl (fun _ => 0)))) a0 (.inl (8, fs3.set 4 (.ref ((M).2))))) (.inr (.long, N4, .inr (.inl (fun _ => 0))))) a0 (.inl (8, fs6.set 5 (.ref ((kz_up (kz_nw M (.inr (.int, N1, .inl (fun _ => 0)))) a0 (.inl (8, fs3.set 4 (.ref ((M).2))))).2)))) → ∃ N8, ¬ (6 : Int32) < 0 ∧ (6 : Int32).toNatClampNeg = N8 ∧ N8 ≤ 60000000 ∧ 0 + 1 + 1 + 1 ≤ mc ∧ 0 + N1 + N4 + N8 ≤ ms ∧ (∃ fs10, ((kz_nw M7 (.inr (.int, N8, .inl (fun _ => 0))))).1 a0 = some (.inl (8, fs10)) ∧ 6 < fs10.length ∧ (∃ N11, ¬ (6 : Int32) < 0 ∧ (6 : Int32).toNatClampNeg = N11 ∧ N11 ≤ 60000000 ∧ 0 + 1 + 1 + 1 + 1 ≤ mc ∧ 0 + N1 + N4 + N8 + N11 ≤ ms ∧ (∃ fs13, ((kz_nw (kz_up (kz_nw M7 (.inr (.int, N8, .inl (fun _ => 0)))) a0 (.inl (8, fs10.set 6 (.ref ((M7).2))))) (.inr (.int, N11, .inl (fun _ => 0))))).1 a0 = some (.inl (8, fs13)) ∧ 7 < fs13.length ∧ (∀ M14, M14 = kz_up (kz_nw (kz_up (kz_nw M7 (.inr (.int, N8, .inl (fun _ => 0)))) a0 (.inl (8, fs10.set 6 (.ref ((M7).2))))) (.inr (.int, N11, .inl (fun _ => 0)))) a0 (.inl (8, fs13.set 7 (.ref ((kz_up (kz_nw M7 (.inr (.int, N8, .inl (fun _ => 0)))) a0 (.inl (8, fs10.set 6 (.ref ((M7).2))))).2)))) → ∃ N15, ¬ (12 : Int32) < 0 ∧ (12 : Int32).toNatClampNeg = N15 ∧ N15 ≤ 60000000 ∧ 0 + 1 + 1 + 1 + 1 + 1 ≤ mc ∧ 0 + N1 + N4 + N8 + N11 + N15 ≤ ms ∧ (∃ fs17, ((kz_nw M14 (.inr (.object "LineOffice$Work", N15, .inr (.inr (.inr (.inr (fun _ => none)))))))).1 a0 = some (.inl (8, fs17)) ∧ 8 < fs17.length ∧ (0 + 1 + 1 + 1 + 1 + 1 + 1 ≤ mc ∧ 0 + N1 + N4 + N8 + N11 + N15 + 2 ≤ ms ∧ (∀ M19, M19 = kz_nw (kz_up (kz_nw M14 (.inr (.object "LineOffice$Work", N15, .inr (.inr (.inr (.inr (fun _ => none))))))) a0 (.inl (8, fs17.set 8 (.ref ((M14).2))))) (.inl (2, [.null, .int 0])) → ∃ mc22 ms22, 0 + 1 + 1 + 1 + 1 + 1 + 1 + mc22 ≤ mc ∧ 0 + N1 + N4 + N8 + N11 + N15 + 2 + ms22 ≤ ms ∧ kz_C G (d + 1) mc22 ms22 mX2_init [.ref ((kz_up (kz_nw M14 (.inr (.object "LineOffice$Work", N15, .inr (.inr (.inr (.inr (fun _ => none))))))) a0 (.inl (8, fs17.set 8 (.ref ((M14).2))))).2)] M19 (fun v M20 => v = none ∧ (∃ fs23, (M20).1 a0 = some (.inl (8, fs23)) ∧ 9 < fs23.length ∧ (∀ M24, M24 = kz_up M20 a0 (.inl (8, fs23.set 9 (.ref ((kz_up (kz_nw M14 (.inr (.object "LineOffice$Work", N15, .inr (.inr (.inr (.inr (fun _ => none))))))) a0 (.inl (8, fs17.set 8 (.ref ((M14).2))))).2)))) → (∃ fs28, (M24).1 a0 = some (.inl (8, fs28))) ∧ kz_C G (d + 1) 0 0 mX9_begin [.ref a0] M24 (fun v M25 => v = none ∧ (Qr none M25)) Qx))) Qx)))))))))))) : kz_C G (d + 2) mc ms mX9_init [.ref a0] M Qr Qx := by
  refine kz_enter (n := 0) kmX9_init.1 (Nat.le_of_ble_eq_true rfl) (ls := [(0, .ref a0)]) rfl ?_
  refine kz_aload_n (pc := 0) 0 (v := .ref a0) (i := 0) rfl rfl rfl dX9_init_0 ?_
  refine kz_objInit (pc := 1) kw_78 kw_43 kw_44 (by omega) (Nat.le_of_ble_eq_true rfl) dX9_init_1 ?_
  refine kz_aload_n (pc := 4) 0 (v := .ref a0) (i := 0) rfl rfl rfl dX9_init_4 ?_
  refine kz_getsN (pc := 5) (v := .retAddr 0) hG.2.2.2.1 kw_79 dX9_init_5 ?_
  refine kz_salen (pc := 8) (v := 10) hG.2.2.2.2.1 (by decide) dX9_init_8 ?_
  obtain ⟨N1, hn, hN, hb8, hc2, hs2, h⟩ := h
  refine kz_newaI (pc := 9) N1 kw_98 hn hN hb8 hc2 hs2 dX9_init_9 ?_
  obtain ⟨fs3, hM, hlen, h⟩ := h
  refine kz_putF (pc := 11) (k := 4) kcX9 hM (by decide) hlen rfl rfl kw_117 rfl rfl rfl dX9_init_11 ?_
  refine kz_aload_n (pc := 14) 0 (v := .ref a0) (i := 0) rfl rfl rfl dX9_init_14 ?_
  refine kz_bipush (pc := 15) (v := 6) (by decide) dX9_init_15 ?_
  obtain ⟨N4, hn, hN, hb8, hc5, hs5, h⟩ := h
  refine kz_newaL (pc := 17) N4 kw_99 hn hN hb8 hc5 hs5 dX9_init_17 ?_
  obtain ⟨fs6, hM, hlen, h⟩ := h
  refine kz_putF (pc := 19) (k := 5) kcX9 hM (by decide) hlen rfl rfl kw_120 rfl rfl rfl dX9_init_19 ?_
  refine kz_nameM (fun M7 e9 => ?_)
  replace h := h M7 e9
  refine kz_aload_n (pc := 22) 0 (v := .ref a0) (i := 0) rfl rfl rfl dX9_init_22 ?_
  refine kz_bipush (pc := 23) (v := 6) (by decide) dX9_init_23 ?_
  obtain ⟨N8, hn, hN, hb8, hc9, hs9, h⟩ := h
  refine kz_newaI (pc := 25) N8 kw_98 hn hN hb8 hc9 hs9 dX9_init_25 ?_
  obtain ⟨fs10, hM, hlen, h⟩ := h
  refine kz_putF (pc := 27) (k := 6) kcX9 hM (by decide) hlen rfl rfl kw_121 rfl rfl rfl dX9_init_27 ?_
  refine kz_aload_n (pc := 30) 0 (v := .ref a0) (i := 0) rfl rfl rfl dX9_init_30 ?_
  refine kz_bipush (pc := 31) (v := 6) (by decide) dX9_init_31 ?_
  obtain ⟨N11, hn, hN, hb8, hc12, hs12, h⟩ := h
  refine kz_newaI (pc := 33) N11 kw_98 hn hN hb8 hc12 hs12 dX9_init_33 ?_
  obtain ⟨fs13, hM, hlen, h⟩ := h
  refine kz_putF (pc := 35) (k := 7) kcX9 hM (by decide) hlen rfl rfl kw_122 rfl rfl rfl dX9_init_35 ?_
  refine kz_nameM (fun M14 e9 => ?_)
  replace h := h M14 e9
  refine kz_aload_n (pc := 38) 0 (v := .ref a0) (i := 0) rfl rfl rfl dX9_init_38 ?_
  refine kz_bipush (pc := 39) (v := 12) (by decide) dX9_init_39 ?_
  obtain ⟨N15, hn, hN, hb8, hc16, hs16, h⟩ := h
  refine kz_anew (pc := 41) (C := "LineOffice$Work") N15 kw_81 kw_82 hn hN hb8 hc16 hs16 dX9_init_41 ?_
  obtain ⟨fs17, hM, hlen, h⟩ := h
  refine kz_putF (pc := 44) (k := 8) kcX9 hM (by decide) hlen rfl rfl kw_123 rfl rfl rfl dX9_init_44 ?_
  refine kz_aload_n (pc := 47) 0 (v := .ref a0) (i := 0) rfl rfl rfl dX9_init_47 ?_
  obtain ⟨hc18, hs18, h⟩ := h
  refine kz_newc (pc := 48) kcX2 rfl kw_83 kw_84 kw_20 hc18 hs18 dX9_init_48 ?_
  refine kz_nameM (fun M19 e9 => ?_)
  replace h := h M19 e9
  refine kz_dup (pc := 51) rfl dX9_init_51 ?_
  obtain ⟨mc22, ms22, hc22, hs22, h⟩ := h
  refine kz_callIN (pc := 52) (μ' := mX2_init) (b := (kz_up (kz_nw M14 (.inr (.object "LineOffice$Work", N15, .inr (.inr (.inr (.inr (fun _ => none))))))) a0 (.inl (8, fs17.set 8 (.ref ((M14).2))))).2) (d' := d + 1) (mc' := mc22) (ms' := ms22) (As := []) (st := [.ref ((kz_up (kz_nw M14 (.inr (.object "LineOffice$Work", N15, .inr (.inr (.inr (.inr (fun _ => none))))))) a0 (.inl (8, fs17.set 8 (.ref ((M14).2))))).2), .ref a0]) (c := 0 + 1 + 1 + 1 + 1 + 1 + 1) (sl := 0 + N1 + N4 + N8 + N11 + N15 + 2) kmX2_init kw_85 (by omega) rfl (Nat.le_of_ble_eq_true rfl) hc22 hs22 dX9_init_52 (fun E M9 hx => kz_Tout rfl hc22 hs22 hx) (kz_Cmono (fun v M20 h => ?_) (fun _ _ h => h) h)
  obtain ⟨rfl, h⟩ := h
  show kz_Z G (d + 2) mc ms mX9_init Qr Qx 55 [(0, .ref a0)] [.ref ((kz_up (kz_nw M14 (.inr (.object "LineOffice$Work", N15, .inr (.inr (.inr (.inr (fun _ => none))))))) a0 (.inl (8, fs17.set 8 (.ref ((M14).2))))).2), .ref a0] M20 (0 + 1 + 1 + 1 + 1 + 1 + 1 + mc22) (0 + N1 + N4 + N8 + N11 + N15 + 2 + ms22)
  obtain ⟨fs23, hM, hlen, h⟩ := h
  refine kz_putF (pc := 55) (k := 9) kcX9 hM (by decide) hlen rfl rfl kw_124 rfl rfl rfl dX9_init_55 ?_
  refine kz_nameM (fun M24 e9 => ?_)
  replace h := h M24 e9
  refine kz_aload_n (pc := 58) 0 (v := .ref a0) (i := 0) rfl rfl rfl dX9_init_58 ?_
  obtain ⟨⟨fs28, he⟩, h⟩ := h
  refine kz_callV (pc := 59) (μ' := mX9_begin) (ci := 8) (q := (RX9, TX9, 10)) (b := a0) (d' := d + 1) (mc' := 0) (ms' := 0) (As := []) (st := []) (c := 0 + 1 + 1 + 1 + 1 + 1 + 1 + mc22) (sl := 0 + N1 + N4 + N8 + N11 + N15 + 2 + ms22) kmX9_begin kw_100 (by omega) rfl (Nat.le_of_ble_eq_true rfl) he rfl rfl hc22 hs22 dX9_init_59 (fun E M9 hx => kz_Tout rfl hc22 hs22 hx) (kz_Cmono (fun v M25 h => ?_) (fun _ _ h => h) h)
  obtain ⟨rfl, h⟩ := h
  show kz_Z G (d + 2) mc ms mX9_init Qr Qx 62 [(0, .ref a0)] [] M25 (0 + 1 + 1 + 1 + 1 + 1 + 1 + mc22) (0 + N1 + N4 + N8 + N11 + N15 + 2 + ms22)
  exact kz_vret (pc := 62) rfl hc22 hs22 dX9_init_62 h
theorem dX9_begin_0 : decode cX9_begin 0 = .ok (.aload_n 0, 1) := by decide +kernel
theorem dX9_begin_1 : decode cX9_begin 1 = .ok (.iconst 0, 1) := by decide +kernel
theorem dX9_begin_2 : decode cX9_begin 2 = .ok (.putfield 45, 3) := by decide +kernel
theorem dX9_begin_5 : decode cX9_begin 5 = .ok (.aload_n 0, 1) := by decide +kernel
theorem dX9_begin_6 : decode cX9_begin 6 = .ok (.iconst 0, 1) := by decide +kernel
theorem dX9_begin_7 : decode cX9_begin 7 = .ok (.putfield 49, 3) := by decide +kernel
theorem dX9_begin_10 : decode cX9_begin 10 = .ok (.aload_n 0, 1) := by decide +kernel
theorem dX9_begin_11 : decode cX9_begin 11 = .ok (.iconst 0, 1) := by decide +kernel
theorem dX9_begin_12 : decode cX9_begin 12 = .ok (.putfield 52, 3) := by decide +kernel
theorem dX9_begin_15 : decode cX9_begin 15 = .ok (.aload_n 0, 1) := by decide +kernel
theorem dX9_begin_16 : decode cX9_begin 16 = .ok (.iconst 0, 1) := by decide +kernel
theorem dX9_begin_17 : decode cX9_begin 17 = .ok (.putfield 55, 3) := by decide +kernel
theorem dX9_begin_20 : decode cX9_begin 20 = .ok (.aload_n 0, 1) := by decide +kernel
theorem dX9_begin_21 : decode cX9_begin 21 = .ok (.getfield 38, 3) := by decide +kernel
theorem dX9_begin_24 : decode cX9_begin 24 = .ok (.iconst 0, 1) := by decide +kernel
theorem dX9_begin_25 : decode cX9_begin 25 = .ok (.putfield 58, 3) := by decide +kernel
theorem dX9_begin_28 : decode cX9_begin 28 = .ok (.iconst 0, 1) := by decide +kernel
theorem dX9_begin_29 : decode cX9_begin 29 = .ok (.istore_n 1, 1) := by decide +kernel
theorem dX9_begin_30 : decode cX9_begin 30 = .ok (.iload_n 1, 1) := by decide +kernel
theorem dX9_begin_31 : decode cX9_begin 31 = .ok (.getstatic 9, 3) := by decide +kernel
theorem dX9_begin_34 : decode cX9_begin 34 = .ok (.arraylength, 1) := by decide +kernel
theorem dX9_begin_35 : decode cX9_begin 35 = .ok (.if_icmp .ge 25, 3) := by decide +kernel
theorem dX9_begin_38 : decode cX9_begin 38 = .ok (.aload_n 0, 1) := by decide +kernel
theorem dX9_begin_39 : decode cX9_begin 39 = .ok (.getfield 13, 3) := by decide +kernel
theorem dX9_begin_42 : decode cX9_begin 42 = .ok (.iload_n 1, 1) := by decide +kernel
theorem dX9_begin_43 : decode cX9_begin 43 = .ok (.getstatic 9, 3) := by decide +kernel
theorem dX9_begin_46 : decode cX9_begin 46 = .ok (.iload_n 1, 1) := by decide +kernel
theorem dX9_begin_47 : decode cX9_begin 47 = .ok (.aaload, 1) := by decide +kernel
theorem dX9_begin_48 : decode cX9_begin 48 = .ok (.getfield 61, 3) := by decide +kernel
theorem dX9_begin_51 : decode cX9_begin 51 = .ok (.invokestatic 66, 3) := by decide +kernel
theorem dX9_begin_54 : decode cX9_begin 54 = .ok (.iinc 1 1, 3) := by decide +kernel
theorem dX9_begin_57 : decode cX9_begin 57 = .ok (.goto (-27), 3) := by decide +kernel
theorem dX9_begin_60 : decode cX9_begin 60 = .ok (.return_, 1) := by decide +kernel
def zX9_begin_30 (G : kz_G) (d : Nat) (Qr : Option Value → kz_M → Prop) (Qx : String → kz_M → Prop) (x0 : Nat) (x1 : Int32)  (M : kz_M) : Prop := kz_Z G (d + 1) 0 0 mX9_begin Qr Qx 30 [(0, .ref x0), (1, .int x1)] [] M 0 0
theorem rX9_begin_0 {G : kz_G} {d : Nat} {Qr : Option Value → kz_M → Prop} {Qx : String → kz_M → Prop} {a0 : Nat}  {M : kz_M} (h : ∃ fs1, (M).1 a0 = some (.inl (8, fs1)) ∧ 0 < fs1.length ∧ (∃ fs2, ((kz_up M a0 (.inl (8, fs1.set 0 (.int 0))))).1 a0 = some (.inl (8, fs2)) ∧ 1 < fs2.length ∧ (∃ fs3, ((kz_up (kz_up M a0 (.inl (8, fs1.set 0 (.int 0)))) a0 (.inl (8, fs2.set 1 (.int 0))))).1 a0 = some (.inl (8, fs3)) ∧ 2 < fs3.length ∧ (∃ fs4, ((kz_up (kz_up (kz_up M a0 (.inl (8, fs1.set 0 (.int 0)))) a0 (.inl (8, fs2.set 1 (.int 0)))) a0 (.inl (8, fs3.set 2 (.int 0))))).1 a0 = some (.inl (8, fs4)) ∧ 3 < fs4.length ∧ (∀ M5, M5 = kz_up (kz_up (kz_up (kz_up M a0 (.inl (8, fs1.set 0 (.int 0)))) a0 (.inl (8, fs2.set 1 (.int 0)))) a0 (.inl (8, fs3.set 2 (.int 0)))) a0 (.inl (8, fs4.set 3 (.int 0))) → ∃ fs6 v7, (M5).1 a0 = some (.inl (8, fs6)) ∧ fs6[9]? = some (.ref v7) ∧ (∃ fs8, (M5).1 v7 = some (.inl (2, fs8)) ∧ 1 < fs8.length ∧ (zX9_begin_30 G d Qr Qx a0 0 (kz_up M5 v7 (.inl (2, fs8.set 1 (.int 0))))))))))) : kz_C G (d + 1) 0 0 mX9_begin [.ref a0] M Qr Qx := by
  refine kz_enter (n := 0) kmX9_begin.1 (Nat.le_of_ble_eq_true rfl) (ls := [(0, .ref a0)]) rfl ?_
  refine kz_aload_n (pc := 0) 0 (v := .ref a0) (i := 0) rfl rfl rfl dX9_begin_0 ?_
  refine kz_iconst (pc := 1) (v := 0) (by decide) dX9_begin_1 ?_
  obtain ⟨fs1, hM, hlen, h⟩ := h
  refine kz_putf (pc := 2) (k := 0) kcX9 hM (by decide) hlen kw_107 rfl rfl rfl dX9_begin_2 ?_
  refine kz_aload_n (pc := 5) 0 (v := .ref a0) (i := 0) rfl rfl rfl dX9_begin_5 ?_
  refine kz_iconst (pc := 6) (v := 0) (by decide) dX9_begin_6 ?_
  obtain ⟨fs2, hM, hlen, h⟩ := h
  refine kz_putf (pc := 7) (k := 1) kcX9 hM (by decide) hlen kw_109 rfl rfl rfl dX9_begin_7 ?_
  refine kz_aload_n (pc := 10) 0 (v := .ref a0) (i := 0) rfl rfl rfl dX9_begin_10 ?_
  refine kz_iconst (pc := 11) (v := 0) (by decide) dX9_begin_11 ?_
  obtain ⟨fs3, hM, hlen, h⟩ := h
  refine kz_putf (pc := 12) (k := 2) kcX9 hM (by decide) hlen kw_112 rfl rfl rfl dX9_begin_12 ?_
  refine kz_aload_n (pc := 15) 0 (v := .ref a0) (i := 0) rfl rfl rfl dX9_begin_15 ?_
  refine kz_iconst (pc := 16) (v := 0) (by decide) dX9_begin_16 ?_
  obtain ⟨fs4, hM, hlen, h⟩ := h
  refine kz_putf (pc := 17) (k := 3) kcX9 hM (by decide) hlen kw_115 rfl rfl rfl dX9_begin_17 ?_
  refine kz_nameM (fun M5 e9 => ?_)
  replace h := h M5 e9
  refine kz_aload_n (pc := 20) 0 (v := .ref a0) (i := 0) rfl rfl rfl dX9_begin_20 ?_
  obtain ⟨fs6, v7, hM, hv, h⟩ := h
  refine kz_getf (pc := 21) (k := 9) kcX9 hM hv (by decide) kw_124 dX9_begin_21 ?_
  refine kz_iconst (pc := 24) (v := 0) (by decide) dX9_begin_24 ?_
  obtain ⟨fs8, hM, hlen, h⟩ := h
  refine kz_putf (pc := 25) (k := 1) kcX2 hM (by decide) hlen kw_91 rfl rfl rfl dX9_begin_25 ?_
  refine kz_iconst (pc := 28) (v := 0) (by decide) dX9_begin_28 ?_
  refine kz_istore_n (pc := 29) (i := 1) (ls' := [(0, .ref a0)]) rfl (by decide) rfl dX9_begin_29 ?_
  refine kz_sub [1, 0] rfl ?_
  exact h
theorem rX9_begin_30 {G : kz_G} {d : Nat} {Qr : Option Value → kz_M → Prop} {Qx : String → kz_M → Prop} {x0 : Nat} {x1 : Int32}  {M : kz_M} (hG : kz_stat G) (h : ((10 : Int32) ≤ x1 → Qr none M) ∧ (¬ (10 : Int32) ≤ x1 → ∃ fs1 v2, (M).1 x0 = some (.inl (8, fs1)) ∧ fs1[4]? = some (.ref v2) ∧ (vp_in x1 10 ∧ (x1.toNatClampNeg < 10 ∧ (kz_C G (d + 0) 0 0 mX11_put [.ref v2, .int x1, .int (kz_us x1.toNatClampNeg)] M (fun v M3 => v = none ∧ (zX9_begin_30 G d Qr Qx x0 (x1 + 1) M3)) Qx))))) : zX9_begin_30 G d Qr Qx x0 x1  M := by
  show kz_Z G (d + 1) 0 0 mX9_begin Qr Qx 30 [(0, .ref x0), (1, .int x1)] [] M 0 0
  refine kz_iload_n (pc := 30) 1 (i := 1) rfl rfl dX9_begin_30 ?_
  refine kz_getsN (pc := 31) (v := .retAddr 0) hG.2.2.2.1 kw_79 dX9_begin_31 ?_
  refine kz_salen (pc := 34) (v := 10) hG.2.2.2.2.1 (by decide) dX9_begin_34 ?_
  refine kz_icmp_ge (pc := 35) (tgt := 60) (by decide) dX9_begin_35 (fun hb => ?_) (fun hb => ?_)
  · replace h := h.1 hb
    exact kz_vret (pc := 60) rfl (Nat.le_refl _) (Nat.le_refl _) dX9_begin_60 h
  · replace h := h.2 hb
    refine kz_aload_n (pc := 38) 0 (v := .ref x0) (i := 0) rfl rfl rfl dX9_begin_38 ?_
    obtain ⟨fs1, v2, hM, hv, h⟩ := h
    refine kz_getf (pc := 39) (k := 4) kcX9 hM hv (by decide) kw_117 dX9_begin_39 ?_
    refine kz_iload_n (pc := 42) 1 (i := 1) rfl rfl dX9_begin_42 ?_
    refine kz_getsN (pc := 43) (v := .retAddr 0) hG.2.2.2.1 kw_79 dX9_begin_43 ?_
    refine kz_iload_n (pc := 46) 1 (i := 1) rfl rfl dX9_begin_46 ?_
    obtain ⟨hi, h⟩ := h
    refine kz_saald (pc := 47) (v := .retAddr (x1.toNatClampNeg + 1)) hG.2.2.2.2.1 hi rfl dX9_begin_47 ?_
    obtain ⟨hk, h⟩ := h
    refine kz_sgetf (pc := 48) (v := .int (kz_us x1.toNatClampNeg)) (hG.2.2.2.2.2.1 x1.toNatClampNeg hk).2.2.1 kw_1588 dX9_begin_48 ?_
    refine kz_callSN (pc := 51) (μ' := mX11_put) (d' := d + 0) (mc' := 0) (ms' := 0) (As := [.ref v2, .int x1, .int (kz_us x1.toNatClampNeg)]) (st := []) (c := 0) (sl := 0) kmX11_put kw_104 (by omega) rfl (Nat.le_of_ble_eq_true rfl) (Nat.le_refl _) (Nat.le_refl _) dX9_begin_51 (fun E M9 hx => kz_Tout rfl (Nat.le_refl _) (Nat.le_refl _) hx) (kz_Cmono (fun v M3 h => ?_) (fun _ _ h => h) h)
    obtain ⟨rfl, h⟩ := h
    show kz_Z G (d + 1) 0 0 mX9_begin Qr Qx 54 [(0, .ref x0), (1, .int x1)] [] M3 0 0
    refine kz_iinc (pc := 54) 1 (i := 1) (v := x1 + 1) (ls' := [(0, .ref x0)]) rfl (congrArg (fun z => x1 + z) (by decide)) (by decide) rfl dX9_begin_54 ?_
    refine kz_goto (pc := 57) (tgt := 30) (by decide) dX9_begin_57 ?_
    refine kz_sub [1, 0] rfl ?_
    exact h
theorem dX9_takeOver_0 : decode cX9_takeOver 0 = .ok (.aload_n 0, 1) := by decide +kernel
theorem dX9_takeOver_1 : decode cX9_takeOver 1 = .ok (.aload_n 1, 1) := by decide +kernel
theorem dX9_takeOver_2 : decode cX9_takeOver 2 = .ok (.getfield 45, 3) := by decide +kernel
theorem dX9_takeOver_5 : decode cX9_takeOver 5 = .ok (.putfield 45, 3) := by decide +kernel
theorem dX9_takeOver_8 : decode cX9_takeOver 8 = .ok (.aload_n 0, 1) := by decide +kernel
theorem dX9_takeOver_9 : decode cX9_takeOver 9 = .ok (.aload_n 1, 1) := by decide +kernel
theorem dX9_takeOver_10 : decode cX9_takeOver 10 = .ok (.getfield 49, 3) := by decide +kernel
theorem dX9_takeOver_13 : decode cX9_takeOver 13 = .ok (.putfield 49, 3) := by decide +kernel
theorem dX9_takeOver_16 : decode cX9_takeOver 16 = .ok (.aload_n 0, 1) := by decide +kernel
theorem dX9_takeOver_17 : decode cX9_takeOver 17 = .ok (.aload_n 1, 1) := by decide +kernel
theorem dX9_takeOver_18 : decode cX9_takeOver 18 = .ok (.getfield 52, 3) := by decide +kernel
theorem dX9_takeOver_21 : decode cX9_takeOver 21 = .ok (.putfield 52, 3) := by decide +kernel
theorem dX9_takeOver_24 : decode cX9_takeOver 24 = .ok (.aload_n 0, 1) := by decide +kernel
theorem dX9_takeOver_25 : decode cX9_takeOver 25 = .ok (.aload_n 1, 1) := by decide +kernel
theorem dX9_takeOver_26 : decode cX9_takeOver 26 = .ok (.getfield 55, 3) := by decide +kernel
theorem dX9_takeOver_29 : decode cX9_takeOver 29 = .ok (.putfield 55, 3) := by decide +kernel
theorem dX9_takeOver_32 : decode cX9_takeOver 32 = .ok (.aload_n 1, 1) := by decide +kernel
theorem dX9_takeOver_33 : decode cX9_takeOver 33 = .ok (.getfield 13, 3) := by decide +kernel
theorem dX9_takeOver_36 : decode cX9_takeOver 36 = .ok (.iconst 0, 1) := by decide +kernel
theorem dX9_takeOver_37 : decode cX9_takeOver 37 = .ok (.aload_n 0, 1) := by decide +kernel
theorem dX9_takeOver_38 : decode cX9_takeOver 38 = .ok (.getfield 13, 3) := by decide +kernel
theorem dX9_takeOver_41 : decode cX9_takeOver 41 = .ok (.iconst 0, 1) := by decide +kernel
theorem dX9_takeOver_42 : decode cX9_takeOver 42 = .ok (.aload_n 0, 1) := by decide +kernel
theorem dX9_takeOver_43 : decode cX9_takeOver 43 = .ok (.getfield 13, 3) := by decide +kernel
theorem dX9_takeOver_46 : decode cX9_takeOver 46 = .ok (.arraylength, 1) := by decide +kernel
theorem dX9_takeOver_47 : decode cX9_takeOver 47 = .ok (.invokestatic 70, 3) := by decide +kernel
theorem dX9_takeOver_50 : decode cX9_takeOver 50 = .ok (.aload_n 1, 1) := by decide +kernel
theorem dX9_takeOver_51 : decode cX9_takeOver 51 = .ok (.getfield 19, 3) := by decide +kernel
theorem dX9_takeOver_54 : decode cX9_takeOver 54 = .ok (.iconst 0, 1) := by decide +kernel
theorem dX9_takeOver_55 : decode cX9_takeOver 55 = .ok (.aload_n 0, 1) := by decide +kernel
theorem dX9_takeOver_56 : decode cX9_takeOver 56 = .ok (.getfield 19, 3) := by decide +kernel
theorem dX9_takeOver_59 : decode cX9_takeOver 59 = .ok (.iconst 0, 1) := by decide +kernel
theorem dX9_takeOver_60 : decode cX9_takeOver 60 = .ok (.aload_n 0, 1) := by decide +kernel
theorem dX9_takeOver_61 : decode cX9_takeOver 61 = .ok (.getfield 19, 3) := by decide +kernel
theorem dX9_takeOver_64 : decode cX9_takeOver 64 = .ok (.arraylength, 1) := by decide +kernel
theorem dX9_takeOver_65 : decode cX9_takeOver 65 = .ok (.invokestatic 70, 3) := by decide +kernel
theorem dX9_takeOver_68 : decode cX9_takeOver 68 = .ok (.aload_n 1, 1) := by decide +kernel
theorem dX9_takeOver_69 : decode cX9_takeOver 69 = .ok (.getfield 23, 3) := by decide +kernel
theorem dX9_takeOver_72 : decode cX9_takeOver 72 = .ok (.iconst 0, 1) := by decide +kernel
theorem dX9_takeOver_73 : decode cX9_takeOver 73 = .ok (.aload_n 0, 1) := by decide +kernel
theorem dX9_takeOver_74 : decode cX9_takeOver 74 = .ok (.getfield 23, 3) := by decide +kernel
theorem dX9_takeOver_77 : decode cX9_takeOver 77 = .ok (.iconst 0, 1) := by decide +kernel
theorem dX9_takeOver_78 : decode cX9_takeOver 78 = .ok (.aload_n 0, 1) := by decide +kernel
theorem dX9_takeOver_79 : decode cX9_takeOver 79 = .ok (.getfield 23, 3) := by decide +kernel
theorem dX9_takeOver_82 : decode cX9_takeOver 82 = .ok (.arraylength, 1) := by decide +kernel
theorem dX9_takeOver_83 : decode cX9_takeOver 83 = .ok (.invokestatic 70, 3) := by decide +kernel
theorem dX9_takeOver_86 : decode cX9_takeOver 86 = .ok (.aload_n 1, 1) := by decide +kernel
theorem dX9_takeOver_87 : decode cX9_takeOver 87 = .ok (.getfield 26, 3) := by decide +kernel
theorem dX9_takeOver_90 : decode cX9_takeOver 90 = .ok (.iconst 0, 1) := by decide +kernel
theorem dX9_takeOver_91 : decode cX9_takeOver 91 = .ok (.aload_n 0, 1) := by decide +kernel
theorem dX9_takeOver_92 : decode cX9_takeOver 92 = .ok (.getfield 26, 3) := by decide +kernel
theorem dX9_takeOver_95 : decode cX9_takeOver 95 = .ok (.iconst 0, 1) := by decide +kernel
theorem dX9_takeOver_96 : decode cX9_takeOver 96 = .ok (.aload_n 0, 1) := by decide +kernel
theorem dX9_takeOver_97 : decode cX9_takeOver 97 = .ok (.getfield 26, 3) := by decide +kernel
theorem dX9_takeOver_100 : decode cX9_takeOver 100 = .ok (.arraylength, 1) := by decide +kernel
theorem dX9_takeOver_101 : decode cX9_takeOver 101 = .ok (.invokestatic 70, 3) := by decide +kernel
theorem dX9_takeOver_104 : decode cX9_takeOver 104 = .ok (.aload_n 1, 1) := by decide +kernel
theorem dX9_takeOver_105 : decode cX9_takeOver 105 = .ok (.getfield 31, 3) := by decide +kernel
theorem dX9_takeOver_108 : decode cX9_takeOver 108 = .ok (.iconst 0, 1) := by decide +kernel
theorem dX9_takeOver_109 : decode cX9_takeOver 109 = .ok (.aload_n 0, 1) := by decide +kernel
theorem dX9_takeOver_110 : decode cX9_takeOver 110 = .ok (.getfield 31, 3) := by decide +kernel
theorem dX9_takeOver_113 : decode cX9_takeOver 113 = .ok (.iconst 0, 1) := by decide +kernel
theorem dX9_takeOver_114 : decode cX9_takeOver 114 = .ok (.aload_n 0, 1) := by decide +kernel
theorem dX9_takeOver_115 : decode cX9_takeOver 115 = .ok (.getfield 31, 3) := by decide +kernel
theorem dX9_takeOver_118 : decode cX9_takeOver 118 = .ok (.arraylength, 1) := by decide +kernel
theorem dX9_takeOver_119 : decode cX9_takeOver 119 = .ok (.invokestatic 70, 3) := by decide +kernel
theorem dX9_takeOver_122 : decode cX9_takeOver 122 = .ok (.aload_n 0, 1) := by decide +kernel
theorem dX9_takeOver_123 : decode cX9_takeOver 123 = .ok (.getfield 38, 3) := by decide +kernel
theorem dX9_takeOver_126 : decode cX9_takeOver 126 = .ok (.aload_n 1, 1) := by decide +kernel
theorem dX9_takeOver_127 : decode cX9_takeOver 127 = .ok (.getfield 38, 3) := by decide +kernel
theorem dX9_takeOver_130 : decode cX9_takeOver 130 = .ok (.invokevirtual 76, 3) := by decide +kernel
theorem dX9_takeOver_133 : decode cX9_takeOver 133 = .ok (.return_, 1) := by decide +kernel
theorem rX9_takeOver_0 {G : kz_G} {d : Nat} {Qr : Option Value → kz_M → Prop} {Qx : String → kz_M → Prop} {a0 : Nat} {p1 : Nat}  {M : kz_M} (h : ∃ fs1 v2, (M).1 p1 = some (.inl (8, fs1)) ∧ fs1[0]? = some (.int v2) ∧ (∃ fs3, (M).1 a0 = some (.inl (8, fs3)) ∧ 0 < fs3.length ∧ (∃ fs4 v5, ((kz_up M a0 (.inl (8, fs3.set 0 (.int v2))))).1 p1 = some (.inl (8, fs4)) ∧ fs4[1]? = some (.int v5) ∧ (∃ fs6, ((kz_up M a0 (.inl (8, fs3.set 0 (.int v2))))).1 a0 = some (.inl (8, fs6)) ∧ 1 < fs6.length ∧ (∃ fs7 v8, ((kz_up (kz_up M a0 (.inl (8, fs3.set 0 (.int v2)))) a0 (.inl (8, fs6.set 1 (.int v5))))).1 p1 = some (.inl (8, fs7)) ∧ fs7[2]? = some (.int v8) ∧ (∃ fs9, ((kz_up (kz_up M a0 (.inl (8, fs3.set 0 (.int v2)))) a0 (.inl (8, fs6.set 1 (.int v5))))).1 a0 = some (.inl (8, fs9)) ∧ 2 < fs9.length ∧ (∃ fs10 v11, ((kz_up (kz_up (kz_up M a0 (.inl (8, fs3.set 0 (.int v2)))) a0 (.inl (8, fs6.set 1 (.int v5)))) a0 (.inl (8, fs9.set 2 (.int v8))))).1 p1 = some (.inl (8, fs10)) ∧ fs10[3]? = some (.int v11) ∧ (∃ fs12, ((kz_up (kz_up (kz_up M a0 (.inl (8, fs3.set 0 (.int v2)))) a0 (.inl (8, fs6.set 1 (.int v5)))) a0 (.inl (8, fs9.set 2 (.int v8))))).1 a0 = some (.inl (8, fs12)) ∧ 3 < fs12.length ∧ (∀ M13, M13 = kz_up (kz_up (kz_up (kz_up M a0 (.inl (8, fs3.set 0 (.int v2)))) a0 (.inl (8, fs6.set 1 (.int v5)))) a0 (.inl (8, fs9.set 2 (.int v8)))) a0 (.inl (8, fs12.set 3 (.int v11))) → ∃ fs14 v15, (M13).1 p1 = some (.inl (8, fs14)) ∧ fs14[4]? = some (.ref v15) ∧ (∃ fs16 v17, (M13).1 a0 = some (.inl (8, fs16)) ∧ fs16[4]? = some (.ref v17) ∧ (∃ fs18 v19, (M13).1 a0 = some (.inl (8, fs18)) ∧ fs18[4]? = some (.ref v19) ∧ (∃ ty20 A21, (M13).1 v19 = some (.inr (ty20, A21)) ∧ (∃ n24 f22 n25 g23, (M13).1 v15 = some (.inr (.int, n24, .inl f22)) ∧ (M13).1 v17 = some (.inr (.int, n25, .inl g23)) ∧ ¬ 0 < (0 : Int32) ∧ ¬ 0 < (0 : Int32) ∧ ¬ (Int32.ofNat A21.1) < (0 : Int32) ∧ (0 : Int32).toNatClampNeg + (Int32.ofNat A21.1 : Int32).toNatClampNeg ≤ n24 ∧ (0 : Int32).toNatClampNeg + (Int32.ofNat A21.1 : Int32).toNatClampNeg ≤ n25 ∧ (∃ fs26 v27, ((kz_up M13 v17 (.inr (.int, n25, .inl (va_cpy f22 g23 (0 : Int32).toNatClampNeg (0 : Int32).toNatClampNeg (Int32.ofNat A21.1 : Int32).toNatClampNeg))))).1 p1 = some (.inl (8, fs26)) ∧ fs26[5]? = some (.ref v27) ∧ (∃ fs28 v29, ((kz_up M13 v17 (.inr (.int, n25, .inl (va_cpy f22 g23 (0 : Int32).toNatClampNeg (0 : Int32).toNatClampNeg (Int32.ofNat A21.1 : Int32).toNatClampNeg))))).1 a0 = some (.inl (8, fs28)) ∧ fs28[5]? = some (.ref v29) ∧ (∃ fs30 v31, ((kz_up M13 v17 (.inr (.int, n25, .inl (va_cpy f22 g23 (0 : Int32).toNatClampNeg (0 : Int32).toNatClampNeg (Int32.ofNat A21.1 : Int32).toNatClampNeg))))).1 a0 = some (.inl (8, fs30)) ∧ fs30[5]? = some (.ref v31) ∧ (∃ ty32 A33, ((kz_up M13 v17 (.inr (.int, n25, .inl (va_cpy f22 g23 (0 : Int32).toNatClampNeg (0 : Int32).toNatClampNeg (Int32.ofNat A21.1 : Int32).toNatClampNeg))))).1 v31 = some (.inr (ty32, A33)) ∧ (∃ n36 f34 n37 g35, ((kz_up M13 v17 (.inr (.int, n25, .inl (va_cpy f22 g23 (0 : Int32).toNatClampNeg (0 : Int32).toNatClampNeg (Int32.ofNat A21.1 : Int32).toNatClampNeg))))).1 v27 = some (.inr (.long, n36, .inr (.inl f34))) ∧ ((kz_up M13 v17 (.inr (.int, n25, .inl (va_cpy f22 g23 (0 : Int32).toNatClampNeg (0 : Int32).toNatClampNeg (Int32.ofNat A21.1 : Int32).toNatClampNeg))))).1 v29 = some (.inr (.long, n37, .inr (.inl g35))) ∧ ¬ 0 < (0 : Int32) ∧ ¬ 0 < (0 : Int32) ∧ ¬ (Int32.ofNat A33.1) < (0 : Int32) ∧ (0 : Int32).toNatClampNeg + (Int32.ofNat A33.1 : Int32).toNatClampNeg ≤ n36 ∧ (0 : Int32).toNatClampNeg + (Int32.ofNat A33.1 : Int32).toNatClampNeg ≤ n37 ∧ (∃ fs38 v39, ((kz_up (kz_up M13 v17 (.inr (.int, n25, .inl (va_cpy f22 g23 (0 : Int32).toNatClampNeg (0 : Int32).toNatClampNeg (Int32.ofNat A21.1 : Int32).toNatClampNeg)))) v29 (.inr (.long, n37, .inr (.inl (va_cpy f34 g35 (0 : Int32).toNatClampNeg (0 : Int32).toNatClampNeg (Int32.ofNat A33.1 : Int32).toNatClampNeg)))))).1 p1 = some (.inl (8, fs38)) ∧ fs38[6]? = some (.ref v39) ∧ (∃ fs40 v41, ((kz_up (kz_up M13 v17 (.inr (.int, n25, .inl (va_cpy f22 g23 (0 : Int32).toNatClampNeg (0 : Int32).toNatClampNeg (Int32.ofNat A21.1 : Int32).toNatClampNeg)))) v29 (.inr (.long, n37, .inr (.inl (va_cpy f34 g35 (0 : Int32).toNatClampNeg (0 : Int32).toNatClampNeg (Int32.ofNat A33.1 : Int32).toNatClampNeg)))))).1 a0 = some (.inl (8, fs40)) ∧ fs40[6]? = some (.ref v41) ∧ (∃ fs42 v43, ((kz_up (kz_up M13 v17 (.inr (.int, n25, .inl (va_cpy f22 g23 (0 : Int32).toNatClampNeg (0 : Int32).toNatClampNeg (Int32.ofNat A21.1 : Int32).toNatClampNeg)))) v29 (.inr (.long, n37, .inr (.inl (va_cpy f34 g35 (0 : Int32).toNatClampNeg (0 : Int32).toNatClampNeg (Int32.ofNat A33.1 : Int32).toNatClampNeg)))))).1 a0 = some (.inl (8, fs42)) ∧ fs42[6]? = some (.ref v43) ∧ (∃ ty44 A45, ((kz_up (kz_up M13 v17 (.inr (.int, n25, .inl (va_cpy f22 g23 (0 : Int32).toNatClampNeg (0 : Int32).toNatClampNeg (Int32.ofNat A21.1 : Int32).toNatClampNeg)))) v29 (.inr (.long, n37, .inr (.inl (va_cpy f34 g35 (0 : Int32).toNatClampNeg (0 : Int32).toNatClampNeg (Int32.ofNat A33.1 : Int32).toNatClampNeg)))))).1 v43 = some (.inr (ty44, A45)) ∧ (∃ n48 f46 n49 g47, ((kz_up (kz_up M13 v17 (.inr (.int, n25, .inl (va_cpy f22 g23 (0 : Int32).toNatClampNeg (0 : Int32).toNatClampNeg (Int32.ofNat A21.1 : Int32).toNatClampNeg)))) v29 (.inr (.long, n37, .inr (.inl (va_cpy f34 g35 (0 : Int32).toNatClampNeg (0 : Int32).toNatClampNeg (Int32.ofNat A33.1 : Int32).toNatClampNeg)))))).1 v39 = some (.inr (.int, n48, .inl f46)) ∧ ((kz_up (kz_up M13 v17 (.inr (.int, n25, .inl (va_cpy f22 g23 (0 : Int32).toNatClampNeg (0 : Int32).toNatClampNeg (Int32.ofNat A21.1 : Int32).toNatClampNeg)))) v29 (.inr (.long, n37, .inr (.inl (va_cpy f34 g35 (0 : Int32).toNatClampNeg (0 : Int32).toNatClampNeg (Int32.ofNat A33.1 : Int32).toNatClampNeg)))))).1 v41 = some (.inr (.int, n49, .inl g47)) ∧ ¬ 0 < (0 : Int32) ∧ ¬ 0 < (0 : Int32) ∧ ¬ (Int32.ofNat A45.1) < (0 : Int32) ∧ (0 : Int32).toNatClampNeg + (Int32.ofNat A45.1 : Int32).toNatClampNeg ≤ n48 ∧ (0 : Int32).toNatClampNeg + (Int32.ofNat A45.1 : Int32).toNatClampNeg ≤ n49 ∧ (∃ fs50 v51, ((kz_up (kz_up (kz_up M13 v17 (.inr (.int, n25, .inl (va_cpy f22 g23 (0 : Int32).toNatClampNeg (0 : Int32).toNatClampNeg (Int32.ofNat A21.1 : Int32).toNatClampNeg)))) v29 (.inr (.long, n37, .inr (.inl (va_cpy f34 g35 (0 : Int32).toNatClampNeg (0 : Int32).toNatClampNeg (Int32.ofNat A33.1 : Int32).toNatClampNeg))))) v41 (.inr (.int, n49, .inl (va_cpy f46 g47 (0 : Int32).toNatClampNeg (0 : Int32).toNatClampNeg (Int32.ofNat A45.1 : Int32).toNatClampNeg))))).1 p1 = some (.inl (8, fs50)) ∧ fs50[7]? = some (.ref v51) ∧ (∃ fs52 v53, ((kz_up (kz_up (kz_up M13 v17 (.inr (.int, n25, .inl (va_cpy f22 g23 (0 : Int32).toNatClampNeg (0 : Int32).toNatClampNeg (Int32.ofNat A21.1 : Int32).toNatClampNeg)))) v29 (.inr (.long, n37, .inr (.inl (va_cpy f34 g35 (0 : Int32).toNatClampNeg (0 : Int32).toNatClampNeg (Int32.ofNat A33.1 : Int32).toNatClampNeg))))) v41 (.inr (.int, n49, .inl (va_cpy f46 g47 (0 : Int32).toNatClampNeg (0 : Int32).toNatClampNeg (Int32.ofNat A45.1 : Int32).toNatClampNeg))))).1 a0 = some (.inl (8, fs52)) ∧ fs52[7]? = some (.ref v53) ∧ (∃ fs54 v55, ((kz_up (kz_up (kz_up M13 v17 (.inr (.int, n25, .inl (va_cpy f22 g23 (0 : Int32).toNatClampNeg (0 : Int32).toNatClampNeg (Int32.ofNat A21.1 : Int32).toNatClampNeg)))) v29 (.inr (.long, n37, .inr (.inl (va_cpy f34 g35 (0 : Int32).toNatClampNeg (0 : Int32).toNatClampNeg (Int32.ofNat A33.1 : Int32).toNatClampNeg))))) v41 (.inr (.int, n49, .inl (va_cpy f46 g47 (0 : Int32).toNatClampNeg (0 : Int32).toNatClampNeg (Int32.ofNat A45.1 : Int32).toNatClampNeg))))).1 a0 = some (.inl (8, fs54)) ∧ fs54[7]? = some (.ref v55) ∧ (∃ ty56 A57, ((kz_up (kz_up (kz_up M13 v17 (.inr (.int, n25, .inl (va_cpy f22 g23 (0 : Int32).toNatClampNeg (0 : Int32).toNatClampNeg (Int32.ofNat A21.1 : Int32).toNatClampNeg)))) v29 (.inr (.long, n37, .inr (.inl (va_cpy f34 g35 (0 : Int32).toNatClampNeg (0 : Int32).toNatClampNeg (Int32.ofNat A33.1 : Int32).toNatClampNeg))))) v41 (.inr (.int, n49, .inl (va_cpy f46 g47 (0 : Int32).toNatClampNeg (0 : Int32).toNatClampNeg (Int32.ofNat A45.1 : Int32).toNatClampNeg))))).1 v55 = some (.inr (ty56, A57)) ∧ (∃ n60 f58 n61 g59, ((kz_up (kz_up (kz_up M13 v17 (.inr (.int, n25, .inl (va_cpy f22 g23 (0 : Int32).toNatClampNeg (0 : Int32).toNatClampNeg (Int32.ofNat A21.1 : Int32).toNatClampNeg)))) v29 (.inr (.long, n37, .inr (.inl (va_cpy f34 g35 (0 : Int32).toNatClampNeg (0 : Int32).toNatClampNeg (Int32.ofNat A33.1 : Int32).toNatClampNeg))))) v41 (.inr (.int, n49, .inl (va_cpy f46 g47 (0 : Int32).toNatClampNeg (0 : Int32).toNatClampNeg (Int32.ofNat A45.1 : Int32).toNatClampNeg))))).1 v51 = some (.inr (.int, n60, .inl f58)) ∧ ((kz_up (kz_up (kz_up M13 v17 (.inr (.int, n25, .inl (va_cpy f22 g23 (0 : Int32).toNatClampNeg (0 : Int32).toNatClampNeg (Int32.ofNat A21.1 : Int32).toNatClampNeg)))) v29 (.inr (.long, n37, .inr (.inl (va_cpy f34 g35 (0 : Int32).toNatClampNeg (0 : Int32).toNatClampNeg (Int32.ofNat A33.1 : Int32).toNatClampNeg))))) v41 (.inr (.int, n49, .inl (va_cpy f46 g47 (0 : Int32).toNatClampNeg (0 : Int32).toNatClampNeg (Int32.ofNat A45.1 : Int32).toNatClampNeg))))).1 v53 = some (.inr (.int, n61, .inl g59)) ∧ ¬ 0 < (0 : Int32) ∧ ¬ 0 < (0 : Int32) ∧ ¬ (Int32.ofNat A57.1) < (0 : Int32) ∧ (0 : Int32).toNatClampNeg + (Int32.ofNat A57.1 : Int32).toNatClampNeg ≤ n60 ∧ (0 : Int32).toNatClampNeg + (Int32.ofNat A57.1 : Int32).toNatClampNeg ≤ n61 ∧ (∃ fs62 v63, ((kz_up (kz_up (kz_up (kz_up M13 v17 (.inr (.int, n25, .inl (va_cpy f22 g23 (0 : Int32).toNatClampNeg (0 : Int32).toNatClampNeg (Int32.ofNat A21.1 : Int32).toNatClampNeg)))) v29 (.inr (.long, n37, .inr (.inl (va_cpy f34 g35 (0 : Int32).toNatClampNeg (0 : Int32).toNatClampNeg (Int32.ofNat A33.1 : Int32).toNatClampNeg))))) v41 (.inr (.int, n49, .inl (va_cpy f46 g47 (0 : Int32).toNatClampNeg (0 : Int32).toNatClampNeg (Int32.ofNat A45.1 : Int32).toNatClampNeg)))) v53 (.inr (.int, n61, .inl (va_cpy f58 g59 (0 : Int32).toNatClampNeg (0 : Int32).toNatClampNeg (Int32.ofNat A57.1 : Int32).toNatClampNeg))))).1 p1 = some (.inl (8, fs62)) ∧ fs62[8]? = some (.ref v63) ∧ (∃ fs64 v65, ((kz_up (kz_up (kz_up (kz_up M13 v17 (.inr (.int, n25, .inl (va_cpy f22 g23 (0 : Int32).toNatClampNeg (0 : Int32).toNatClampNeg (Int32.ofNat A21.1 : Int32).toNatClampNeg)))) v29 (.inr (.long, n37, .inr (.inl (va_cpy f34 g35 (0 : Int32).toNatClampNeg (0 : Int32).toNatClampNeg (Int32.ofNat A33.1 : Int32).toNatClampNeg))))) v41 (.inr (.int, n49, .inl (va_cpy f46 g47 (0 : Int32).toNatClampNeg (0 : Int32).toNatClampNeg (Int32.ofNat A45.1 : Int32).toNatClampNeg)))) v53 (.inr (.int, n61, .inl (va_cpy f58 g59 (0 : Int32).toNatClampNeg (0 : Int32).toNatClampNeg (Int32.ofNat A57.1 : Int32).toNatClampNeg))))).1 a0 = some (.inl (8, fs64)) ∧ fs64[8]? = some (.ref v65) ∧ (∃ fs66 v67, ((kz_up (kz_up (kz_up (kz_up M13 v17 (.inr (.int, n25, .inl (va_cpy f22 g23 (0 : Int32).toNatClampNeg (0 : Int32).toNatClampNeg (Int32.ofNat A21.1 : Int32).toNatClampNeg)))) v29 (.inr (.long, n37, .inr (.inl (va_cpy f34 g35 (0 : Int32).toNatClampNeg (0 : Int32).toNatClampNeg (Int32.ofNat A33.1 : Int32).toNatClampNeg))))) v41 (.inr (.int, n49, .inl (va_cpy f46 g47 (0 : Int32).toNatClampNeg (0 : Int32).toNatClampNeg (Int32.ofNat A45.1 : Int32).toNatClampNeg)))) v53 (.inr (.int, n61, .inl (va_cpy f58 g59 (0 : Int32).toNatClampNeg (0 : Int32).toNatClampNeg (Int32.ofNat A57.1 : Int32).toNatClampNeg))))).1 a0 = some (.inl (8, fs66)) ∧ fs66[8]? = some (.ref v67) ∧ (∃ ty68 A69, ((kz_up (kz_up (kz_up (kz_up M13 v17 (.inr (.int, n25, .inl (va_cpy f22 g23 (0 : Int32).toNatClampNeg (0 : Int32).toNatClampNeg (Int32.ofNat A21.1 : Int32).toNatClampNeg)))) v29 (.inr (.long, n37, .inr (.inl (va_cpy f34 g35 (0 : Int32).toNatClampNeg (0 : Int32).toNatClampNeg (Int32.ofNat A33.1 : Int32).toNatClampNeg))))) v41 (.inr (.int, n49, .inl (va_cpy f46 g47 (0 : Int32).toNatClampNeg (0 : Int32).toNatClampNeg (Int32.ofNat A45.1 : Int32).toNatClampNeg)))) v53 (.inr (.int, n61, .inl (va_cpy f58 g59 (0 : Int32).toNatClampNeg (0 : Int32).toNatClampNeg (Int32.ofNat A57.1 : Int32).toNatClampNeg))))).1 v67 = some (.inr (ty68, A69)) ∧ (∃ n72 f70 n73 g71, ((kz_up (kz_up (kz_up (kz_up M13 v17 (.inr (.int, n25, .inl (va_cpy f22 g23 (0 : Int32).toNatClampNeg (0 : Int32).toNatClampNeg (Int32.ofNat A21.1 : Int32).toNatClampNeg)))) v29 (.inr (.long, n37, .inr (.inl (va_cpy f34 g35 (0 : Int32).toNatClampNeg (0 : Int32).toNatClampNeg (Int32.ofNat A33.1 : Int32).toNatClampNeg))))) v41 (.inr (.int, n49, .inl (va_cpy f46 g47 (0 : Int32).toNatClampNeg (0 : Int32).toNatClampNeg (Int32.ofNat A45.1 : Int32).toNatClampNeg)))) v53 (.inr (.int, n61, .inl (va_cpy f58 g59 (0 : Int32).toNatClampNeg (0 : Int32).toNatClampNeg (Int32.ofNat A57.1 : Int32).toNatClampNeg))))).1 v63 = some (.inr (.object "LineOffice$Work", n72, .inr (.inr (.inr (.inr f70))))) ∧ ((kz_up (kz_up (kz_up (kz_up M13 v17 (.inr (.int, n25, .inl (va_cpy f22 g23 (0 : Int32).toNatClampNeg (0 : Int32).toNatClampNeg (Int32.ofNat A21.1 : Int32).toNatClampNeg)))) v29 (.inr (.long, n37, .inr (.inl (va_cpy f34 g35 (0 : Int32).toNatClampNeg (0 : Int32).toNatClampNeg (Int32.ofNat A33.1 : Int32).toNatClampNeg))))) v41 (.inr (.int, n49, .inl (va_cpy f46 g47 (0 : Int32).toNatClampNeg (0 : Int32).toNatClampNeg (Int32.ofNat A45.1 : Int32).toNatClampNeg)))) v53 (.inr (.int, n61, .inl (va_cpy f58 g59 (0 : Int32).toNatClampNeg (0 : Int32).toNatClampNeg (Int32.ofNat A57.1 : Int32).toNatClampNeg))))).1 v65 = some (.inr (.object "LineOffice$Work", n73, .inr (.inr (.inr (.inr g71))))) ∧ (∀ i, i < n72 → ∀ y, f70 i = some y → ∃ fs, ((kz_up (kz_up (kz_up (kz_up M13 v17 (.inr (.int, n25, .inl (va_cpy f22 g23 (0 : Int32).toNatClampNeg (0 : Int32).toNatClampNeg (Int32.ofNat A21.1 : Int32).toNatClampNeg)))) v29 (.inr (.long, n37, .inr (.inl (va_cpy f34 g35 (0 : Int32).toNatClampNeg (0 : Int32).toNatClampNeg (Int32.ofNat A33.1 : Int32).toNatClampNeg))))) v41 (.inr (.int, n49, .inl (va_cpy f46 g47 (0 : Int32).toNatClampNeg (0 : Int32).toNatClampNeg (Int32.ofNat A45.1 : Int32).toNatClampNeg)))) v53 (.inr (.int, n61, .inl (va_cpy f58 g59 (0 : Int32).toNatClampNeg (0 : Int32).toNatClampNeg (Int32.ofNat A57.1 : Int32).toNatClampNeg))))).1 y = some (.inl (9, fs))) ∧ ¬ 0 < (0 : Int32) ∧ ¬ 0 < (0 : Int32) ∧ ¬ (Int32.ofNat A69.1) < (0 : Int32) ∧ (0 : Int32).toNatClampNeg + (Int32.ofNat A69.1 : Int32).toNatClampNeg ≤ n72 ∧ (0 : Int32).toNatClampNeg + (Int32.ofNat A69.1 : Int32).toNatClampNeg ≤ n73 ∧ (∃ fs74 v75, ((kz_up (kz_up (kz_up (kz_up (kz_up M13 v17 (.inr (.int, n25, .inl (va_cpy f22 g23 (0 : Int32).toNatClampNeg (0 : Int32).toNatClampNeg (Int32.ofNat A21.1 : Int32).toNatClampNeg)))) v29 (.inr (.long, n37, .inr (.inl (va_cpy f34 g35 (0 : Int32).toNatClampNeg (0 : Int32).toNatClampNeg (Int32.ofNat A33.1 : Int32).toNatClampNeg))))) v41 (.inr (.int, n49, .inl (va_cpy f46 g47 (0 : Int32).toNatClampNeg (0 : Int32).toNatClampNeg (Int32.ofNat A45.1 : Int32).toNatClampNeg)))) v53 (.inr (.int, n61, .inl (va_cpy f58 g59 (0 : Int32).toNatClampNeg (0 : Int32).toNatClampNeg (Int32.ofNat A57.1 : Int32).toNatClampNeg)))) v65 (.inr (.object "LineOffice$Work", n73, .inr (.inr (.inr (.inr (va_cpy f70 g71 (0 : Int32).toNatClampNeg (0 : Int32).toNatClampNeg (Int32.ofNat A69.1 : Int32).toNatClampNeg)))))))).1 a0 = some (.inl (8, fs74)) ∧ fs74[9]? = some (.ref v75) ∧ (∃ fs76 v77, ((kz_up (kz_up (kz_up (kz_up (kz_up M13 v17 (.inr (.int, n25, .inl (va_cpy f22 g23 (0 : Int32).toNatClampNeg (0 : Int32).toNatClampNeg (Int32.ofNat A21.1 : Int32).toNatClampNeg)))) v29 (.inr (.long, n37, .inr (.inl (va_cpy f34 g35 (0 : Int32).toNatClampNeg (0 : Int32).toNatClampNeg (Int32.ofNat A33.1 : Int32).toNatClampNeg))))) v41 (.inr (.int, n49, .inl (va_cpy f46 g47 (0 : Int32).toNatClampNeg (0 : Int32).toNatClampNeg (Int32.ofNat A45.1 : Int32).toNatClampNeg)))) v53 (.inr (.int, n61, .inl (va_cpy f58 g59 (0 : Int32).toNatClampNeg (0 : Int32).toNatClampNeg (Int32.ofNat A57.1 : Int32).toNatClampNeg)))) v65 (.inr (.object "LineOffice$Work", n73, .inr (.inr (.inr (.inr (va_cpy f70 g71 (0 : Int32).toNatClampNeg (0 : Int32).toNatClampNeg (Int32.ofNat A69.1 : Int32).toNatClampNeg)))))))).1 p1 = some (.inl (8, fs76)) ∧ fs76[9]? = some (.ref v77) ∧ ((∃ fs81, ((kz_up (kz_up (kz_up (kz_up (kz_up M13 v17 (.inr (.int, n25, .inl (va_cpy f22 g23 (0 : Int32).toNatClampNeg (0 : Int32).toNatClampNeg (Int32.ofNat A21.1 : Int32).toNatClampNeg)))) v29 (.inr (.long, n37, .inr (.inl (va_cpy f34 g35 (0 : Int32).toNatClampNeg (0 : Int32).toNatClampNeg (Int32.ofNat A33.1 : Int32).toNatClampNeg))))) v41 (.inr (.int, n49, .inl (va_cpy f46 g47 (0 : Int32).toNatClampNeg (0 : Int32).toNatClampNeg (Int32.ofNat A45.1 : Int32).toNatClampNeg)))) v53 (.inr (.int, n61, .inl (va_cpy f58 g59 (0 : Int32).toNatClampNeg (0 : Int32).toNatClampNeg (Int32.ofNat A57.1 : Int32).toNatClampNeg)))) v65 (.inr (.object "LineOffice$Work", n73, .inr (.inr (.inr (.inr (va_cpy f70 g71 (0 : Int32).toNatClampNeg (0 : Int32).toNatClampNeg (Int32.ofNat A69.1 : Int32).toNatClampNeg)))))))).1 v75 = some (.inl (2, fs81))) ∧ kz_C G (d + 1) 0 0 mX2_takeOver [.ref v75, .ref v77] (kz_up (kz_up (kz_up (kz_up (kz_up M13 v17 (.inr (.int, n25, .inl (va_cpy f22 g23 (0 : Int32).toNatClampNeg (0 : Int32).toNatClampNeg (Int32.ofNat A21.1 : Int32).toNatClampNeg)))) v29 (.inr (.long, n37, .inr (.inl (va_cpy f34 g35 (0 : Int32).toNatClampNeg (0 : Int32).toNatClampNeg (Int32.ofNat A33.1 : Int32).toNatClampNeg))))) v41 (.inr (.int, n49, .inl (va_cpy f46 g47 (0 : Int32).toNatClampNeg (0 : Int32).toNatClampNeg (Int32.ofNat A45.1 : Int32).toNatClampNeg)))) v53 (.inr (.int, n61, .inl (va_cpy f58 g59 (0 : Int32).toNatClampNeg (0 : Int32).toNatClampNeg (Int32.ofNat A57.1 : Int32).toNatClampNeg)))) v65 (.inr (.object "LineOffice$Work", n73, .inr (.inr (.inr (.inr (va_cpy f70 g71 (0 : Int32).toNatClampNeg (0 : Int32).toNatClampNeg (Int32.ofNat A69.1 : Int32).toNatClampNeg))))))) (fun v M78 => v = none ∧ (Qr none M78)) Qx)))))))))))))))))))))))))))))))))))) : kz_C G (d + 2) 0 0 mX9_takeOver [.ref a0, .ref p1] M Qr Qx := by
  refine kz_enter (n := 1) kmX9_takeOver.1 (Nat.le_of_ble_eq_true rfl) (ls := [(0, .ref a0), (1, .ref p1)]) rfl ?_
  refine kz_aload_n (pc := 0) 0 (v := .ref a0) (i := 0) rfl rfl rfl dX9_takeOver_0 ?_
  refine kz_aload_n (pc := 1) 1 (v := .ref p1) (i := 1) rfl rfl rfl dX9_takeOver_1 ?_
  obtain ⟨fs1, v2, hM, hv, h⟩ := h
  refine kz_getf (pc := 2) (k := 0) kcX9 hM hv (by decide) kw_107 dX9_takeOver_2 ?_
  obtain ⟨fs3, hM, hlen, h⟩ := h
  refine kz_putf (pc := 5) (k := 0) kcX9 hM (by decide) hlen kw_107 rfl rfl rfl dX9_takeOver_5 ?_
  refine kz_aload_n (pc := 8) 0 (v := .ref a0) (i := 0) rfl rfl rfl dX9_takeOver_8 ?_
  refine kz_aload_n (pc := 9) 1 (v := .ref p1) (i := 1) rfl rfl rfl dX9_takeOver_9 ?_
  obtain ⟨fs4, v5, hM, hv, h⟩ := h
  refine kz_getf (pc := 10) (k := 1) kcX9 hM hv (by decide) kw_109 dX9_takeOver_10 ?_
  obtain ⟨fs6, hM, hlen, h⟩ := h
  refine kz_putf (pc := 13) (k := 1) kcX9 hM (by decide) hlen kw_109 rfl rfl rfl dX9_takeOver_13 ?_
  refine kz_aload_n (pc := 16) 0 (v := .ref a0) (i := 0) rfl rfl rfl dX9_takeOver_16 ?_
  refine kz_aload_n (pc := 17) 1 (v := .ref p1) (i := 1) rfl rfl rfl dX9_takeOver_17 ?_
  obtain ⟨fs7, v8, hM, hv, h⟩ := h
  refine kz_getf (pc := 18) (k := 2) kcX9 hM hv (by decide) kw_112 dX9_takeOver_18 ?_
  obtain ⟨fs9, hM, hlen, h⟩ := h
  refine kz_putf (pc := 21) (k := 2) kcX9 hM (by decide) hlen kw_112 rfl rfl rfl dX9_takeOver_21 ?_
  refine kz_aload_n (pc := 24) 0 (v := .ref a0) (i := 0) rfl rfl rfl dX9_takeOver_24 ?_
  refine kz_aload_n (pc := 25) 1 (v := .ref p1) (i := 1) rfl rfl rfl dX9_takeOver_25 ?_
  obtain ⟨fs10, v11, hM, hv, h⟩ := h
  refine kz_getf (pc := 26) (k := 3) kcX9 hM hv (by decide) kw_115 dX9_takeOver_26 ?_
  obtain ⟨fs12, hM, hlen, h⟩ := h
  refine kz_putf (pc := 29) (k := 3) kcX9 hM (by decide) hlen kw_115 rfl rfl rfl dX9_takeOver_29 ?_
  refine kz_nameM (fun M13 e9 => ?_)
  replace h := h M13 e9
  refine kz_aload_n (pc := 32) 1 (v := .ref p1) (i := 1) rfl rfl rfl dX9_takeOver_32 ?_
  obtain ⟨fs14, v15, hM, hv, h⟩ := h
  refine kz_getf (pc := 33) (k := 4) kcX9 hM hv (by decide) kw_117 dX9_takeOver_33 ?_
  refine kz_iconst (pc := 36) (v := 0) (by decide) dX9_takeOver_36 ?_
  refine kz_aload_n (pc := 37) 0 (v := .ref a0) (i := 0) rfl rfl rfl dX9_takeOver_37 ?_
  obtain ⟨fs16, v17, hM, hv, h⟩ := h
  refine kz_getf (pc := 38) (k := 4) kcX9 hM hv (by decide) kw_117 dX9_takeOver_38 ?_
  refine kz_iconst (pc := 41) (v := 0) (by decide) dX9_takeOver_41 ?_
  refine kz_aload_n (pc := 42) 0 (v := .ref a0) (i := 0) rfl rfl rfl dX9_takeOver_42 ?_
  obtain ⟨fs18, v19, hM, hv, h⟩ := h
  refine kz_getf (pc := 43) (k := 4) kcX9 hM hv (by decide) kw_117 dX9_takeOver_43 ?_
  obtain ⟨ty20, A21, hM, h⟩ := h
  refine kz_alen (pc := 46) hM rfl dX9_takeOver_46 ?_
  obtain ⟨n24, f22, n25, g23, ha, hb, h1, h2, h3, h4, h5, h⟩ := h
  refine kz_copyi (pc := 47) ⟨kw_407, kw_409, kw_408, kw_11⟩ ha hb h1 h2 h3 h4 h5 (by omega) (Nat.le_of_ble_eq_true rfl) dX9_takeOver_47 ?_
  refine kz_aload_n (pc := 50) 1 (v := .ref p1) (i := 1) rfl rfl rfl dX9_takeOver_50 ?_
  obtain ⟨fs26, v27, hM, hv, h⟩ := h
  refine kz_getf (pc := 51) (k := 5) kcX9 hM hv (by decide) kw_120 dX9_takeOver_51 ?_
  refine kz_iconst (pc := 54) (v := 0) (by decide) dX9_takeOver_54 ?_
  refine kz_aload_n (pc := 55) 0 (v := .ref a0) (i := 0) rfl rfl rfl dX9_takeOver_55 ?_
  obtain ⟨fs28, v29, hM, hv, h⟩ := h
  refine kz_getf (pc := 56) (k := 5) kcX9 hM hv (by decide) kw_120 dX9_takeOver_56 ?_
  refine kz_iconst (pc := 59) (v := 0) (by decide) dX9_takeOver_59 ?_
  refine kz_aload_n (pc := 60) 0 (v := .ref a0) (i := 0) rfl rfl rfl dX9_takeOver_60 ?_
  obtain ⟨fs30, v31, hM, hv, h⟩ := h
  refine kz_getf (pc := 61) (k := 5) kcX9 hM hv (by decide) kw_120 dX9_takeOver_61 ?_
  obtain ⟨ty32, A33, hM, h⟩ := h
  refine kz_alen (pc := 64) hM rfl dX9_takeOver_64 ?_
  obtain ⟨n36, f34, n37, g35, ha, hb, h1, h2, h3, h4, h5, h⟩ := h
  refine kz_copyl (pc := 65) ⟨kw_407, kw_409, kw_408, kw_11⟩ ha hb h1 h2 h3 h4 h5 (by omega) (Nat.le_of_ble_eq_true rfl) dX9_takeOver_65 ?_
  refine kz_aload_n (pc := 68) 1 (v := .ref p1) (i := 1) rfl rfl rfl dX9_takeOver_68 ?_
  obtain ⟨fs38, v39, hM, hv, h⟩ := h
  refine kz_getf (pc := 69) (k := 6) kcX9 hM hv (by decide) kw_121 dX9_takeOver_69 ?_
  refine kz_iconst (pc := 72) (v := 0) (by decide) dX9_takeOver_72 ?_
  refine kz_aload_n (pc := 73) 0 (v := .ref a0) (i := 0) rfl rfl rfl dX9_takeOver_73 ?_
  obtain ⟨fs40, v41, hM, hv, h⟩ := h
  refine kz_getf (pc := 74) (k := 6) kcX9 hM hv (by decide) kw_121 dX9_takeOver_74 ?_
  refine kz_iconst (pc := 77) (v := 0) (by decide) dX9_takeOver_77 ?_
  refine kz_aload_n (pc := 78) 0 (v := .ref a0) (i := 0) rfl rfl rfl dX9_takeOver_78 ?_
  obtain ⟨fs42, v43, hM, hv, h⟩ := h
  refine kz_getf (pc := 79) (k := 6) kcX9 hM hv (by decide) kw_121 dX9_takeOver_79 ?_
  obtain ⟨ty44, A45, hM, h⟩ := h
  refine kz_alen (pc := 82) hM rfl dX9_takeOver_82 ?_
  obtain ⟨n48, f46, n49, g47, ha, hb, h1, h2, h3, h4, h5, h⟩ := h
  refine kz_copyi (pc := 83) ⟨kw_407, kw_409, kw_408, kw_11⟩ ha hb h1 h2 h3 h4 h5 (by omega) (Nat.le_of_ble_eq_true rfl) dX9_takeOver_83 ?_
  refine kz_aload_n (pc := 86) 1 (v := .ref p1) (i := 1) rfl rfl rfl dX9_takeOver_86 ?_
  obtain ⟨fs50, v51, hM, hv, h⟩ := h
  refine kz_getf (pc := 87) (k := 7) kcX9 hM hv (by decide) kw_122 dX9_takeOver_87 ?_
  refine kz_iconst (pc := 90) (v := 0) (by decide) dX9_takeOver_90 ?_
  refine kz_aload_n (pc := 91) 0 (v := .ref a0) (i := 0) rfl rfl rfl dX9_takeOver_91 ?_
  obtain ⟨fs52, v53, hM, hv, h⟩ := h
  refine kz_getf (pc := 92) (k := 7) kcX9 hM hv (by decide) kw_122 dX9_takeOver_92 ?_
  refine kz_iconst (pc := 95) (v := 0) (by decide) dX9_takeOver_95 ?_
  refine kz_aload_n (pc := 96) 0 (v := .ref a0) (i := 0) rfl rfl rfl dX9_takeOver_96 ?_
  obtain ⟨fs54, v55, hM, hv, h⟩ := h
  refine kz_getf (pc := 97) (k := 7) kcX9 hM hv (by decide) kw_122 dX9_takeOver_97 ?_
  obtain ⟨ty56, A57, hM, h⟩ := h
  refine kz_alen (pc := 100) hM rfl dX9_takeOver_100 ?_
  obtain ⟨n60, f58, n61, g59, ha, hb, h1, h2, h3, h4, h5, h⟩ := h
  refine kz_copyi (pc := 101) ⟨kw_407, kw_409, kw_408, kw_11⟩ ha hb h1 h2 h3 h4 h5 (by omega) (Nat.le_of_ble_eq_true rfl) dX9_takeOver_101 ?_
  refine kz_aload_n (pc := 104) 1 (v := .ref p1) (i := 1) rfl rfl rfl dX9_takeOver_104 ?_
  obtain ⟨fs62, v63, hM, hv, h⟩ := h
  refine kz_getf (pc := 105) (k := 8) kcX9 hM hv (by decide) kw_123 dX9_takeOver_105 ?_
  refine kz_iconst (pc := 108) (v := 0) (by decide) dX9_takeOver_108 ?_
  refine kz_aload_n (pc := 109) 0 (v := .ref a0) (i := 0) rfl rfl rfl dX9_takeOver_109 ?_
  obtain ⟨fs64, v65, hM, hv, h⟩ := h
  refine kz_getf (pc := 110) (k := 8) kcX9 hM hv (by decide) kw_123 dX9_takeOver_110 ?_
  refine kz_iconst (pc := 113) (v := 0) (by decide) dX9_takeOver_113 ?_
  refine kz_aload_n (pc := 114) 0 (v := .ref a0) (i := 0) rfl rfl rfl dX9_takeOver_114 ?_
  obtain ⟨fs66, v67, hM, hv, h⟩ := h
  refine kz_getf (pc := 115) (k := 8) kcX9 hM hv (by decide) kw_123 dX9_takeOver_115 ?_
  obtain ⟨ty68, A69, hM, h⟩ := h
  refine kz_alen (pc := 118) hM rfl dX9_takeOver_118 ?_
  obtain ⟨n72, f70, n73, g71, ha, hb, hel, h1, h2, h3, h4, h5, h⟩ := h
  refine kz_copyq (pc := 119) (q := (RX10, TX10, 4)) (ci := 9) ⟨kw_407, kw_409, kw_408, kw_11⟩ rfl ha hb hel h1 h2 h3 h4 h5 (by omega) (Nat.le_of_ble_eq_true rfl) dX9_takeOver_119 ?_
  refine kz_aload_n (pc := 122) 0 (v := .ref a0) (i := 0) rfl rfl rfl dX9_takeOver_122 ?_
  obtain ⟨fs74, v75, hM, hv, h⟩ := h
  refine kz_getf (pc := 123) (k := 9) kcX9 hM hv (by decide) kw_124 dX9_takeOver_123 ?_
  refine kz_aload_n (pc := 126) 1 (v := .ref p1) (i := 1) rfl rfl rfl dX9_takeOver_126 ?_
  obtain ⟨fs76, v77, hM, hv, h⟩ := h
  refine kz_getf (pc := 127) (k := 9) kcX9 hM hv (by decide) kw_124 dX9_takeOver_127 ?_
  obtain ⟨⟨fs81, he⟩, h⟩ := h
  refine kz_callV (pc := 130) (μ' := mX2_takeOver) (ci := 2) (q := (RX2, TX2, 2)) (b := v75) (d' := d + 1) (mc' := 0) (ms' := 0) (As := [.ref v77]) (st := []) (c := 0) (sl := 0) kmX2_takeOver kw_410 (by omega) rfl (Nat.le_of_ble_eq_true rfl) he rfl rfl (Nat.le_refl _) (Nat.le_refl _) dX9_takeOver_130 (fun E M9 hx => kz_Tout rfl (Nat.le_refl _) (Nat.le_refl _) hx) (kz_Cmono (fun v M78 h => ?_) (fun _ _ h => h) h)
  obtain ⟨rfl, h⟩ := h
  show kz_Z G (d + 2) 0 0 mX9_takeOver Qr Qx 133 [(0, .ref a0), (1, .ref p1)] [] M78 0 0
  exact kz_vret (pc := 133) rfl (Nat.le_refl _) (Nat.le_refl _) dX9_takeOver_133 h
theorem dX9_rule_0 : decode cX9_rule 0 = .ok (.aload_n 0, 1) := by decide +kernel
theorem dX9_rule_1 : decode cX9_rule 1 = .ok (.getfield 13, 3) := by decide +kernel
theorem dX9_rule_4 : decode cX9_rule 4 = .ok (.iload_n 1, 1) := by decide +kernel
theorem dX9_rule_5 : decode cX9_rule 5 = .ok (.invokestatic 80, 3) := by decide +kernel
theorem dX9_rule_8 : decode cX9_rule 8 = .ok (.ireturn, 1) := by decide +kernel
theorem rX9_rule_0 {G : kz_G} {d : Nat} {Qr : Option Value → kz_M → Prop} {Qx : String → kz_M → Prop} {a0 : Nat} {p1 : Int32}  {M : kz_M} (h : ∃ fs1 v2, (M).1 a0 = some (.inl (8, fs1)) ∧ fs1[4]? = some (.ref v2) ∧ (kz_C G (d + 0) 0 0 mX11_at [.ref v2, .int p1] M (fun v M3 => ∃ r4 : Int32, v = some (.int r4) ∧ (Qr (some (.int r4)) M3)) Qx)) : kz_C G (d + 1) 0 0 mX9_rule [.ref a0, .int p1] M Qr Qx := by
  refine kz_enter (n := 1) kmX9_rule.1 (Nat.le_of_ble_eq_true rfl) (ls := [(0, .ref a0), (1, .int p1)]) rfl ?_
  refine kz_aload_n (pc := 0) 0 (v := .ref a0) (i := 0) rfl rfl rfl dX9_rule_0 ?_
  obtain ⟨fs1, v2, hM, hv, h⟩ := h
  refine kz_getf (pc := 1) (k := 4) kcX9 hM hv (by decide) kw_117 dX9_rule_1 ?_
  refine kz_iload_n (pc := 4) 1 (i := 1) rfl rfl dX9_rule_4 ?_
  refine kz_callSN (pc := 5) (μ' := mX11_at) (d' := d + 0) (mc' := 0) (ms' := 0) (As := [.ref v2, .int p1]) (st := []) (c := 0) (sl := 0) kmX11_at kw_742 (by omega) rfl (Nat.le_of_ble_eq_true rfl) (Nat.le_refl _) (Nat.le_refl _) dX9_rule_5 (fun E M9 hx => kz_Tout rfl (Nat.le_refl _) (Nat.le_refl _) hx) (kz_Cmono (fun v M3 h => ?_) (fun _ _ h => h) h)
  obtain ⟨r4, rfl, h⟩ := h
  show kz_Z G (d + 1) 0 0 mX9_rule Qr Qx 8 [(0, .ref a0), (1, .int p1)] [.int r4] M3 0 0
  exact kz_iret (pc := 8) rfl (Nat.le_refl _) (Nat.le_refl _) dX9_rule_8 h
theorem dX9_isWriter_0 : decode cX9_isWriter 0 = .ok (.iload_n 1, 1) := by decide +kernel
theorem dX9_isWriter_1 : decode cX9_isWriter 1 = .ok (.ifCond .lt 15, 3) := by decide +kernel
theorem dX9_isWriter_4 : decode cX9_isWriter 4 = .ok (.iload_n 1, 1) := by decide +kernel
theorem dX9_isWriter_5 : decode cX9_isWriter 5 = .ok (.aload_n 0, 1) := by decide +kernel
theorem dX9_isWriter_6 : decode cX9_isWriter 6 = .ok (.getfield 52, 3) := by decide +kernel
theorem dX9_isWriter_9 : decode cX9_isWriter 9 = .ok (.if_icmp .ge 7, 3) := by decide +kernel
theorem dX9_isWriter_12 : decode cX9_isWriter 12 = .ok (.iconst 1, 1) := by decide +kernel
theorem dX9_isWriter_13 : decode cX9_isWriter 13 = .ok (.goto 4, 3) := by decide +kernel
theorem dX9_isWriter_16 : decode cX9_isWriter 16 = .ok (.iconst 0, 1) := by decide +kernel
theorem dX9_isWriter_17 : decode cX9_isWriter 17 = .ok (.ireturn, 1) := by decide +kernel
theorem rX9_isWriter_0 {G : kz_G} {d : Nat} {Qr : Option Value → kz_M → Prop} {Qx : String → kz_M → Prop} {a0 : Nat} {p1 : Int32}  {M : kz_M} (h : (p1 < 0 → Qr (some (.int 0)) M) ∧ (¬ p1 < 0 → ∃ fs1 v2, (M).1 a0 = some (.inl (8, fs1)) ∧ fs1[2]? = some (.int v2) ∧ ((v2 ≤ p1 → Qr (some (.int 0)) M) ∧ (¬ v2 ≤ p1 → Qr (some (.int 1)) M)))) : kz_C G d 0 0 mX9_isWriter [.ref a0, .int p1] M Qr Qx := by
  refine kz_enter (n := 1) kmX9_isWriter.1 (Nat.le_of_ble_eq_true rfl) (ls := [(0, .ref a0), (1, .int p1)]) rfl ?_
  refine kz_iload_n (pc := 0) 1 (i := 1) rfl rfl dX9_isWriter_0 ?_
  refine kz_if_lt (pc := 1) (tgt := 16) (by decide) dX9_isWriter_1 (fun hb => ?_) (fun hb => ?_)
  · replace h := h.1 hb
    refine kz_iconst (pc := 16) (v := 0) (by decide) dX9_isWriter_16 ?_
    exact kz_zret (pc := 17) (ty := .boolean) rfl (by decide) (Nat.le_refl _) (Nat.le_refl _) dX9_isWriter_17 h
  · replace h := h.2 hb
    refine kz_iload_n (pc := 4) 1 (i := 1) rfl rfl dX9_isWriter_4 ?_
    refine kz_aload_n (pc := 5) 0 (v := .ref a0) (i := 0) rfl rfl rfl dX9_isWriter_5 ?_
    obtain ⟨fs1, v2, hM, hv, h⟩ := h
    refine kz_getf (pc := 6) (k := 2) kcX9 hM hv (by decide) kw_112 dX9_isWriter_6 ?_
    refine kz_icmp_ge (pc := 9) (tgt := 16) (by decide) dX9_isWriter_9 (fun hb => ?_) (fun hb => ?_)
    · replace h := h.1 hb
      refine kz_iconst (pc := 16) (v := 0) (by decide) dX9_isWriter_16 ?_
      exact kz_zret (pc := 17) (ty := .boolean) rfl (by decide) (Nat.le_refl _) (Nat.le_refl _) dX9_isWriter_17 h
    · replace h := h.2 hb
      refine kz_iconst (pc := 12) (v := 1) (by decide) dX9_isWriter_12 ?_
      refine kz_goto (pc := 13) (tgt := 17) (by decide) dX9_isWriter_13 ?_
      exact kz_zret (pc := 17) (ty := .boolean) rfl (by decide) (Nat.le_refl _) (Nat.le_refl _) dX9_isWriter_17 h
theorem dX9_hasWriter_0 : decode cX9_hasWriter 0 = .ok (.iconst 0, 1) := by decide +kernel
theorem dX9_hasWriter_1 : decode cX9_hasWriter 1 = .ok (.istore_n 3, 1) := by decide +kernel
theorem dX9_hasWriter_2 : decode cX9_hasWriter 2 = .ok (.iload_n 3, 1) := by decide +kernel
theorem dX9_hasWriter_3 : decode cX9_hasWriter 3 = .ok (.aload_n 0, 1) := by decide +kernel
theorem dX9_hasWriter_4 : decode cX9_hasWriter 4 = .ok (.getfield 52, 3) := by decide +kernel
theorem dX9_hasWriter_7 : decode cX9_hasWriter 7 = .ok (.if_icmp .ge 21, 3) := by decide +kernel
theorem dX9_hasWriter_10 : decode cX9_hasWriter 10 = .ok (.aload_n 0, 1) := by decide +kernel
theorem dX9_hasWriter_11 : decode cX9_hasWriter 11 = .ok (.iload_n 3, 1) := by decide +kernel
theorem dX9_hasWriter_12 : decode cX9_hasWriter 12 = .ok (.invokevirtual 84, 3) := by decide +kernel
theorem dX9_hasWriter_15 : decode cX9_hasWriter 15 = .ok (.lload_n 1, 1) := by decide +kernel
theorem dX9_hasWriter_16 : decode cX9_hasWriter 16 = .ok (.lcmp, 1) := by decide +kernel
theorem dX9_hasWriter_17 : decode cX9_hasWriter 17 = .ok (.ifCond .ne 5, 3) := by decide +kernel
theorem dX9_hasWriter_20 : decode cX9_hasWriter 20 = .ok (.iconst 1, 1) := by decide +kernel
theorem dX9_hasWriter_21 : decode cX9_hasWriter 21 = .ok (.ireturn, 1) := by decide +kernel
theorem dX9_hasWriter_22 : decode cX9_hasWriter 22 = .ok (.iinc 3 1, 3) := by decide +kernel
theorem dX9_hasWriter_25 : decode cX9_hasWriter 25 = .ok (.goto (-23), 3) := by decide +kernel
theorem dX9_hasWriter_28 : decode cX9_hasWriter 28 = .ok (.iconst 0, 1) := by decide +kernel
theorem dX9_hasWriter_29 : decode cX9_hasWriter 29 = .ok (.ireturn, 1) := by decide +kernel
def zX9_hasWriter_2 (G : kz_G) (d : Nat) (Qr : Option Value → kz_M → Prop) (Qx : String → kz_M → Prop) (x0 : Nat) (x1 : Int64) (x3 : Int32)  (M : kz_M) : Prop := kz_Z G (d + 1) 0 0 mX9_hasWriter Qr Qx 2 [(0, .ref x0), (1, .long x1), (3, .int x3)] [] M 0 0
theorem rX9_hasWriter_0 {G : kz_G} {d : Nat} {Qr : Option Value → kz_M → Prop} {Qx : String → kz_M → Prop} {a0 : Nat} {p1 : Int64}  {M : kz_M} (h : zX9_hasWriter_2 G d Qr Qx a0 p1 0 M) : kz_C G (d + 1) 0 0 mX9_hasWriter [.ref a0, .long p1] M Qr Qx := by
  refine kz_enter (n := 1) kmX9_hasWriter.1 (Nat.le_of_ble_eq_true rfl) (ls := [(0, .ref a0), (1, .long p1)]) rfl ?_
  refine kz_iconst (pc := 0) (v := 0) (by decide) dX9_hasWriter_0 ?_
  refine kz_istore_n (pc := 1) (i := 3) (ls' := [(0, .ref a0), (1, .long p1)]) rfl (by decide) rfl dX9_hasWriter_1 ?_
  refine kz_sub [1, 2, 0] rfl ?_
  exact h
theorem rX9_hasWriter_2 {G : kz_G} {d : Nat} {Qr : Option Value → kz_M → Prop} {Qx : String → kz_M → Prop} {x0 : Nat} {x1 : Int64} {x3 : Int32}  {M : kz_M} (h : ∃ fs1 v2, (M).1 x0 = some (.inl (8, fs1)) ∧ fs1[2]? = some (.int v2) ∧ ((v2 ≤ x3 → Qr (some (.int 0)) M) ∧ (¬ v2 ≤ x3 → (∃ fs6, (M).1 x0 = some (.inl (8, fs6))) ∧ kz_C G (d + 0) 0 0 mX9_nameOf [.ref x0, .int x3] M (fun v M3 => ∃ r4 : Int64, v = some (.long r4) ∧ ((¬ r4 = x1 → zX9_hasWriter_2 G d Qr Qx x0 x1 (x3 + 1) M3) ∧ (r4 = x1 → Qr (some (.int 1)) M3))) Qx))) : zX9_hasWriter_2 G d Qr Qx x0 x1 x3  M := by
  show kz_Z G (d + 1) 0 0 mX9_hasWriter Qr Qx 2 [(0, .ref x0), (1, .long x1), (3, .int x3)] [] M 0 0
  refine kz_iload_n (pc := 2) 2 (i := 3) rfl rfl dX9_hasWriter_2 ?_
  refine kz_aload_n (pc := 3) 0 (v := .ref x0) (i := 0) rfl rfl rfl dX9_hasWriter_3 ?_
  obtain ⟨fs1, v2, hM, hv, h⟩ := h
  refine kz_getf (pc := 4) (k := 2) kcX9 hM hv (by decide) kw_112 dX9_hasWriter_4 ?_
  refine kz_icmp_ge (pc := 7) (tgt := 28) (by decide) dX9_hasWriter_7 (fun hb => ?_) (fun hb => ?_)
  · replace h := h.1 hb
    refine kz_iconst (pc := 28) (v := 0) (by decide) dX9_hasWriter_28 ?_
    exact kz_zret (pc := 29) (ty := .boolean) rfl (by decide) (Nat.le_refl _) (Nat.le_refl _) dX9_hasWriter_29 h
  · replace h := h.2 hb
    refine kz_aload_n (pc := 10) 0 (v := .ref x0) (i := 0) rfl rfl rfl dX9_hasWriter_10 ?_
    refine kz_iload_n (pc := 11) 2 (i := 3) rfl rfl dX9_hasWriter_11 ?_
    obtain ⟨⟨fs6, he⟩, h⟩ := h
    refine kz_callV (pc := 12) (μ' := mX9_nameOf) (ci := 8) (q := (RX9, TX9, 10)) (b := x0) (d' := d + 0) (mc' := 0) (ms' := 0) (As := [.int x3]) (st := []) (c := 0) (sl := 0) kmX9_nameOf kw_392 (by omega) rfl (Nat.le_of_ble_eq_true rfl) he rfl rfl (Nat.le_refl _) (Nat.le_refl _) dX9_hasWriter_12 (fun E M9 hx => kz_Tout rfl (Nat.le_refl _) (Nat.le_refl _) hx) (kz_Cmono (fun v M3 h => ?_) (fun _ _ h => h) h)
    obtain ⟨r4, rfl, h⟩ := h
    show kz_Z G (d + 1) 0 0 mX9_hasWriter Qr Qx 15 [(0, .ref x0), (1, .long x1), (3, .int x3)] [.long r4] M3 0 0
    refine kz_lload_n (pc := 15) 1 (i := 1) rfl rfl dX9_hasWriter_15 ?_
    refine kz_lcmp_ne (pc := 16) (tgt := 22) (by decide) dX9_hasWriter_16 dX9_hasWriter_17 (fun hb => ?_) (fun hb => ?_)
    · replace h := h.1 hb
      refine kz_iinc (pc := 22) 2 (i := 3) (v := x3 + 1) (ls' := [(0, .ref x0), (1, .long x1)]) rfl (congrArg (fun z => x3 + z) (by decide)) (by decide) rfl dX9_hasWriter_22 ?_
      refine kz_goto (pc := 25) (tgt := 2) (by decide) dX9_hasWriter_25 ?_
      refine kz_sub [1, 2, 0] rfl ?_
      exact h
    · replace h := h.2 hb
      refine kz_iconst (pc := 20) (v := 1) (by decide) dX9_hasWriter_20 ?_
      exact kz_zret (pc := 21) (ty := .boolean) rfl (by decide) (Nat.le_refl _) (Nat.le_refl _) dX9_hasWriter_21 h
theorem dX9_nameOf_0 : decode cX9_nameOf 0 = .ok (.iload_n 1, 1) := by decide +kernel
theorem dX9_nameOf_1 : decode cX9_nameOf 1 = .ok (.ifCond .lt 21, 3) := by decide +kernel
theorem dX9_nameOf_4 : decode cX9_nameOf 4 = .ok (.iload_n 1, 1) := by decide +kernel
theorem dX9_nameOf_5 : decode cX9_nameOf 5 = .ok (.aload_n 0, 1) := by decide +kernel
theorem dX9_nameOf_6 : decode cX9_nameOf 6 = .ok (.getfield 19, 3) := by decide +kernel
theorem dX9_nameOf_9 : decode cX9_nameOf 9 = .ok (.arraylength, 1) := by decide +kernel
theorem dX9_nameOf_10 : decode cX9_nameOf 10 = .ok (.if_icmp .ge 12, 3) := by decide +kernel
theorem dX9_nameOf_13 : decode cX9_nameOf 13 = .ok (.aload_n 0, 1) := by decide +kernel
theorem dX9_nameOf_14 : decode cX9_nameOf 14 = .ok (.getfield 19, 3) := by decide +kernel
theorem dX9_nameOf_17 : decode cX9_nameOf 17 = .ok (.iload_n 1, 1) := by decide +kernel
theorem dX9_nameOf_18 : decode cX9_nameOf 18 = .ok (.laload, 1) := by decide +kernel
theorem dX9_nameOf_19 : decode cX9_nameOf 19 = .ok (.goto 4, 3) := by decide +kernel
theorem dX9_nameOf_22 : decode cX9_nameOf 22 = .ok (.lconst 0, 1) := by decide +kernel
theorem dX9_nameOf_23 : decode cX9_nameOf 23 = .ok (.lreturn, 1) := by decide +kernel
theorem rX9_nameOf_0 {G : kz_G} {d : Nat} {Qr : Option Value → kz_M → Prop} {Qx : String → kz_M → Prop} {a0 : Nat} {p1 : Int32}  {M : kz_M} (h : (p1 < 0 → Qr (some (.long 0)) M) ∧ (¬ p1 < 0 → ∃ fs1 v2, (M).1 a0 = some (.inl (8, fs1)) ∧ fs1[5]? = some (.ref v2) ∧ (∃ ty3 A4, (M).1 v2 = some (.inr (ty3, A4)) ∧ (((Int32.ofNat A4.1) ≤ p1 → Qr (some (.long 0)) M) ∧ (¬ (Int32.ofNat A4.1) ≤ p1 → ∃ fs5 v6, (M).1 a0 = some (.inl (8, fs5)) ∧ fs5[5]? = some (.ref v6) ∧ (∃ n7 f8, (M).1 v6 = some (.inr (.long, n7, .inr (.inl f8))) ∧ vp_in p1 n7 ∧ (Qr (some (.long (f8 p1.toNatClampNeg))) M))))))) : kz_C G d 0 0 mX9_nameOf [.ref a0, .int p1] M Qr Qx := by
  refine kz_enter (n := 1) kmX9_nameOf.1 (Nat.le_of_ble_eq_true rfl) (ls := [(0, .ref a0), (1, .int p1)]) rfl ?_
  refine kz_iload_n (pc := 0) 1 (i := 1) rfl rfl dX9_nameOf_0 ?_
  refine kz_if_lt (pc := 1) (tgt := 22) (by decide) dX9_nameOf_1 (fun hb => ?_) (fun hb => ?_)
  · replace h := h.1 hb
    refine kz_lconst (pc := 22) (v := 0) (by decide) dX9_nameOf_22 ?_
    exact kz_lret (pc := 23) rfl (Nat.le_refl _) (Nat.le_refl _) dX9_nameOf_23 h
  · replace h := h.2 hb
    refine kz_iload_n (pc := 4) 1 (i := 1) rfl rfl dX9_nameOf_4 ?_
    refine kz_aload_n (pc := 5) 0 (v := .ref a0) (i := 0) rfl rfl rfl dX9_nameOf_5 ?_
    obtain ⟨fs1, v2, hM, hv, h⟩ := h
    refine kz_getf (pc := 6) (k := 5) kcX9 hM hv (by decide) kw_120 dX9_nameOf_6 ?_
    obtain ⟨ty3, A4, hM, h⟩ := h
    refine kz_alen (pc := 9) hM rfl dX9_nameOf_9 ?_
    refine kz_icmp_ge (pc := 10) (tgt := 22) (by decide) dX9_nameOf_10 (fun hb => ?_) (fun hb => ?_)
    · replace h := h.1 hb
      refine kz_lconst (pc := 22) (v := 0) (by decide) dX9_nameOf_22 ?_
      exact kz_lret (pc := 23) rfl (Nat.le_refl _) (Nat.le_refl _) dX9_nameOf_23 h
    · replace h := h.2 hb
      refine kz_aload_n (pc := 13) 0 (v := .ref a0) (i := 0) rfl rfl rfl dX9_nameOf_13 ?_
      obtain ⟨fs5, v6, hM, hv, h⟩ := h
      refine kz_getf (pc := 14) (k := 5) kcX9 hM hv (by decide) kw_120 dX9_nameOf_14 ?_
      refine kz_iload_n (pc := 17) 1 (i := 1) rfl rfl dX9_nameOf_17 ?_
      obtain ⟨n7, f8, hM, hi, h⟩ := h
      refine kz_lald (pc := 18) hM hi dX9_nameOf_18 ?_
      refine kz_goto (pc := 19) (tgt := 23) (by decide) dX9_nameOf_19 ?_
      exact kz_lret (pc := 23) rfl (Nat.le_refl _) (Nat.le_refl _) dX9_nameOf_23 h
theorem dX9_balanceOf_0 : decode cX9_balanceOf 0 = .ok (.aload_n 0, 1) := by decide +kernel
theorem dX9_balanceOf_1 : decode cX9_balanceOf 1 = .ok (.getfield 23, 3) := by decide +kernel
theorem dX9_balanceOf_4 : decode cX9_balanceOf 4 = .ok (.iload_n 1, 1) := by decide +kernel
theorem dX9_balanceOf_5 : decode cX9_balanceOf 5 = .ok (.invokestatic 80, 3) := by decide +kernel
theorem dX9_balanceOf_8 : decode cX9_balanceOf 8 = .ok (.ireturn, 1) := by decide +kernel
theorem rX9_balanceOf_0 {G : kz_G} {d : Nat} {Qr : Option Value → kz_M → Prop} {Qx : String → kz_M → Prop} {a0 : Nat} {p1 : Int32}  {M : kz_M} (h : ∃ fs1 v2, (M).1 a0 = some (.inl (8, fs1)) ∧ fs1[6]? = some (.ref v2) ∧ (kz_C G (d + 0) 0 0 mX11_at [.ref v2, .int p1] M (fun v M3 => ∃ r4 : Int32, v = some (.int r4) ∧ (Qr (some (.int r4)) M3)) Qx)) : kz_C G (d + 1) 0 0 mX9_balanceOf [.ref a0, .int p1] M Qr Qx := by
  refine kz_enter (n := 1) kmX9_balanceOf.1 (Nat.le_of_ble_eq_true rfl) (ls := [(0, .ref a0), (1, .int p1)]) rfl ?_
  refine kz_aload_n (pc := 0) 0 (v := .ref a0) (i := 0) rfl rfl rfl dX9_balanceOf_0 ?_
  obtain ⟨fs1, v2, hM, hv, h⟩ := h
  refine kz_getf (pc := 1) (k := 6) kcX9 hM hv (by decide) kw_121 dX9_balanceOf_1 ?_
  refine kz_iload_n (pc := 4) 1 (i := 1) rfl rfl dX9_balanceOf_4 ?_
  refine kz_callSN (pc := 5) (μ' := mX11_at) (d' := d + 0) (mc' := 0) (ms' := 0) (As := [.ref v2, .int p1]) (st := []) (c := 0) (sl := 0) kmX11_at kw_742 (by omega) rfl (Nat.le_of_ble_eq_true rfl) (Nat.le_refl _) (Nat.le_refl _) dX9_balanceOf_5 (fun E M9 hx => kz_Tout rfl (Nat.le_refl _) (Nat.le_refl _) hx) (kz_Cmono (fun v M3 h => ?_) (fun _ _ h => h) h)
  obtain ⟨r4, rfl, h⟩ := h
  show kz_Z G (d + 1) 0 0 mX9_balanceOf Qr Qx 8 [(0, .ref a0), (1, .int p1)] [.int r4] M3 0 0
  exact kz_iret (pc := 8) rfl (Nat.le_refl _) (Nat.le_refl _) dX9_balanceOf_8 h
theorem dX9_paidTo_0 : decode cX9_paidTo 0 = .ok (.aload_n 0, 1) := by decide +kernel
theorem dX9_paidTo_1 : decode cX9_paidTo 1 = .ok (.getfield 26, 3) := by decide +kernel
theorem dX9_paidTo_4 : decode cX9_paidTo 4 = .ok (.iload_n 1, 1) := by decide +kernel
theorem dX9_paidTo_5 : decode cX9_paidTo 5 = .ok (.invokestatic 80, 3) := by decide +kernel
theorem dX9_paidTo_8 : decode cX9_paidTo 8 = .ok (.ireturn, 1) := by decide +kernel
theorem rX9_paidTo_0 {G : kz_G} {d : Nat} {Qr : Option Value → kz_M → Prop} {Qx : String → kz_M → Prop} {a0 : Nat} {p1 : Int32}  {M : kz_M} (h : ∃ fs1 v2, (M).1 a0 = some (.inl (8, fs1)) ∧ fs1[7]? = some (.ref v2) ∧ (kz_C G (d + 0) 0 0 mX11_at [.ref v2, .int p1] M (fun v M3 => ∃ r4 : Int32, v = some (.int r4) ∧ (Qr (some (.int r4)) M3)) Qx)) : kz_C G (d + 1) 0 0 mX9_paidTo [.ref a0, .int p1] M Qr Qx := by
  refine kz_enter (n := 1) kmX9_paidTo.1 (Nat.le_of_ble_eq_true rfl) (ls := [(0, .ref a0), (1, .int p1)]) rfl ?_
  refine kz_aload_n (pc := 0) 0 (v := .ref a0) (i := 0) rfl rfl rfl dX9_paidTo_0 ?_
  obtain ⟨fs1, v2, hM, hv, h⟩ := h
  refine kz_getf (pc := 1) (k := 7) kcX9 hM hv (by decide) kw_122 dX9_paidTo_1 ?_
  refine kz_iload_n (pc := 4) 1 (i := 1) rfl rfl dX9_paidTo_4 ?_
  refine kz_callSN (pc := 5) (μ' := mX11_at) (d' := d + 0) (mc' := 0) (ms' := 0) (As := [.ref v2, .int p1]) (st := []) (c := 0) (sl := 0) kmX11_at kw_742 (by omega) rfl (Nat.le_of_ble_eq_true rfl) (Nat.le_refl _) (Nat.le_refl _) dX9_paidTo_5 (fun E M9 hx => kz_Tout rfl (Nat.le_refl _) (Nat.le_refl _) hx) (kz_Cmono (fun v M3 h => ?_) (fun _ _ h => h) h)
  obtain ⟨r4, rfl, h⟩ := h
  show kz_Z G (d + 1) 0 0 mX9_paidTo Qr Qx 8 [(0, .ref a0), (1, .int p1)] [.int r4] M3 0 0
  exact kz_iret (pc := 8) rfl (Nat.le_refl _) (Nat.le_refl _) dX9_paidTo_8 h
theorem dX9_enrol_0 : decode cX9_enrol 0 = .ok (.aload_n 0, 1) := by decide +kernel
theorem dX9_enrol_1 : decode cX9_enrol 1 = .ok (.getfield 52, 3) := by decide +kernel
theorem dX9_enrol_4 : decode cX9_enrol 4 = .ok (.ifCond .lt 59, 3) := by decide +kernel
theorem dX9_enrol_7 : decode cX9_enrol 7 = .ok (.aload_n 0, 1) := by decide +kernel
theorem dX9_enrol_8 : decode cX9_enrol 8 = .ok (.getfield 52, 3) := by decide +kernel
theorem dX9_enrol_11 : decode cX9_enrol 11 = .ok (.aload_n 0, 1) := by decide +kernel
theorem dX9_enrol_12 : decode cX9_enrol 12 = .ok (.getfield 19, 3) := by decide +kernel
theorem dX9_enrol_15 : decode cX9_enrol 15 = .ok (.arraylength, 1) := by decide +kernel
theorem dX9_enrol_16 : decode cX9_enrol 16 = .ok (.if_icmp .ge 47, 3) := by decide +kernel
theorem dX9_enrol_19 : decode cX9_enrol 19 = .ok (.aload_n 0, 1) := by decide +kernel
theorem dX9_enrol_20 : decode cX9_enrol 20 = .ok (.getfield 19, 3) := by decide +kernel
theorem dX9_enrol_23 : decode cX9_enrol 23 = .ok (.aload_n 0, 1) := by decide +kernel
theorem dX9_enrol_24 : decode cX9_enrol 24 = .ok (.getfield 52, 3) := by decide +kernel
theorem dX9_enrol_27 : decode cX9_enrol 27 = .ok (.lload_n 1, 1) := by decide +kernel
theorem dX9_enrol_28 : decode cX9_enrol 28 = .ok (.lastore, 1) := by decide +kernel
theorem dX9_enrol_29 : decode cX9_enrol 29 = .ok (.aload_n 0, 1) := by decide +kernel
theorem dX9_enrol_30 : decode cX9_enrol 30 = .ok (.getfield 23, 3) := by decide +kernel
theorem dX9_enrol_33 : decode cX9_enrol 33 = .ok (.aload_n 0, 1) := by decide +kernel
theorem dX9_enrol_34 : decode cX9_enrol 34 = .ok (.getfield 52, 3) := by decide +kernel
theorem dX9_enrol_37 : decode cX9_enrol 37 = .ok (.iconst 0, 1) := by decide +kernel
theorem dX9_enrol_38 : decode cX9_enrol 38 = .ok (.invokestatic 66, 3) := by decide +kernel
theorem dX9_enrol_41 : decode cX9_enrol 41 = .ok (.aload_n 0, 1) := by decide +kernel
theorem dX9_enrol_42 : decode cX9_enrol 42 = .ok (.getfield 26, 3) := by decide +kernel
theorem dX9_enrol_45 : decode cX9_enrol 45 = .ok (.aload_n 0, 1) := by decide +kernel
theorem dX9_enrol_46 : decode cX9_enrol 46 = .ok (.getfield 52, 3) := by decide +kernel
theorem dX9_enrol_49 : decode cX9_enrol 49 = .ok (.iconst 0, 1) := by decide +kernel
theorem dX9_enrol_50 : decode cX9_enrol 50 = .ok (.invokestatic 66, 3) := by decide +kernel
theorem dX9_enrol_53 : decode cX9_enrol 53 = .ok (.aload_n 0, 1) := by decide +kernel
theorem dX9_enrol_54 : decode cX9_enrol 54 = .ok (.dup, 1) := by decide +kernel
theorem dX9_enrol_55 : decode cX9_enrol 55 = .ok (.getfield 52, 3) := by decide +kernel
theorem dX9_enrol_58 : decode cX9_enrol 58 = .ok (.iconst 1, 1) := by decide +kernel
theorem dX9_enrol_59 : decode cX9_enrol 59 = .ok (.iadd, 1) := by decide +kernel
theorem dX9_enrol_60 : decode cX9_enrol 60 = .ok (.putfield 52, 3) := by decide +kernel
theorem dX9_enrol_63 : decode cX9_enrol 63 = .ok (.return_, 1) := by decide +kernel
theorem rX9_enrol_0 {G : kz_G} {d : Nat} {Qr : Option Value → kz_M → Prop} {Qx : String → kz_M → Prop} {a0 : Nat} {p1 : Int64}  {M : kz_M} (h : ∃ fs1 v2, (M).1 a0 = some (.inl (8, fs1)) ∧ fs1[2]? = some (.int v2) ∧ ((v2 < 0 → Qr none M) ∧ (¬ v2 < 0 → ∃ fs3 v4, (M).1 a0 = some (.inl (8, fs3)) ∧ fs3[2]? = some (.int v4) ∧ (∃ fs5 v6, (M).1 a0 = some (.inl (8, fs5)) ∧ fs5[5]? = some (.ref v6) ∧ (∃ ty7 A8, (M).1 v6 = some (.inr (ty7, A8)) ∧ (((Int32.ofNat A8.1) ≤ v4 → Qr none M) ∧ (¬ (Int32.ofNat A8.1) ≤ v4 → ∃ fs9 v10, (M).1 a0 = some (.inl (8, fs9)) ∧ fs9[5]? = some (.ref v10) ∧ (∃ fs11 v12, (M).1 a0 = some (.inl (8, fs11)) ∧ fs11[2]? = some (.int v12) ∧ (∃ n13 f14, (M).1 v10 = some (.inr (.long, n13, .inr (.inl f14))) ∧ vp_in v12 n13 ∧ (∃ fs15 v16, ((kz_up M v10 (.inr (.long, n13, .inr (.inl (vp_updL f14 (v12 : Int32).toNatClampNeg p1)))))).1 a0 = some (.inl (8, fs15)) ∧ fs15[6]? = some (.ref v16) ∧ (∃ fs17 v18, ((kz_up M v10 (.inr (.long, n13, .inr (.inl (vp_updL f14 (v12 : Int32).toNatClampNeg p1)))))).1 a0 = some (.inl (8, fs17)) ∧ fs17[2]? = some (.int v18) ∧ (kz_C G (d + 0) 0 0 mX11_put [.ref v16, .int v18, .int 0] (kz_up M v10 (.inr (.long, n13, .inr (.inl (vp_updL f14 (v12 : Int32).toNatClampNeg p1))))) (fun v M19 => v = none ∧ (∃ fs22 v23, (M19).1 a0 = some (.inl (8, fs22)) ∧ fs22[7]? = some (.ref v23) ∧ (∃ fs24 v25, (M19).1 a0 = some (.inl (8, fs24)) ∧ fs24[2]? = some (.int v25) ∧ (kz_C G (d + 0) 0 0 mX11_put [.ref v23, .int v25, .int 0] M19 (fun v M26 => v = none ∧ (∃ fs29 v30, (M26).1 a0 = some (.inl (8, fs29)) ∧ fs29[2]? = some (.int v30) ∧ (∃ fs31, (M26).1 a0 = some (.inl (8, fs31)) ∧ 2 < fs31.length ∧ (Qr none (kz_up M26 a0 (.inl (8, fs31.set 2 (.int (v30 + 1))))))))) Qx)))) Qx)))))))))))) : kz_C G (d + 1) 0 0 mX9_enrol [.ref a0, .long p1] M Qr Qx := by
  refine kz_enter (n := 1) kmX9_enrol.1 (Nat.le_of_ble_eq_true rfl) (ls := [(0, .ref a0), (1, .long p1)]) rfl ?_
  refine kz_aload_n (pc := 0) 0 (v := .ref a0) (i := 0) rfl rfl rfl dX9_enrol_0 ?_
  obtain ⟨fs1, v2, hM, hv, h⟩ := h
  refine kz_getf (pc := 1) (k := 2) kcX9 hM hv (by decide) kw_112 dX9_enrol_1 ?_
  refine kz_if_lt (pc := 4) (tgt := 63) (by decide) dX9_enrol_4 (fun hb => ?_) (fun hb => ?_)
  · replace h := h.1 hb
    exact kz_vret (pc := 63) rfl (Nat.le_refl _) (Nat.le_refl _) dX9_enrol_63 h
  · replace h := h.2 hb
    refine kz_aload_n (pc := 7) 0 (v := .ref a0) (i := 0) rfl rfl rfl dX9_enrol_7 ?_
    obtain ⟨fs3, v4, hM, hv, h⟩ := h
    refine kz_getf (pc := 8) (k := 2) kcX9 hM hv (by decide) kw_112 dX9_enrol_8 ?_
    refine kz_aload_n (pc := 11) 0 (v := .ref a0) (i := 0) rfl rfl rfl dX9_enrol_11 ?_
    obtain ⟨fs5, v6, hM, hv, h⟩ := h
    refine kz_getf (pc := 12) (k := 5) kcX9 hM hv (by decide) kw_120 dX9_enrol_12 ?_
    obtain ⟨ty7, A8, hM, h⟩ := h
    refine kz_alen (pc := 15) hM rfl dX9_enrol_15 ?_
    refine kz_icmp_ge (pc := 16) (tgt := 63) (by decide) dX9_enrol_16 (fun hb => ?_) (fun hb => ?_)
    · replace h := h.1 hb
      exact kz_vret (pc := 63) rfl (Nat.le_refl _) (Nat.le_refl _) dX9_enrol_63 h
    · replace h := h.2 hb
      refine kz_aload_n (pc := 19) 0 (v := .ref a0) (i := 0) rfl rfl rfl dX9_enrol_19 ?_
      obtain ⟨fs9, v10, hM, hv, h⟩ := h
      refine kz_getf (pc := 20) (k := 5) kcX9 hM hv (by decide) kw_120 dX9_enrol_20 ?_
      refine kz_aload_n (pc := 23) 0 (v := .ref a0) (i := 0) rfl rfl rfl dX9_enrol_23 ?_
      obtain ⟨fs11, v12, hM, hv, h⟩ := h
      refine kz_getf (pc := 24) (k := 2) kcX9 hM hv (by decide) kw_112 dX9_enrol_24 ?_
      refine kz_lload_n (pc := 27) 1 (i := 1) rfl rfl dX9_enrol_27 ?_
      obtain ⟨n13, f14, hM, hi, h⟩ := h
      refine kz_last (pc := 28) hM hi dX9_enrol_28 ?_
      refine kz_aload_n (pc := 29) 0 (v := .ref a0) (i := 0) rfl rfl rfl dX9_enrol_29 ?_
      obtain ⟨fs15, v16, hM, hv, h⟩ := h
      refine kz_getf (pc := 30) (k := 6) kcX9 hM hv (by decide) kw_121 dX9_enrol_30 ?_
      refine kz_aload_n (pc := 33) 0 (v := .ref a0) (i := 0) rfl rfl rfl dX9_enrol_33 ?_
      obtain ⟨fs17, v18, hM, hv, h⟩ := h
      refine kz_getf (pc := 34) (k := 2) kcX9 hM hv (by decide) kw_112 dX9_enrol_34 ?_
      refine kz_iconst (pc := 37) (v := 0) (by decide) dX9_enrol_37 ?_
      refine kz_callSN (pc := 38) (μ' := mX11_put) (d' := d + 0) (mc' := 0) (ms' := 0) (As := [.ref v16, .int v18, .int 0]) (st := []) (c := 0) (sl := 0) kmX11_put kw_104 (by omega) rfl (Nat.le_of_ble_eq_true rfl) (Nat.le_refl _) (Nat.le_refl _) dX9_enrol_38 (fun E M9 hx => kz_Tout rfl (Nat.le_refl _) (Nat.le_refl _) hx) (kz_Cmono (fun v M19 h => ?_) (fun _ _ h => h) h)
      obtain ⟨rfl, h⟩ := h
      show kz_Z G (d + 1) 0 0 mX9_enrol Qr Qx 41 [(0, .ref a0), (1, .long p1)] [] M19 0 0
      refine kz_aload_n (pc := 41) 0 (v := .ref a0) (i := 0) rfl rfl rfl dX9_enrol_41 ?_
      obtain ⟨fs22, v23, hM, hv, h⟩ := h
      refine kz_getf (pc := 42) (k := 7) kcX9 hM hv (by decide) kw_122 dX9_enrol_42 ?_
      refine kz_aload_n (pc := 45) 0 (v := .ref a0) (i := 0) rfl rfl rfl dX9_enrol_45 ?_
      obtain ⟨fs24, v25, hM, hv, h⟩ := h
      refine kz_getf (pc := 46) (k := 2) kcX9 hM hv (by decide) kw_112 dX9_enrol_46 ?_
      refine kz_iconst (pc := 49) (v := 0) (by decide) dX9_enrol_49 ?_
      refine kz_callSN (pc := 50) (μ' := mX11_put) (d' := d + 0) (mc' := 0) (ms' := 0) (As := [.ref v23, .int v25, .int 0]) (st := []) (c := 0) (sl := 0) kmX11_put kw_104 (by omega) rfl (Nat.le_of_ble_eq_true rfl) (Nat.le_refl _) (Nat.le_refl _) dX9_enrol_50 (fun E M9 hx => kz_Tout rfl (Nat.le_refl _) (Nat.le_refl _) hx) (kz_Cmono (fun v M26 h => ?_) (fun _ _ h => h) h)
      obtain ⟨rfl, h⟩ := h
      show kz_Z G (d + 1) 0 0 mX9_enrol Qr Qx 53 [(0, .ref a0), (1, .long p1)] [] M26 0 0
      refine kz_aload_n (pc := 53) 0 (v := .ref a0) (i := 0) rfl rfl rfl dX9_enrol_53 ?_
      refine kz_dup (pc := 54) rfl dX9_enrol_54 ?_
      obtain ⟨fs29, v30, hM, hv, h⟩ := h
      refine kz_getf (pc := 55) (k := 2) kcX9 hM hv (by decide) kw_112 dX9_enrol_55 ?_
      refine kz_iconst (pc := 58) (v := 1) (by decide) dX9_enrol_58 ?_
      refine kz_iadd (pc := 59) dX9_enrol_59 ?_
      obtain ⟨fs31, hM, hlen, h⟩ := h
      refine kz_putf (pc := 60) (k := 2) kcX9 hM (by decide) hlen kw_112 rfl rfl rfl dX9_enrol_60 ?_
      exact kz_vret (pc := 63) rfl (Nat.le_refl _) (Nat.le_refl _) dX9_enrol_63 h
theorem dX9_owed_0 : decode cX9_owed 0 = .ok (.iconst 0, 1) := by decide +kernel
theorem dX9_owed_1 : decode cX9_owed 1 = .ok (.istore_n 1, 1) := by decide +kernel
theorem dX9_owed_2 : decode cX9_owed 2 = .ok (.iconst 0, 1) := by decide +kernel
theorem dX9_owed_3 : decode cX9_owed 3 = .ok (.istore_n 2, 1) := by decide +kernel
theorem dX9_owed_4 : decode cX9_owed 4 = .ok (.iload_n 2, 1) := by decide +kernel
theorem dX9_owed_5 : decode cX9_owed 5 = .ok (.aload_n 0, 1) := by decide +kernel
theorem dX9_owed_6 : decode cX9_owed 6 = .ok (.getfield 52, 3) := by decide +kernel
theorem dX9_owed_9 : decode cX9_owed 9 = .ok (.if_icmp .ge 21, 3) := by decide +kernel
theorem dX9_owed_12 : decode cX9_owed 12 = .ok (.iload_n 1, 1) := by decide +kernel
theorem dX9_owed_13 : decode cX9_owed 13 = .ok (.iconst 0, 1) := by decide +kernel
theorem dX9_owed_14 : decode cX9_owed 14 = .ok (.aload_n 0, 1) := by decide +kernel
theorem dX9_owed_15 : decode cX9_owed 15 = .ok (.iload_n 2, 1) := by decide +kernel
theorem dX9_owed_16 : decode cX9_owed 16 = .ok (.invokevirtual 88, 3) := by decide +kernel
theorem dX9_owed_19 : decode cX9_owed 19 = .ok (.invokestatic 92, 3) := by decide +kernel
theorem dX9_owed_22 : decode cX9_owed 22 = .ok (.iadd, 1) := by decide +kernel
theorem dX9_owed_23 : decode cX9_owed 23 = .ok (.istore_n 1, 1) := by decide +kernel
theorem dX9_owed_24 : decode cX9_owed 24 = .ok (.iinc 2 1, 3) := by decide +kernel
theorem dX9_owed_27 : decode cX9_owed 27 = .ok (.goto (-23), 3) := by decide +kernel
theorem dX9_owed_30 : decode cX9_owed 30 = .ok (.iload_n 1, 1) := by decide +kernel
theorem dX9_owed_31 : decode cX9_owed 31 = .ok (.ireturn, 1) := by decide +kernel
def zX9_owed_4 (G : kz_G) (d : Nat) (Qr : Option Value → kz_M → Prop) (Qx : String → kz_M → Prop) (x0 : Nat) (x1 : Int32) (x2 : Int32)  (M : kz_M) : Prop := kz_Z G (d + 2) 0 0 mX9_owed Qr Qx 4 [(0, .ref x0), (1, .int x1), (2, .int x2)] [] M 0 0
theorem rX9_owed_0 {G : kz_G} {d : Nat} {Qr : Option Value → kz_M → Prop} {Qx : String → kz_M → Prop} {a0 : Nat}  {M : kz_M} (h : zX9_owed_4 G d Qr Qx a0 0 0 M) : kz_C G (d + 2) 0 0 mX9_owed [.ref a0] M Qr Qx := by
  refine kz_enter (n := 0) kmX9_owed.1 (Nat.le_of_ble_eq_true rfl) (ls := [(0, .ref a0)]) rfl ?_
  refine kz_iconst (pc := 0) (v := 0) (by decide) dX9_owed_0 ?_
  refine kz_istore_n (pc := 1) (i := 1) (ls' := [(0, .ref a0)]) rfl (by decide) rfl dX9_owed_1 ?_
  refine kz_iconst (pc := 2) (v := 0) (by decide) dX9_owed_2 ?_
  refine kz_istore_n (pc := 3) (i := 2) (ls' := [(1, .int 0), (0, .ref a0)]) rfl (by decide) rfl dX9_owed_3 ?_
  refine kz_sub [2, 1, 0] rfl ?_
  exact h
theorem rX9_owed_4 {G : kz_G} {d : Nat} {Qr : Option Value → kz_M → Prop} {Qx : String → kz_M → Prop} {x0 : Nat} {x1 : Int32} {x2 : Int32}  {M : kz_M} (h : ∃ fs1 v2, (M).1 x0 = some (.inl (8, fs1)) ∧ fs1[2]? = some (.int v2) ∧ ((v2 ≤ x2 → Qr (some (.int x1)) M) ∧ (¬ v2 ≤ x2 → (∃ fs6, (M).1 x0 = some (.inl (8, fs6))) ∧ kz_C G (d + 1) 0 0 mX9_balanceOf [.ref x0, .int x2] M (fun v M3 => ∃ r4 : Int32, v = some (.int r4) ∧ (zX9_owed_4 G d Qr Qx x0 (x1 + (if 0 < r4 then r4 else 0)) (x2 + 1) M3)) Qx))) : zX9_owed_4 G d Qr Qx x0 x1 x2  M := by
  show kz_Z G (d + 2) 0 0 mX9_owed Qr Qx 4 [(0, .ref x0), (1, .int x1), (2, .int x2)] [] M 0 0
  refine kz_iload_n (pc := 4) 2 (i := 2) rfl rfl dX9_owed_4 ?_
  refine kz_aload_n (pc := 5) 0 (v := .ref x0) (i := 0) rfl rfl rfl dX9_owed_5 ?_
  obtain ⟨fs1, v2, hM, hv, h⟩ := h
  refine kz_getf (pc := 6) (k := 2) kcX9 hM hv (by decide) kw_112 dX9_owed_6 ?_
  refine kz_icmp_ge (pc := 9) (tgt := 30) (by decide) dX9_owed_9 (fun hb => ?_) (fun hb => ?_)
  · replace h := h.1 hb
    refine kz_iload_n (pc := 30) 1 (i := 1) rfl rfl dX9_owed_30 ?_
    exact kz_iret (pc := 31) rfl (Nat.le_refl _) (Nat.le_refl _) dX9_owed_31 h
  · replace h := h.2 hb
    refine kz_iload_n (pc := 12) 1 (i := 1) rfl rfl dX9_owed_12 ?_
    refine kz_iconst (pc := 13) (v := 0) (by decide) dX9_owed_13 ?_
    refine kz_aload_n (pc := 14) 0 (v := .ref x0) (i := 0) rfl rfl rfl dX9_owed_14 ?_
    refine kz_iload_n (pc := 15) 2 (i := 2) rfl rfl dX9_owed_15 ?_
    obtain ⟨⟨fs6, he⟩, h⟩ := h
    refine kz_callV (pc := 16) (μ' := mX9_balanceOf) (ci := 8) (q := (RX9, TX9, 10)) (b := x0) (d' := d + 1) (mc' := 0) (ms' := 0) (As := [.int x2]) (st := [.int 0, .int x1]) (c := 0) (sl := 0) kmX9_balanceOf kw_738 (by omega) rfl (Nat.le_of_ble_eq_true rfl) he rfl rfl (Nat.le_refl _) (Nat.le_refl _) dX9_owed_16 (fun E M9 hx => kz_Tout rfl (Nat.le_refl _) (Nat.le_refl _) hx) (kz_Cmono (fun v M3 h => ?_) (fun _ _ h => h) h)
    obtain ⟨r4, rfl, h⟩ := h
    show kz_Z G (d + 2) 0 0 mX9_owed Qr Qx 19 [(0, .ref x0), (1, .int x1), (2, .int x2)] [.int r4, .int 0, .int x1] M3 0 0
    refine kz_mmax (pc := 19) kw_745 kw_539 kw_9 kw_540 (by omega) (Nat.le_of_ble_eq_true rfl) (Nat.le_refl _) (Nat.le_refl _) dX9_owed_19 ?_
    refine kz_iadd (pc := 22) dX9_owed_22 ?_
    refine kz_istore_n (pc := 23) (i := 1) (ls' := [(0, .ref x0), (2, .int x2)]) rfl (by decide) rfl dX9_owed_23 ?_
    refine kz_iinc (pc := 24) 2 (i := 2) (v := x2 + 1) (ls' := [(1, .int (x1 + (if 0 < r4 then r4 else 0))), (0, .ref x0)]) rfl (congrArg (fun z => x2 + z) (by decide)) (by decide) rfl dX9_owed_24 ?_
    refine kz_goto (pc := 27) (tgt := 4) (by decide) dX9_owed_27 ?_
    refine kz_sub [2, 1, 0] rfl ?_
    exact h
theorem dX9_workAt_0 : decode cX9_workAt 0 = .ok (.iload_n 1, 1) := by decide +kernel
theorem dX9_workAt_1 : decode cX9_workAt 1 = .ok (.ifCond .lt 29, 3) := by decide +kernel
theorem dX9_workAt_4 : decode cX9_workAt 4 = .ok (.iload_n 1, 1) := by decide +kernel
theorem dX9_workAt_5 : decode cX9_workAt 5 = .ok (.aload_n 0, 1) := by decide +kernel
theorem dX9_workAt_6 : decode cX9_workAt 6 = .ok (.getfield 55, 3) := by decide +kernel
theorem dX9_workAt_9 : decode cX9_workAt 9 = .ok (.if_icmp .ge 21, 3) := by decide +kernel
theorem dX9_workAt_12 : decode cX9_workAt 12 = .ok (.iload_n 1, 1) := by decide +kernel
theorem dX9_workAt_13 : decode cX9_workAt 13 = .ok (.aload_n 0, 1) := by decide +kernel
theorem dX9_workAt_14 : decode cX9_workAt 14 = .ok (.getfield 31, 3) := by decide +kernel
theorem dX9_workAt_17 : decode cX9_workAt 17 = .ok (.arraylength, 1) := by decide +kernel
theorem dX9_workAt_18 : decode cX9_workAt 18 = .ok (.if_icmp .ge 12, 3) := by decide +kernel
theorem dX9_workAt_21 : decode cX9_workAt 21 = .ok (.aload_n 0, 1) := by decide +kernel
theorem dX9_workAt_22 : decode cX9_workAt 22 = .ok (.getfield 31, 3) := by decide +kernel
theorem dX9_workAt_25 : decode cX9_workAt 25 = .ok (.iload_n 1, 1) := by decide +kernel
theorem dX9_workAt_26 : decode cX9_workAt 26 = .ok (.aaload, 1) := by decide +kernel
theorem dX9_workAt_27 : decode cX9_workAt 27 = .ok (.goto 4, 3) := by decide +kernel
theorem dX9_workAt_30 : decode cX9_workAt 30 = .ok (.aconst_null, 1) := by decide +kernel
theorem dX9_workAt_31 : decode cX9_workAt 31 = .ok (.areturn, 1) := by decide +kernel
theorem rX9_workAt_0 {G : kz_G} {d : Nat} {Qr : Option Value → kz_M → Prop} {Qx : String → kz_M → Prop} {a0 : Nat} {p1 : Int32}  {M : kz_M} (h : (p1 < 0 → Qr (some (.null)) M) ∧ (¬ p1 < 0 → ∃ fs1 v2, (M).1 a0 = some (.inl (8, fs1)) ∧ fs1[3]? = some (.int v2) ∧ ((v2 ≤ p1 → Qr (some (.null)) M) ∧ (¬ v2 ≤ p1 → ∃ fs3 v4, (M).1 a0 = some (.inl (8, fs3)) ∧ fs3[8]? = some (.ref v4) ∧ (∃ ty5 A6, (M).1 v4 = some (.inr (ty5, A6)) ∧ (((Int32.ofNat A6.1) ≤ p1 → Qr (some (.null)) M) ∧ (¬ (Int32.ofNat A6.1) ≤ p1 → ∃ fs7 v8, (M).1 a0 = some (.inl (8, fs7)) ∧ fs7[8]? = some (.ref v8) ∧ (∃ n9 f10, (M).1 v8 = some (.inr (.object "LineOffice$Work", n9, .inr (.inr (.inr (.inr f10))))) ∧ vp_in p1 n9 ∧ (∀ o11 : Option Nat, f10 p1.toNatClampNeg = o11 → Qr (some (kz_rf o11)) M))))))))) : kz_C G d 0 0 mX9_workAt [.ref a0, .int p1] M Qr Qx := by
  refine kz_enter (n := 1) kmX9_workAt.1 (Nat.le_of_ble_eq_true rfl) (ls := [(0, .ref a0), (1, .int p1)]) rfl ?_
  refine kz_iload_n (pc := 0) 1 (i := 1) rfl rfl dX9_workAt_0 ?_
  refine kz_if_lt (pc := 1) (tgt := 30) (by decide) dX9_workAt_1 (fun hb => ?_) (fun hb => ?_)
  · replace h := h.1 hb
    refine kz_null (pc := 30) dX9_workAt_30 ?_
    exact kz_aret (pc := 31) (v := .null) rfl rfl (Or.inl ⟨_, rfl⟩) (Nat.le_refl _) (Nat.le_refl _) dX9_workAt_31 h
  · replace h := h.2 hb
    refine kz_iload_n (pc := 4) 1 (i := 1) rfl rfl dX9_workAt_4 ?_
    refine kz_aload_n (pc := 5) 0 (v := .ref a0) (i := 0) rfl rfl rfl dX9_workAt_5 ?_
    obtain ⟨fs1, v2, hM, hv, h⟩ := h
    refine kz_getf (pc := 6) (k := 3) kcX9 hM hv (by decide) kw_115 dX9_workAt_6 ?_
    refine kz_icmp_ge (pc := 9) (tgt := 30) (by decide) dX9_workAt_9 (fun hb => ?_) (fun hb => ?_)
    · replace h := h.1 hb
      refine kz_null (pc := 30) dX9_workAt_30 ?_
      exact kz_aret (pc := 31) (v := .null) rfl rfl (Or.inl ⟨_, rfl⟩) (Nat.le_refl _) (Nat.le_refl _) dX9_workAt_31 h
    · replace h := h.2 hb
      refine kz_iload_n (pc := 12) 1 (i := 1) rfl rfl dX9_workAt_12 ?_
      refine kz_aload_n (pc := 13) 0 (v := .ref a0) (i := 0) rfl rfl rfl dX9_workAt_13 ?_
      obtain ⟨fs3, v4, hM, hv, h⟩ := h
      refine kz_getf (pc := 14) (k := 8) kcX9 hM hv (by decide) kw_123 dX9_workAt_14 ?_
      obtain ⟨ty5, A6, hM, h⟩ := h
      refine kz_alen (pc := 17) hM rfl dX9_workAt_17 ?_
      refine kz_icmp_ge (pc := 18) (tgt := 30) (by decide) dX9_workAt_18 (fun hb => ?_) (fun hb => ?_)
      · replace h := h.1 hb
        refine kz_null (pc := 30) dX9_workAt_30 ?_
        exact kz_aret (pc := 31) (v := .null) rfl rfl (Or.inl ⟨_, rfl⟩) (Nat.le_refl _) (Nat.le_refl _) dX9_workAt_31 h
      · replace h := h.2 hb
        refine kz_aload_n (pc := 21) 0 (v := .ref a0) (i := 0) rfl rfl rfl dX9_workAt_21 ?_
        obtain ⟨fs7, v8, hM, hv, h⟩ := h
        refine kz_getf (pc := 22) (k := 8) kcX9 hM hv (by decide) kw_123 dX9_workAt_22 ?_
        refine kz_iload_n (pc := 25) 1 (i := 1) rfl rfl dX9_workAt_25 ?_
        obtain ⟨n9, f10, hM, hi, h⟩ := h
        refine kz_aald (pc := 26) hM hi dX9_workAt_26 ?_
        generalize ho : f10 p1.toNatClampNeg = o11 at h ⊢
        replace h := h _ rfl
        refine kz_goto (pc := 27) (tgt := 31) (by decide) dX9_workAt_27 ?_
        exact kz_aret (pc := 31) (v := kz_rf o11) (kz_isr_rf _) rfl (Or.inl ⟨_, rfl⟩) (Nat.le_refl _) (Nat.le_refl _) dX9_workAt_31 h
theorem dX9_workOf_0 : decode cX9_workOf 0 = .ok (.aload_n 0, 1) := by decide +kernel
theorem dX9_workOf_1 : decode cX9_workOf 1 = .ok (.iload_n 2, 1) := by decide +kernel
theorem dX9_workOf_2 : decode cX9_workOf 2 = .ok (.invokevirtual 98, 3) := by decide +kernel
theorem dX9_workOf_5 : decode cX9_workOf 5 = .ok (.astore_n 3, 1) := by decide +kernel
theorem dX9_workOf_6 : decode cX9_workOf 6 = .ok (.aload_n 3, 1) := by decide +kernel
theorem dX9_workOf_7 : decode cX9_workOf 7 = .ok (.ifnull 15, 3) := by decide +kernel
theorem dX9_workOf_10 : decode cX9_workOf 10 = .ok (.aload_n 3, 1) := by decide +kernel
theorem dX9_workOf_11 : decode cX9_workOf 11 = .ok (.getfield 102, 3) := by decide +kernel
theorem dX9_workOf_14 : decode cX9_workOf 14 = .ok (.iload_n 1, 1) := by decide +kernel
theorem dX9_workOf_15 : decode cX9_workOf 15 = .ok (.if_icmp .ne 7, 3) := by decide +kernel
theorem dX9_workOf_18 : decode cX9_workOf 18 = .ok (.aload_n 3, 1) := by decide +kernel
theorem dX9_workOf_19 : decode cX9_workOf 19 = .ok (.goto 4, 3) := by decide +kernel
theorem dX9_workOf_22 : decode cX9_workOf 22 = .ok (.aconst_null, 1) := by decide +kernel
theorem dX9_workOf_23 : decode cX9_workOf 23 = .ok (.areturn, 1) := by decide +kernel
theorem rX9_workOf_0 {G : kz_G} {d : Nat} {Qr : Option Value → kz_M → Prop} {Qx : String → kz_M → Prop} {a0 : Nat} {p1 : Int32} {p2 : Int32}  {M : kz_M} (h : (∃ fs7, (M).1 a0 = some (.inl (8, fs7))) ∧ kz_C G (d + 0) 0 0 mX9_workAt [.ref a0, .int p2] M (fun v M1 => ∃ r2 : Option Nat, v = some (kz_rf r2) ∧ ((r2 = none → Qr (some (.null)) M1) ∧ (∀ y4, r2 = some y4 → ∃ fs5 v6, (M1).1 y4 = some (.inl (9, fs5)) ∧ fs5[0]? = some (.int v6) ∧ ((¬ v6 = p1 → Qr (some (.null)) M1) ∧ (v6 = p1 → Qr (some (.ref y4)) M1))))) Qx) : kz_C G (d + 1) 0 0 mX9_workOf [.ref a0, .int p1, .int p2] M Qr Qx := by
  refine kz_enter (n := 2) kmX9_workOf.1 (Nat.le_of_ble_eq_true rfl) (ls := [(0, .ref a0), (1, .int p1), (2, .int p2)]) rfl ?_
  refine kz_aload_n (pc := 0) 0 (v := .ref a0) (i := 0) rfl rfl rfl dX9_workOf_0 ?_
  refine kz_iload_n (pc := 1) 2 (i := 2) rfl rfl dX9_workOf_1 ?_
  obtain ⟨⟨fs7, he⟩, h⟩ := h
  refine kz_callV (pc := 2) (μ' := mX9_workAt) (ci := 8) (q := (RX9, TX9, 10)) (b := a0) (d' := d + 0) (mc' := 0) (ms' := 0) (As := [.int p2]) (st := []) (c := 0) (sl := 0) kmX9_workAt kw_718 (by omega) rfl (Nat.le_of_ble_eq_true rfl) he rfl rfl (Nat.le_refl _) (Nat.le_refl _) dX9_workOf_2 (fun E M9 hx => kz_Tout rfl (Nat.le_refl _) (Nat.le_refl _) hx) (kz_Cmono (fun v M1 h => ?_) (fun _ _ h => h) h)
  obtain ⟨r2, rfl, h⟩ := h
  show kz_Z G (d + 1) 0 0 mX9_workOf Qr Qx 5 [(0, .ref a0), (1, .int p1), (2, .int p2)] [kz_rf r2] M1 0 0
  refine kz_astore_n (pc := 5) (i := 3) (v := kz_rf r2) (ls' := [(0, .ref a0), (1, .int p1), (2, .int p2)]) rfl (kz_isr_rf _) (by decide) rfl dX9_workOf_5 ?_
  refine kz_aload_n (pc := 6) 0 (v := kz_rf r2) (i := 3) rfl rfl (kz_isr_rf _) dX9_workOf_6 ?_
  rcases r2 with _ | y4
  · replace h := h.1 rfl
    refine kz_ifnull (pc := 7) (tgt := 22) rfl (by decide) dX9_workOf_7 (fun _ => ?_) (fun hn => absurd rfl hn)
    refine kz_null (pc := 22) dX9_workOf_22 ?_
    exact kz_aret (pc := 23) (v := .null) rfl rfl (Or.inl ⟨_, rfl⟩) (Nat.le_refl _) (Nat.le_refl _) dX9_workOf_23 h
  · replace h := h.2 y4 rfl
    refine kz_ifnull (pc := 7) (tgt := 22) rfl (by decide) dX9_workOf_7 (fun hn => by cases hn) (fun _ => ?_)
    refine kz_aload_n (pc := 10) 0 (v := .ref y4) (i := 3) rfl rfl rfl dX9_workOf_10 ?_
    obtain ⟨fs5, v6, hM, hv, h⟩ := h
    refine kz_getf (pc := 11) (k := 0) kcX10 hM hv (by decide) kw_1189 dX9_workOf_11 ?_
    refine kz_iload_n (pc := 14) 2 (i := 1) rfl rfl dX9_workOf_14 ?_
    refine kz_icmp_ne (pc := 15) (tgt := 22) (by decide) dX9_workOf_15 (fun hb => ?_) (fun hb => ?_)
    · replace h := h.1 hb
      refine kz_null (pc := 22) dX9_workOf_22 ?_
      exact kz_aret (pc := 23) (v := .null) rfl rfl (Or.inl ⟨_, rfl⟩) (Nat.le_refl _) (Nat.le_refl _) dX9_workOf_23 h
    · replace h := h.2 hb
      refine kz_aload_n (pc := 18) 0 (v := .ref y4) (i := 3) rfl rfl rfl dX9_workOf_18 ?_
      refine kz_goto (pc := 19) (tgt := 23) (by decide) dX9_workOf_19 ?_
      exact kz_aret (pc := 23) (v := .ref y4) rfl rfl (Or.inl ⟨_, rfl⟩) (Nat.le_refl _) (Nat.le_refl _) dX9_workOf_23 h
theorem dX9_worksOf_0 : decode cX9_worksOf 0 = .ok (.iconst 0, 1) := by decide +kernel
theorem dX9_worksOf_1 : decode cX9_worksOf 1 = .ok (.istore_n 2, 1) := by decide +kernel
theorem dX9_worksOf_2 : decode cX9_worksOf 2 = .ok (.iconst 0, 1) := by decide +kernel
theorem dX9_worksOf_3 : decode cX9_worksOf 3 = .ok (.istore_n 3, 1) := by decide +kernel
theorem dX9_worksOf_4 : decode cX9_worksOf 4 = .ok (.iload_n 3, 1) := by decide +kernel
theorem dX9_worksOf_5 : decode cX9_worksOf 5 = .ok (.aload_n 0, 1) := by decide +kernel
theorem dX9_worksOf_6 : decode cX9_worksOf 6 = .ok (.getfield 55, 3) := by decide +kernel
theorem dX9_worksOf_9 : decode cX9_worksOf 9 = .ok (.if_icmp .ge 26, 3) := by decide +kernel
theorem dX9_worksOf_12 : decode cX9_worksOf 12 = .ok (.iload_n 2, 1) := by decide +kernel
theorem dX9_worksOf_13 : decode cX9_worksOf 13 = .ok (.aload_n 0, 1) := by decide +kernel
theorem dX9_worksOf_14 : decode cX9_worksOf 14 = .ok (.iload_n 1, 1) := by decide +kernel
theorem dX9_worksOf_15 : decode cX9_worksOf 15 = .ok (.iload_n 3, 1) := by decide +kernel
theorem dX9_worksOf_16 : decode cX9_worksOf 16 = .ok (.invokevirtual 105, 3) := by decide +kernel
theorem dX9_worksOf_19 : decode cX9_worksOf 19 = .ok (.ifnull 7, 3) := by decide +kernel
theorem dX9_worksOf_22 : decode cX9_worksOf 22 = .ok (.iconst 1, 1) := by decide +kernel
theorem dX9_worksOf_23 : decode cX9_worksOf 23 = .ok (.goto 4, 3) := by decide +kernel
theorem dX9_worksOf_26 : decode cX9_worksOf 26 = .ok (.iconst 0, 1) := by decide +kernel
theorem dX9_worksOf_27 : decode cX9_worksOf 27 = .ok (.iadd, 1) := by decide +kernel
theorem dX9_worksOf_28 : decode cX9_worksOf 28 = .ok (.istore_n 2, 1) := by decide +kernel
theorem dX9_worksOf_29 : decode cX9_worksOf 29 = .ok (.iinc 3 1, 3) := by decide +kernel
theorem dX9_worksOf_32 : decode cX9_worksOf 32 = .ok (.goto (-28), 3) := by decide +kernel
theorem dX9_worksOf_35 : decode cX9_worksOf 35 = .ok (.iload_n 2, 1) := by decide +kernel
theorem dX9_worksOf_36 : decode cX9_worksOf 36 = .ok (.ireturn, 1) := by decide +kernel
def zX9_worksOf_4 (G : kz_G) (d : Nat) (Qr : Option Value → kz_M → Prop) (Qx : String → kz_M → Prop) (x0 : Nat) (x1 : Int32) (x2 : Int32) (x3 : Int32)  (M : kz_M) : Prop := kz_Z G (d + 2) 0 0 mX9_worksOf Qr Qx 4 [(0, .ref x0), (1, .int x1), (2, .int x2), (3, .int x3)] [] M 0 0
theorem rX9_worksOf_0 {G : kz_G} {d : Nat} {Qr : Option Value → kz_M → Prop} {Qx : String → kz_M → Prop} {a0 : Nat} {p1 : Int32}  {M : kz_M} (h : zX9_worksOf_4 G d Qr Qx a0 p1 0 0 M) : kz_C G (d + 2) 0 0 mX9_worksOf [.ref a0, .int p1] M Qr Qx := by
  refine kz_enter (n := 1) kmX9_worksOf.1 (Nat.le_of_ble_eq_true rfl) (ls := [(0, .ref a0), (1, .int p1)]) rfl ?_
  refine kz_iconst (pc := 0) (v := 0) (by decide) dX9_worksOf_0 ?_
  refine kz_istore_n (pc := 1) (i := 2) (ls' := [(0, .ref a0), (1, .int p1)]) rfl (by decide) rfl dX9_worksOf_1 ?_
  refine kz_iconst (pc := 2) (v := 0) (by decide) dX9_worksOf_2 ?_
  refine kz_istore_n (pc := 3) (i := 3) (ls' := [(2, .int 0), (0, .ref a0), (1, .int p1)]) rfl (by decide) rfl dX9_worksOf_3 ?_
  refine kz_sub [2, 3, 1, 0] rfl ?_
  exact h
theorem rX9_worksOf_4 {G : kz_G} {d : Nat} {Qr : Option Value → kz_M → Prop} {Qx : String → kz_M → Prop} {x0 : Nat} {x1 : Int32} {x2 : Int32} {x3 : Int32}  {M : kz_M} (h : ∃ fs1 v2, (M).1 x0 = some (.inl (8, fs1)) ∧ fs1[3]? = some (.int v2) ∧ ((v2 ≤ x3 → Qr (some (.int x2)) M) ∧ (¬ v2 ≤ x3 → (∃ fs7, (M).1 x0 = some (.inl (8, fs7))) ∧ kz_C G (d + 1) 0 0 mX9_workOf [.ref x0, .int x1, .int x3] M (fun v M3 => ∃ r4 : Option Nat, v = some (kz_rf r4) ∧ ((r4 = none → zX9_worksOf_4 G d Qr Qx x0 x1 (x2 + 0) (x3 + 1) M3) ∧ (∀ y6, r4 = some y6 → zX9_worksOf_4 G d Qr Qx x0 x1 (x2 + 1) (x3 + 1) M3))) Qx))) : zX9_worksOf_4 G d Qr Qx x0 x1 x2 x3  M := by
  show kz_Z G (d + 2) 0 0 mX9_worksOf Qr Qx 4 [(0, .ref x0), (1, .int x1), (2, .int x2), (3, .int x3)] [] M 0 0
  refine kz_iload_n (pc := 4) 3 (i := 3) rfl rfl dX9_worksOf_4 ?_
  refine kz_aload_n (pc := 5) 0 (v := .ref x0) (i := 0) rfl rfl rfl dX9_worksOf_5 ?_
  obtain ⟨fs1, v2, hM, hv, h⟩ := h
  refine kz_getf (pc := 6) (k := 3) kcX9 hM hv (by decide) kw_115 dX9_worksOf_6 ?_
  refine kz_icmp_ge (pc := 9) (tgt := 35) (by decide) dX9_worksOf_9 (fun hb => ?_) (fun hb => ?_)
  · replace h := h.1 hb
    refine kz_iload_n (pc := 35) 2 (i := 2) rfl rfl dX9_worksOf_35 ?_
    exact kz_iret (pc := 36) rfl (Nat.le_refl _) (Nat.le_refl _) dX9_worksOf_36 h
  · replace h := h.2 hb
    refine kz_iload_n (pc := 12) 2 (i := 2) rfl rfl dX9_worksOf_12 ?_
    refine kz_aload_n (pc := 13) 0 (v := .ref x0) (i := 0) rfl rfl rfl dX9_worksOf_13 ?_
    refine kz_iload_n (pc := 14) 1 (i := 1) rfl rfl dX9_worksOf_14 ?_
    refine kz_iload_n (pc := 15) 3 (i := 3) rfl rfl dX9_worksOf_15 ?_
    obtain ⟨⟨fs7, he⟩, h⟩ := h
    refine kz_callV (pc := 16) (μ' := mX9_workOf) (ci := 8) (q := (RX9, TX9, 10)) (b := x0) (d' := d + 1) (mc' := 0) (ms' := 0) (As := [.int x1, .int x3]) (st := [.int x2]) (c := 0) (sl := 0) kmX9_workOf kw_856 (by omega) rfl (Nat.le_of_ble_eq_true rfl) he rfl rfl (Nat.le_refl _) (Nat.le_refl _) dX9_worksOf_16 (fun E M9 hx => kz_Tout rfl (Nat.le_refl _) (Nat.le_refl _) hx) (kz_Cmono (fun v M3 h => ?_) (fun _ _ h => h) h)
    obtain ⟨r4, rfl, h⟩ := h
    show kz_Z G (d + 2) 0 0 mX9_worksOf Qr Qx 19 [(0, .ref x0), (1, .int x1), (2, .int x2), (3, .int x3)] [kz_rf r4, .int x2] M3 0 0
    rcases r4 with _ | y6
    · replace h := h.1 rfl
      refine kz_ifnull (pc := 19) (tgt := 26) rfl (by decide) dX9_worksOf_19 (fun _ => ?_) (fun hn => absurd rfl hn)
      refine kz_iconst (pc := 26) (v := 0) (by decide) dX9_worksOf_26 ?_
      refine kz_iadd (pc := 27) dX9_worksOf_27 ?_
      refine kz_istore_n (pc := 28) (i := 2) (ls' := [(0, .ref x0), (1, .int x1), (3, .int x3)]) rfl (by decide) rfl dX9_worksOf_28 ?_
      refine kz_iinc (pc := 29) 3 (i := 3) (v := x3 + 1) (ls' := [(2, .int (x2 + 0)), (0, .ref x0), (1, .int x1)]) rfl (congrArg (fun z => x3 + z) (by decide)) (by decide) rfl dX9_worksOf_29 ?_
      refine kz_goto (pc := 32) (tgt := 4) (by decide) dX9_worksOf_32 ?_
      refine kz_sub [2, 3, 1, 0] rfl ?_
      exact h
    · replace h := h.2 y6 rfl
      refine kz_ifnull (pc := 19) (tgt := 26) rfl (by decide) dX9_worksOf_19 (fun hn => by cases hn) (fun _ => ?_)
      refine kz_iconst (pc := 22) (v := 1) (by decide) dX9_worksOf_22 ?_
      refine kz_goto (pc := 23) (tgt := 27) (by decide) dX9_worksOf_23 ?_
      refine kz_iadd (pc := 27) dX9_worksOf_27 ?_
      refine kz_istore_n (pc := 28) (i := 2) (ls' := [(0, .ref x0), (1, .int x1), (3, .int x3)]) rfl (by decide) rfl dX9_worksOf_28 ?_
      refine kz_iinc (pc := 29) 3 (i := 3) (v := x3 + 1) (ls' := [(2, .int (x2 + 1)), (0, .ref x0), (1, .int x1)]) rfl (congrArg (fun z => x3 + z) (by decide)) (by decide) rfl dX9_worksOf_29 ?_
      refine kz_goto (pc := 32) (tgt := 4) (by decide) dX9_worksOf_32 ?_
      refine kz_sub [2, 3, 1, 0] rfl ?_
      exact h
theorem dX9_linesOf_0 : decode cX9_linesOf 0 = .ok (.iconst 0, 1) := by decide +kernel
theorem dX9_linesOf_1 : decode cX9_linesOf 1 = .ok (.istore_n 3, 1) := by decide +kernel
theorem dX9_linesOf_2 : decode cX9_linesOf 2 = .ok (.iconst 0, 1) := by decide +kernel
theorem dX9_linesOf_3 : decode cX9_linesOf 3 = .ok (.istore 4, 2) := by decide +kernel
theorem dX9_linesOf_5 : decode cX9_linesOf 5 = .ok (.iload 4, 2) := by decide +kernel
theorem dX9_linesOf_7 : decode cX9_linesOf 7 = .ok (.aload_n 0, 1) := by decide +kernel
theorem dX9_linesOf_8 : decode cX9_linesOf 8 = .ok (.getfield 55, 3) := by decide +kernel
theorem dX9_linesOf_11 : decode cX9_linesOf 11 = .ok (.if_icmp .ge 45, 3) := by decide +kernel
theorem dX9_linesOf_14 : decode cX9_linesOf 14 = .ok (.aload_n 0, 1) := by decide +kernel
theorem dX9_linesOf_15 : decode cX9_linesOf 15 = .ok (.iload 4, 2) := by decide +kernel
theorem dX9_linesOf_17 : decode cX9_linesOf 17 = .ok (.invokevirtual 98, 3) := by decide +kernel
theorem dX9_linesOf_20 : decode cX9_linesOf 20 = .ok (.astore 5, 2) := by decide +kernel
theorem dX9_linesOf_22 : decode cX9_linesOf 22 = .ok (.aload 5, 2) := by decide +kernel
theorem dX9_linesOf_24 : decode cX9_linesOf 24 = .ok (.ifnull 26, 3) := by decide +kernel
theorem dX9_linesOf_27 : decode cX9_linesOf 27 = .ok (.iload_n 1, 1) := by decide +kernel
theorem dX9_linesOf_28 : decode cX9_linesOf 28 = .ok (.iconst (-1), 1) := by decide +kernel
theorem dX9_linesOf_29 : decode cX9_linesOf 29 = .ok (.if_icmp .eq 12, 3) := by decide +kernel
theorem dX9_linesOf_32 : decode cX9_linesOf 32 = .ok (.aload 5, 2) := by decide +kernel
theorem dX9_linesOf_34 : decode cX9_linesOf 34 = .ok (.getfield 102, 3) := by decide +kernel
theorem dX9_linesOf_37 : decode cX9_linesOf 37 = .ok (.iload_n 1, 1) := by decide +kernel
theorem dX9_linesOf_38 : decode cX9_linesOf 38 = .ok (.if_icmp .ne 12, 3) := by decide +kernel
theorem dX9_linesOf_41 : decode cX9_linesOf 41 = .ok (.iload_n 3, 1) := by decide +kernel
theorem dX9_linesOf_42 : decode cX9_linesOf 42 = .ok (.aload 5, 2) := by decide +kernel
theorem dX9_linesOf_44 : decode cX9_linesOf 44 = .ok (.iload_n 2, 1) := by decide +kernel
theorem dX9_linesOf_45 : decode cX9_linesOf 45 = .ok (.invokevirtual 109, 3) := by decide +kernel
theorem dX9_linesOf_48 : decode cX9_linesOf 48 = .ok (.iadd, 1) := by decide +kernel
theorem dX9_linesOf_49 : decode cX9_linesOf 49 = .ok (.istore_n 3, 1) := by decide +kernel
theorem dX9_linesOf_50 : decode cX9_linesOf 50 = .ok (.iinc 4 1, 3) := by decide +kernel
theorem dX9_linesOf_53 : decode cX9_linesOf 53 = .ok (.goto (-48), 3) := by decide +kernel
theorem dX9_linesOf_56 : decode cX9_linesOf 56 = .ok (.iload_n 3, 1) := by decide +kernel
theorem dX9_linesOf_57 : decode cX9_linesOf 57 = .ok (.ireturn, 1) := by decide +kernel
def zX9_linesOf_5 (G : kz_G) (d : Nat) (Qr : Option Value → kz_M → Prop) (Qx : String → kz_M → Prop) (x0 : Nat) (x1 : Int32) (x2 : Int32) (x3 : Int32) (x4 : Int32)  (M : kz_M) : Prop := kz_Z G (d + 3) 0 0 mX9_linesOf Qr Qx 5 [(0, .ref x0), (1, .int x1), (2, .int x2), (3, .int x3), (4, .int x4)] [] M 0 0
theorem rX9_linesOf_0 {G : kz_G} {d : Nat} {Qr : Option Value → kz_M → Prop} {Qx : String → kz_M → Prop} {a0 : Nat} {p1 : Int32} {p2 : Int32}  {M : kz_M} (h : zX9_linesOf_5 G d Qr Qx a0 p1 p2 0 0 M) : kz_C G (d + 3) 0 0 mX9_linesOf [.ref a0, .int p1, .int p2] M Qr Qx := by
  refine kz_enter (n := 2) kmX9_linesOf.1 (Nat.le_of_ble_eq_true rfl) (ls := [(0, .ref a0), (1, .int p1), (2, .int p2)]) rfl ?_
  refine kz_iconst (pc := 0) (v := 0) (by decide) dX9_linesOf_0 ?_
  refine kz_istore_n (pc := 1) (i := 3) (ls' := [(0, .ref a0), (1, .int p1), (2, .int p2)]) rfl (by decide) rfl dX9_linesOf_1 ?_
  refine kz_iconst (pc := 2) (v := 0) (by decide) dX9_linesOf_2 ?_
  refine kz_istore (pc := 3) (i := 4) (ls' := [(3, .int 0), (0, .ref a0), (1, .int p1), (2, .int p2)]) (by decide) rfl dX9_linesOf_3 ?_
  refine kz_sub [2, 3, 4, 1, 0] rfl ?_
  exact h
theorem rX9_linesOf_5 {G : kz_G} {d : Nat} {Qr : Option Value → kz_M → Prop} {Qx : String → kz_M → Prop} {x0 : Nat} {x1 : Int32} {x2 : Int32} {x3 : Int32} {x4 : Int32}  {M : kz_M} (h : ∃ fs1 v2, (M).1 x0 = some (.inl (8, fs1)) ∧ fs1[3]? = some (.int v2) ∧ ((v2 ≤ x4 → Qr (some (.int x3)) M) ∧ (¬ v2 ≤ x4 → (∃ fs17, (M).1 x0 = some (.inl (8, fs17))) ∧ kz_C G (d + 2) 0 0 mX9_workAt [.ref x0, .int x4] M (fun v M3 => ∃ r4 : Option Nat, v = some (kz_rf r4) ∧ ((r4 = none → zX9_linesOf_5 G d Qr Qx x0 x1 x2 x3 (x4 + 1) M3) ∧ (∀ y6, r4 = some y6 → (x1 = ((-1) : Int32) → (∃ fs10, (M3).1 y6 = some (.inl (9, fs10))) ∧ kz_C G (d + 2) 0 0 mX10_linesOf [.ref y6, .int x2] M3 (fun v M7 => ∃ r8 : Int32, v = some (.int r8) ∧ (zX9_linesOf_5 G d Qr Qx x0 x1 x2 (x3 + r8) (x4 + 1) M7)) Qx) ∧ (¬ x1 = ((-1) : Int32) → ∃ fs11 v12, (M3).1 y6 = some (.inl (9, fs11)) ∧ fs11[0]? = some (.int v12) ∧ ((¬ v12 = x1 → zX9_linesOf_5 G d Qr Qx x0 x1 x2 x3 (x4 + 1) M3) ∧ (v12 = x1 → (∃ fs16, (M3).1 y6 = some (.inl (9, fs16))) ∧ kz_C G (d + 2) 0 0 mX10_linesOf [.ref y6, .int x2] M3 (fun v M13 => ∃ r14 : Int32, v = some (.int r14) ∧ (zX9_linesOf_5 G d Qr Qx x0 x1 x2 (x3 + r14) (x4 + 1) M13)) Qx)))))) Qx))) : zX9_linesOf_5 G d Qr Qx x0 x1 x2 x3 x4  M := by
  show kz_Z G (d + 3) 0 0 mX9_linesOf Qr Qx 5 [(0, .ref x0), (1, .int x1), (2, .int x2), (3, .int x3), (4, .int x4)] [] M 0 0
  refine kz_iload (pc := 5) 4 (i := 4) rfl dX9_linesOf_5 ?_
  refine kz_aload_n (pc := 7) 0 (v := .ref x0) (i := 0) rfl rfl rfl dX9_linesOf_7 ?_
  obtain ⟨fs1, v2, hM, hv, h⟩ := h
  refine kz_getf (pc := 8) (k := 3) kcX9 hM hv (by decide) kw_115 dX9_linesOf_8 ?_
  refine kz_icmp_ge (pc := 11) (tgt := 56) (by decide) dX9_linesOf_11 (fun hb => ?_) (fun hb => ?_)
  · replace h := h.1 hb
    refine kz_iload_n (pc := 56) 3 (i := 3) rfl rfl dX9_linesOf_56 ?_
    exact kz_iret (pc := 57) rfl (Nat.le_refl _) (Nat.le_refl _) dX9_linesOf_57 h
  · replace h := h.2 hb
    refine kz_aload_n (pc := 14) 0 (v := .ref x0) (i := 0) rfl rfl rfl dX9_linesOf_14 ?_
    refine kz_iload (pc := 15) 4 (i := 4) rfl dX9_linesOf_15 ?_
    obtain ⟨⟨fs17, he⟩, h⟩ := h
    refine kz_callV (pc := 17) (μ' := mX9_workAt) (ci := 8) (q := (RX9, TX9, 10)) (b := x0) (d' := d + 2) (mc' := 0) (ms' := 0) (As := [.int x4]) (st := []) (c := 0) (sl := 0) kmX9_workAt kw_718 (by omega) rfl (Nat.le_of_ble_eq_true rfl) he rfl rfl (Nat.le_refl _) (Nat.le_refl _) dX9_linesOf_17 (fun E M9 hx => kz_Tout rfl (Nat.le_refl _) (Nat.le_refl _) hx) (kz_Cmono (fun v M3 h => ?_) (fun _ _ h => h) h)
    obtain ⟨r4, rfl, h⟩ := h
    show kz_Z G (d + 3) 0 0 mX9_linesOf Qr Qx 20 [(0, .ref x0), (1, .int x1), (2, .int x2), (3, .int x3), (4, .int x4)] [kz_rf r4] M3 0 0
    refine kz_astore (pc := 20) (i := 5) (v := kz_rf r4) (ls' := [(0, .ref x0), (1, .int x1), (2, .int x2), (3, .int x3), (4, .int x4)]) (kz_isr_rf _) (by decide) rfl dX9_linesOf_20 ?_
    refine kz_aload (pc := 22) 0 (v := kz_rf r4) (i := 5) rfl (kz_isr_rf _) dX9_linesOf_22 ?_
    rcases r4 with _ | y6
    · replace h := h.1 rfl
      refine kz_ifnull (pc := 24) (tgt := 50) rfl (by decide) dX9_linesOf_24 (fun _ => ?_) (fun hn => absurd rfl hn)
      refine kz_iinc (pc := 50) 5 (i := 4) (v := x4 + 1) (ls' := [(5, .null), (0, .ref x0), (1, .int x1), (2, .int x2), (3, .int x3)]) rfl (congrArg (fun z => x4 + z) (by decide)) (by decide) rfl dX9_linesOf_50 ?_
      refine kz_goto (pc := 53) (tgt := 5) (by decide) dX9_linesOf_53 ?_
      refine kz_sub [2, 3, 4, 5, 0] rfl ?_
      exact h
    · replace h := h.2 y6 rfl
      refine kz_ifnull (pc := 24) (tgt := 50) rfl (by decide) dX9_linesOf_24 (fun hn => by cases hn) (fun _ => ?_)
      refine kz_iload_n (pc := 27) 2 (i := 1) rfl rfl dX9_linesOf_27 ?_
      refine kz_iconst (pc := 28) (v := (-1)) (by decide) dX9_linesOf_28 ?_
      refine kz_icmp_eq (pc := 29) (tgt := 41) (by decide) dX9_linesOf_29 (fun hb => ?_) (fun hb => ?_)
      · replace h := h.1 hb
        refine kz_iload_n (pc := 41) 4 (i := 3) rfl rfl dX9_linesOf_41 ?_
        refine kz_aload (pc := 42) 0 (v := .ref y6) (i := 5) rfl rfl dX9_linesOf_42 ?_
        refine kz_iload_n (pc := 44) 3 (i := 2) rfl rfl dX9_linesOf_44 ?_
        obtain ⟨⟨fs10, he⟩, h⟩ := h
        refine kz_callV (pc := 45) (μ' := mX10_linesOf) (ci := 9) (q := (RX10, TX10, 4)) (b := y6) (d' := d + 2) (mc' := 0) (ms' := 0) (As := [.int x2]) (st := [.int x3]) (c := 0) (sl := 0) kmX10_linesOf kw_722 (by omega) rfl (Nat.le_of_ble_eq_true rfl) he rfl rfl (Nat.le_refl _) (Nat.le_refl _) dX9_linesOf_45 (fun E M9 hx => kz_Tout rfl (Nat.le_refl _) (Nat.le_refl _) hx) (kz_Cmono (fun v M7 h => ?_) (fun _ _ h => h) h)
        obtain ⟨r8, rfl, h⟩ := h
        show kz_Z G (d + 3) 0 0 mX9_linesOf Qr Qx 48 [(5, .ref y6), (0, .ref x0), (1, .int x1), (2, .int x2), (3, .int x3), (4, .int x4)] [.int r8, .int x3] M7 0 0
        refine kz_iadd (pc := 48) dX9_linesOf_48 ?_
        refine kz_istore_n (pc := 49) (i := 3) (ls' := [(5, .ref y6), (0, .ref x0), (1, .int x1), (2, .int x2), (4, .int x4)]) rfl (by decide) rfl dX9_linesOf_49 ?_
        refine kz_iinc (pc := 50) 5 (i := 4) (v := x4 + 1) (ls' := [(3, .int (x3 + r8)), (5, .ref y6), (0, .ref x0), (1, .int x1), (2, .int x2)]) rfl (congrArg (fun z => x4 + z) (by decide)) (by decide) rfl dX9_linesOf_50 ?_
        refine kz_goto (pc := 53) (tgt := 5) (by decide) dX9_linesOf_53 ?_
        refine kz_sub [3, 4, 5, 1, 0] rfl ?_
        exact h
      · replace h := h.2 hb
        refine kz_aload (pc := 32) 0 (v := .ref y6) (i := 5) rfl rfl dX9_linesOf_32 ?_
        obtain ⟨fs11, v12, hM, hv, h⟩ := h
        refine kz_getf (pc := 34) (k := 0) kcX10 hM hv (by decide) kw_1189 dX9_linesOf_34 ?_
        refine kz_iload_n (pc := 37) 2 (i := 1) rfl rfl dX9_linesOf_37 ?_
        refine kz_icmp_ne (pc := 38) (tgt := 50) (by decide) dX9_linesOf_38 (fun hb => ?_) (fun hb => ?_)
        · replace h := h.1 hb
          refine kz_iinc (pc := 50) 5 (i := 4) (v := x4 + 1) (ls' := [(5, .ref y6), (0, .ref x0), (1, .int x1), (2, .int x2), (3, .int x3)]) rfl (congrArg (fun z => x4 + z) (by decide)) (by decide) rfl dX9_linesOf_50 ?_
          refine kz_goto (pc := 53) (tgt := 5) (by decide) dX9_linesOf_53 ?_
          refine kz_sub [2, 3, 4, 5, 0] rfl ?_
          exact h
        · replace h := h.2 hb
          refine kz_iload_n (pc := 41) 4 (i := 3) rfl rfl dX9_linesOf_41 ?_
          refine kz_aload (pc := 42) 0 (v := .ref y6) (i := 5) rfl rfl dX9_linesOf_42 ?_
          refine kz_iload_n (pc := 44) 3 (i := 2) rfl rfl dX9_linesOf_44 ?_
          obtain ⟨⟨fs16, he⟩, h⟩ := h
          refine kz_callV (pc := 45) (μ' := mX10_linesOf) (ci := 9) (q := (RX10, TX10, 4)) (b := y6) (d' := d + 2) (mc' := 0) (ms' := 0) (As := [.int x2]) (st := [.int x3]) (c := 0) (sl := 0) kmX10_linesOf kw_722 (by omega) rfl (Nat.le_of_ble_eq_true rfl) he rfl rfl (Nat.le_refl _) (Nat.le_refl _) dX9_linesOf_45 (fun E M9 hx => kz_Tout rfl (Nat.le_refl _) (Nat.le_refl _) hx) (kz_Cmono (fun v M13 h => ?_) (fun _ _ h => h) h)
          obtain ⟨r14, rfl, h⟩ := h
          show kz_Z G (d + 3) 0 0 mX9_linesOf Qr Qx 48 [(5, .ref y6), (0, .ref x0), (1, .int x1), (2, .int x2), (3, .int x3), (4, .int x4)] [.int r14, .int x3] M13 0 0
          refine kz_iadd (pc := 48) dX9_linesOf_48 ?_
          refine kz_istore_n (pc := 49) (i := 3) (ls' := [(5, .ref y6), (0, .ref x0), (1, .int x1), (2, .int x2), (4, .int x4)]) rfl (by decide) rfl dX9_linesOf_49 ?_
          refine kz_iinc (pc := 50) 5 (i := 4) (v := x4 + 1) (ls' := [(3, .int (x3 + r14)), (5, .ref y6), (0, .ref x0), (1, .int x1), (2, .int x2)]) rfl (congrArg (fun z => x4 + z) (by decide)) (by decide) rfl dX9_linesOf_50 ?_
          refine kz_goto (pc := 53) (tgt := 5) (by decide) dX9_linesOf_53 ?_
          refine kz_sub [3, 4, 5, 1, 0] rfl ?_
          exact h
theorem dX9_collect_0 : decode cX9_collect 0 = .ok (.aload_n 1, 1) := by decide +kernel
theorem dX9_collect_1 : decode cX9_collect 1 = .ok (.invokevirtual 112, 3) := by decide +kernel
theorem dX9_collect_4 : decode cX9_collect 4 = .ok (.iconst 0, 1) := by decide +kernel
theorem dX9_collect_5 : decode cX9_collect 5 = .ok (.istore 4, 2) := by decide +kernel
theorem dX9_collect_7 : decode cX9_collect 7 = .ok (.iload 4, 2) := by decide +kernel
theorem dX9_collect_9 : decode cX9_collect 9 = .ok (.iload_n 3, 1) := by decide +kernel
theorem dX9_collect_10 : decode cX9_collect 10 = .ok (.if_icmp .ge 62, 3) := by decide +kernel
theorem dX9_collect_13 : decode cX9_collect 13 = .ok (.aload_n 0, 1) := by decide +kernel
theorem dX9_collect_14 : decode cX9_collect 14 = .ok (.iload_n 2, 1) := by decide +kernel
theorem dX9_collect_15 : decode cX9_collect 15 = .ok (.iload 4, 2) := by decide +kernel
theorem dX9_collect_17 : decode cX9_collect 17 = .ok (.invokevirtual 105, 3) := by decide +kernel
theorem dX9_collect_20 : decode cX9_collect 20 = .ok (.astore 5, 2) := by decide +kernel
theorem dX9_collect_22 : decode cX9_collect 22 = .ok (.iconst 0, 1) := by decide +kernel
theorem dX9_collect_23 : decode cX9_collect 23 = .ok (.istore 6, 2) := by decide +kernel
theorem dX9_collect_25 : decode cX9_collect 25 = .ok (.aload 5, 2) := by decide +kernel
theorem dX9_collect_27 : decode cX9_collect 27 = .ok (.ifnull 39, 3) := by decide +kernel
theorem dX9_collect_30 : decode cX9_collect 30 = .ok (.iload 6, 2) := by decide +kernel
theorem dX9_collect_32 : decode cX9_collect 32 = .ok (.aload 5, 2) := by decide +kernel
theorem dX9_collect_34 : decode cX9_collect 34 = .ok (.invokevirtual 117, 3) := by decide +kernel
theorem dX9_collect_37 : decode cX9_collect 37 = .ok (.if_icmp .ge 29, 3) := by decide +kernel
theorem dX9_collect_40 : decode cX9_collect 40 = .ok (.aload 5, 2) := by decide +kernel
theorem dX9_collect_42 : decode cX9_collect 42 = .ok (.iload 6, 2) := by decide +kernel
theorem dX9_collect_44 : decode cX9_collect 44 = .ok (.invokevirtual 120, 3) := by decide +kernel
theorem dX9_collect_47 : decode cX9_collect 47 = .ok (.astore 7, 2) := by decide +kernel
theorem dX9_collect_49 : decode cX9_collect 49 = .ok (.aload 7, 2) := by decide +kernel
theorem dX9_collect_51 : decode cX9_collect 51 = .ok (.ifnull 9, 3) := by decide +kernel
theorem dX9_collect_54 : decode cX9_collect 54 = .ok (.aload_n 1, 1) := by decide +kernel
theorem dX9_collect_55 : decode cX9_collect 55 = .ok (.aload 7, 2) := by decide +kernel
theorem dX9_collect_57 : decode cX9_collect 57 = .ok (.invokevirtual 124, 3) := by decide +kernel
theorem dX9_collect_60 : decode cX9_collect 60 = .ok (.iinc 6 1, 3) := by decide +kernel
theorem dX9_collect_63 : decode cX9_collect 63 = .ok (.goto (-38), 3) := by decide +kernel
theorem dX9_collect_66 : decode cX9_collect 66 = .ok (.iinc 4 1, 3) := by decide +kernel
theorem dX9_collect_69 : decode cX9_collect 69 = .ok (.goto (-62), 3) := by decide +kernel
theorem dX9_collect_72 : decode cX9_collect 72 = .ok (.return_, 1) := by decide +kernel
def zX9_collect_7 (G : kz_G) (d : Nat) (Qr : Option Value → kz_M → Prop) (Qx : String → kz_M → Prop) (x0 : Nat) (x1 : Nat) (x2 : Int32) (x3 : Int32) (x4 : Int32)  (M : kz_M) : Prop := kz_Z G (d + 2) 0 0 mX9_collect Qr Qx 7 [(0, .ref x0), (1, .ref x1), (2, .int x2), (3, .int x3), (4, .int x4)] [] M 0 0
def zX9_collect_25 (G : kz_G) (d : Nat) (Qr : Option Value → kz_M → Prop) (Qx : String → kz_M → Prop) (x0 : Nat) (x1 : Nat) (x2 : Int32) (x3 : Int32) (x4 : Int32) (x5 : Option Nat) (x6 : Int32)  (M : kz_M) : Prop := kz_Z G (d + 2) 0 0 mX9_collect Qr Qx 25 [(0, .ref x0), (1, .ref x1), (2, .int x2), (3, .int x3), (4, .int x4), (5, kz_rf x5), (6, .int x6)] [] M 0 0
theorem rX9_collect_0 {G : kz_G} {d : Nat} {Qr : Option Value → kz_M → Prop} {Qx : String → kz_M → Prop} {a0 : Nat} {p1 : Nat} {p2 : Int32} {p3 : Int32}  {M : kz_M} (h : (∃ fs4, (M).1 p1 = some (.inl (5, fs4))) ∧ kz_C G (d + 1) 0 0 mX5_forget [.ref p1] M (fun v M1 => v = none ∧ (zX9_collect_7 G d Qr Qx a0 p1 p2 p3 0 M1)) Qx) : kz_C G (d + 2) 0 0 mX9_collect [.ref a0, .ref p1, .int p2, .int p3] M Qr Qx := by
  refine kz_enter (n := 3) kmX9_collect.1 (Nat.le_of_ble_eq_true rfl) (ls := [(0, .ref a0), (1, .ref p1), (2, .int p2), (3, .int p3)]) rfl ?_
  refine kz_aload_n (pc := 0) 1 (v := .ref p1) (i := 1) rfl rfl rfl dX9_collect_0 ?_
  obtain ⟨⟨fs4, he⟩, h⟩ := h
  refine kz_callV (pc := 1) (μ' := mX5_forget) (ci := 5) (q := (RX5, TX5, 2)) (b := p1) (d' := d + 1) (mc' := 0) (ms' := 0) (As := []) (st := []) (c := 0) (sl := 0) kmX5_forget kw_872 (by omega) rfl (Nat.le_of_ble_eq_true rfl) he rfl rfl (Nat.le_refl _) (Nat.le_refl _) dX9_collect_1 (fun E M9 hx => kz_Tout rfl (Nat.le_refl _) (Nat.le_refl _) hx) (kz_Cmono (fun v M1 h => ?_) (fun _ _ h => h) h)
  obtain ⟨rfl, h⟩ := h
  show kz_Z G (d + 2) 0 0 mX9_collect Qr Qx 4 [(0, .ref a0), (1, .ref p1), (2, .int p2), (3, .int p3)] [] M1 0 0
  refine kz_iconst (pc := 4) (v := 0) (by decide) dX9_collect_4 ?_
  refine kz_istore (pc := 5) (i := 4) (ls' := [(0, .ref a0), (1, .ref p1), (2, .int p2), (3, .int p3)]) (by decide) rfl dX9_collect_5 ?_
  refine kz_sub [1, 2, 3, 4, 0] rfl ?_
  exact h
theorem rX9_collect_7 {G : kz_G} {d : Nat} {Qr : Option Value → kz_M → Prop} {Qx : String → kz_M → Prop} {x0 : Nat} {x1 : Nat} {x2 : Int32} {x3 : Int32} {x4 : Int32}  {M : kz_M} (h : (x3 ≤ x4 → Qr none M) ∧ (¬ x3 ≤ x4 → (∃ fs4, (M).1 x0 = some (.inl (8, fs4))) ∧ kz_C G (d + 1) 0 0 mX9_workOf [.ref x0, .int x2, .int x4] M (fun v M1 => ∃ r2 : Option Nat, v = some (kz_rf r2) ∧ (zX9_collect_25 G d Qr Qx x0 x1 x2 x3 x4 r2 0 M1)) Qx)) : zX9_collect_7 G d Qr Qx x0 x1 x2 x3 x4  M := by
  show kz_Z G (d + 2) 0 0 mX9_collect Qr Qx 7 [(0, .ref x0), (1, .ref x1), (2, .int x2), (3, .int x3), (4, .int x4)] [] M 0 0
  refine kz_iload (pc := 7) 4 (i := 4) rfl dX9_collect_7 ?_
  refine kz_iload_n (pc := 9) 3 (i := 3) rfl rfl dX9_collect_9 ?_
  refine kz_icmp_ge (pc := 10) (tgt := 72) (by decide) dX9_collect_10 (fun hb => ?_) (fun hb => ?_)
  · replace h := h.1 hb
    exact kz_vret (pc := 72) rfl (Nat.le_refl _) (Nat.le_refl _) dX9_collect_72 h
  · replace h := h.2 hb
    refine kz_aload_n (pc := 13) 0 (v := .ref x0) (i := 0) rfl rfl rfl dX9_collect_13 ?_
    refine kz_iload_n (pc := 14) 2 (i := 2) rfl rfl dX9_collect_14 ?_
    refine kz_iload (pc := 15) 4 (i := 4) rfl dX9_collect_15 ?_
    obtain ⟨⟨fs4, he⟩, h⟩ := h
    refine kz_callV (pc := 17) (μ' := mX9_workOf) (ci := 8) (q := (RX9, TX9, 10)) (b := x0) (d' := d + 1) (mc' := 0) (ms' := 0) (As := [.int x2, .int x4]) (st := []) (c := 0) (sl := 0) kmX9_workOf kw_856 (by omega) rfl (Nat.le_of_ble_eq_true rfl) he rfl rfl (Nat.le_refl _) (Nat.le_refl _) dX9_collect_17 (fun E M9 hx => kz_Tout rfl (Nat.le_refl _) (Nat.le_refl _) hx) (kz_Cmono (fun v M1 h => ?_) (fun _ _ h => h) h)
    obtain ⟨r2, rfl, h⟩ := h
    show kz_Z G (d + 2) 0 0 mX9_collect Qr Qx 20 [(0, .ref x0), (1, .ref x1), (2, .int x2), (3, .int x3), (4, .int x4)] [kz_rf r2] M1 0 0
    refine kz_astore (pc := 20) (i := 5) (v := kz_rf r2) (ls' := [(0, .ref x0), (1, .ref x1), (2, .int x2), (3, .int x3), (4, .int x4)]) (kz_isr_rf _) (by decide) rfl dX9_collect_20 ?_
    refine kz_iconst (pc := 22) (v := 0) (by decide) dX9_collect_22 ?_
    refine kz_istore (pc := 23) (i := 6) (ls' := [(5, kz_rf r2), (0, .ref x0), (1, .ref x1), (2, .int x2), (3, .int x3), (4, .int x4)]) (by decide) (by simp [kz_s1, kz_s2, kz_cat_rf]) dX9_collect_23 ?_
    refine kz_sub [2, 3, 4, 5, 6, 1, 0] rfl ?_
    exact h
theorem rX9_collect_25 {G : kz_G} {d : Nat} {Qr : Option Value → kz_M → Prop} {Qx : String → kz_M → Prop} {x0 : Nat} {x1 : Nat} {x2 : Int32} {x3 : Int32} {x4 : Int32} {x5 : Option Nat} {x6 : Int32}  {M : kz_M} (h : (x5 = none → zX9_collect_7 G d Qr Qx x0 x1 x2 x3 (x4 + 1) M) ∧ (∀ y1, x5 = some y1 → (∃ fs14, (M).1 y1 = some (.inl (9, fs14))) ∧ kz_C G (d + 1) 0 0 mX10_size [.ref y1] M (fun v M2 => ∃ r3 : Int32, v = some (.int r3) ∧ ((r3 ≤ x6 → zX9_collect_7 G d Qr Qx x0 x1 x2 x3 (x4 + 1) M2) ∧ (¬ r3 ≤ x6 → (∃ fs13, (M2).1 y1 = some (.inl (9, fs13))) ∧ kz_C G (d + 1) 0 0 mX10_lineAt [.ref y1, .int x6] M2 (fun v M5 => ∃ r6 : Option Nat, v = some (kz_rf r6) ∧ ((r6 = none → zX9_collect_25 G d Qr Qx x0 x1 x2 x3 x4 (some y1) (x6 + 1) M5) ∧ (∀ y8, r6 = some y8 → (∃ fs12, (M5).1 x1 = some (.inl (5, fs12))) ∧ kz_C G (d + 1) 0 0 mX5_addIfItCounts [.ref x1, .ref y8] M5 (fun v M9 => v = none ∧ (zX9_collect_25 G d Qr Qx x0 x1 x2 x3 x4 (some y1) (x6 + 1) M9)) Qx))) Qx))) Qx)) : zX9_collect_25 G d Qr Qx x0 x1 x2 x3 x4 x5 x6  M := by
  show kz_Z G (d + 2) 0 0 mX9_collect Qr Qx 25 [(0, .ref x0), (1, .ref x1), (2, .int x2), (3, .int x3), (4, .int x4), (5, kz_rf x5), (6, .int x6)] [] M 0 0
  refine kz_aload (pc := 25) 5 (v := kz_rf x5) (i := 5) rfl (kz_isr_rf _) dX9_collect_25 ?_
  rcases x5 with _ | y1
  · replace h := h.1 rfl
    refine kz_ifnull (pc := 27) (tgt := 66) rfl (by decide) dX9_collect_27 (fun _ => ?_) (fun hn => absurd rfl hn)
    refine kz_iinc (pc := 66) 4 (i := 4) (v := x4 + 1) (ls' := [(0, .ref x0), (1, .ref x1), (2, .int x2), (3, .int x3), (5, .null), (6, .int x6)]) rfl (congrArg (fun z => x4 + z) (by decide)) (by decide) rfl dX9_collect_66 ?_
    refine kz_goto (pc := 69) (tgt := 7) (by decide) dX9_collect_69 ?_
    refine kz_sub [1, 2, 3, 4, 0] rfl ?_
    exact h
  · replace h := h.2 y1 rfl
    refine kz_ifnull (pc := 27) (tgt := 66) rfl (by decide) dX9_collect_27 (fun hn => by cases hn) (fun _ => ?_)
    refine kz_iload (pc := 30) 6 (i := 6) rfl dX9_collect_30 ?_
    refine kz_aload (pc := 32) 5 (v := .ref y1) (i := 5) rfl rfl dX9_collect_32 ?_
    obtain ⟨⟨fs14, he⟩, h⟩ := h
    refine kz_callV (pc := 34) (μ' := mX10_size) (ci := 9) (q := (RX10, TX10, 4)) (b := y1) (d' := d + 1) (mc' := 0) (ms' := 0) (As := []) (st := [.int x6]) (c := 0) (sl := 0) kmX10_size kw_876 (by omega) rfl (Nat.le_of_ble_eq_true rfl) he rfl rfl (Nat.le_refl _) (Nat.le_refl _) dX9_collect_34 (fun E M9 hx => kz_Tout rfl (Nat.le_refl _) (Nat.le_refl _) hx) (kz_Cmono (fun v M2 h => ?_) (fun _ _ h => h) h)
    obtain ⟨r3, rfl, h⟩ := h
    show kz_Z G (d + 2) 0 0 mX9_collect Qr Qx 37 [(0, .ref x0), (1, .ref x1), (2, .int x2), (3, .int x3), (4, .int x4), (5, .ref y1), (6, .int x6)] [.int r3, .int x6] M2 0 0
    refine kz_icmp_ge (pc := 37) (tgt := 66) (by decide) dX9_collect_37 (fun hb => ?_) (fun hb => ?_)
    · replace h := h.1 hb
      refine kz_iinc (pc := 66) 4 (i := 4) (v := x4 + 1) (ls' := [(0, .ref x0), (1, .ref x1), (2, .int x2), (3, .int x3), (5, .ref y1), (6, .int x6)]) rfl (congrArg (fun z => x4 + z) (by decide)) (by decide) rfl dX9_collect_66 ?_
      refine kz_goto (pc := 69) (tgt := 7) (by decide) dX9_collect_69 ?_
      refine kz_sub [1, 2, 3, 4, 0] rfl ?_
      exact h
    · replace h := h.2 hb
      refine kz_aload (pc := 40) 5 (v := .ref y1) (i := 5) rfl rfl dX9_collect_40 ?_
      refine kz_iload (pc := 42) 6 (i := 6) rfl dX9_collect_42 ?_
      obtain ⟨⟨fs13, he⟩, h⟩ := h
      refine kz_callV (pc := 44) (μ' := mX10_lineAt) (ci := 9) (q := (RX10, TX10, 4)) (b := y1) (d' := d + 1) (mc' := 0) (ms' := 0) (As := [.int x6]) (st := []) (c := 0) (sl := 0) kmX10_lineAt kw_880 (by omega) rfl (Nat.le_of_ble_eq_true rfl) he rfl rfl (Nat.le_refl _) (Nat.le_refl _) dX9_collect_44 (fun E M9 hx => kz_Tout rfl (Nat.le_refl _) (Nat.le_refl _) hx) (kz_Cmono (fun v M5 h => ?_) (fun _ _ h => h) h)
      obtain ⟨r6, rfl, h⟩ := h
      show kz_Z G (d + 2) 0 0 mX9_collect Qr Qx 47 [(0, .ref x0), (1, .ref x1), (2, .int x2), (3, .int x3), (4, .int x4), (5, .ref y1), (6, .int x6)] [kz_rf r6] M5 0 0
      refine kz_astore (pc := 47) (i := 7) (v := kz_rf r6) (ls' := [(0, .ref x0), (1, .ref x1), (2, .int x2), (3, .int x3), (4, .int x4), (5, .ref y1), (6, .int x6)]) (kz_isr_rf _) (by decide) rfl dX9_collect_47 ?_
      refine kz_aload (pc := 49) 0 (v := kz_rf r6) (i := 7) rfl (kz_isr_rf _) dX9_collect_49 ?_
      rcases r6 with _ | y8
      · replace h := h.1 rfl
        refine kz_ifnull (pc := 51) (tgt := 60) rfl (by decide) dX9_collect_51 (fun _ => ?_) (fun hn => absurd rfl hn)
        refine kz_iinc (pc := 60) 7 (i := 6) (v := x6 + 1) (ls' := [(7, .null), (0, .ref x0), (1, .ref x1), (2, .int x2), (3, .int x3), (4, .int x4), (5, .ref y1)]) rfl (congrArg (fun z => x6 + z) (by decide)) (by decide) rfl dX9_collect_60 ?_
        refine kz_goto (pc := 63) (tgt := 25) (by decide) dX9_collect_63 ?_
        refine kz_sub [2, 3, 4, 5, 6, 7, 0] rfl ?_
        exact h
      · replace h := h.2 y8 rfl
        refine kz_ifnull (pc := 51) (tgt := 60) rfl (by decide) dX9_collect_51 (fun hn => by cases hn) (fun _ => ?_)
        refine kz_aload_n (pc := 54) 2 (v := .ref x1) (i := 1) rfl rfl rfl dX9_collect_54 ?_
        refine kz_aload (pc := 55) 0 (v := .ref y8) (i := 7) rfl rfl dX9_collect_55 ?_
        obtain ⟨⟨fs12, he⟩, h⟩ := h
        refine kz_callV (pc := 57) (μ' := mX5_addIfItCounts) (ci := 5) (q := (RX5, TX5, 2)) (b := x1) (d' := d + 1) (mc' := 0) (ms' := 0) (As := [.ref y8]) (st := []) (c := 0) (sl := 0) kmX5_addIfItCounts kw_884 (by omega) rfl (Nat.le_of_ble_eq_true rfl) he rfl rfl (Nat.le_refl _) (Nat.le_refl _) dX9_collect_57 (fun E M9 hx => kz_Tout rfl (Nat.le_refl _) (Nat.le_refl _) hx) (kz_Cmono (fun v M9 h => ?_) (fun _ _ h => h) h)
        obtain ⟨rfl, h⟩ := h
        show kz_Z G (d + 2) 0 0 mX9_collect Qr Qx 60 [(7, .ref y8), (0, .ref x0), (1, .ref x1), (2, .int x2), (3, .int x3), (4, .int x4), (5, .ref y1), (6, .int x6)] [] M9 0 0
        refine kz_iinc (pc := 60) 7 (i := 6) (v := x6 + 1) (ls' := [(7, .ref y8), (0, .ref x0), (1, .ref x1), (2, .int x2), (3, .int x3), (4, .int x4), (5, .ref y1)]) rfl (congrArg (fun z => x6 + z) (by decide)) (by decide) rfl dX9_collect_60 ?_
        refine kz_goto (pc := 63) (tgt := 25) (by decide) dX9_collect_63 ?_
        refine kz_sub [2, 3, 4, 5, 6, 7, 0] rfl ?_
        exact h
theorem dX9_usedBefore_0 : decode cX9_usedBefore 0 = .ok (.iconst 0, 1) := by decide +kernel
theorem dX9_usedBefore_1 : decode cX9_usedBefore 1 = .ok (.istore 5, 2) := by decide +kernel
theorem dX9_usedBefore_3 : decode cX9_usedBefore 3 = .ok (.iload 5, 2) := by decide +kernel
theorem dX9_usedBefore_5 : decode cX9_usedBefore 5 = .ok (.iload 4, 2) := by decide +kernel
theorem dX9_usedBefore_7 : decode cX9_usedBefore 7 = .ok (.if_icmp .ge 46, 3) := by decide +kernel
theorem dX9_usedBefore_10 : decode cX9_usedBefore 10 = .ok (.aload_n 0, 1) := by decide +kernel
theorem dX9_usedBefore_11 : decode cX9_usedBefore 11 = .ok (.iload_n 3, 1) := by decide +kernel
theorem dX9_usedBefore_12 : decode cX9_usedBefore 12 = .ok (.iload 5, 2) := by decide +kernel
theorem dX9_usedBefore_14 : decode cX9_usedBefore 14 = .ok (.invokevirtual 105, 3) := by decide +kernel
theorem dX9_usedBefore_17 : decode cX9_usedBefore 17 = .ok (.astore 6, 2) := by decide +kernel
theorem dX9_usedBefore_19 : decode cX9_usedBefore 19 = .ok (.aload 6, 2) := by decide +kernel
theorem dX9_usedBefore_21 : decode cX9_usedBefore 21 = .ok (.ifnull 26, 3) := by decide +kernel
theorem dX9_usedBefore_24 : decode cX9_usedBefore 24 = .ok (.aload 6, 2) := by decide +kernel
theorem dX9_usedBefore_26 : decode cX9_usedBefore 26 = .ok (.getfield 128, 3) := by decide +kernel
theorem dX9_usedBefore_29 : decode cX9_usedBefore 29 = .ok (.lload_n 1, 1) := by decide +kernel
theorem dX9_usedBefore_30 : decode cX9_usedBefore 30 = .ok (.iconst 0, 1) := by decide +kernel
theorem dX9_usedBefore_31 : decode cX9_usedBefore 31 = .ok (.aload 6, 2) := by decide +kernel
theorem dX9_usedBefore_33 : decode cX9_usedBefore 33 = .ok (.getfield 128, 3) := by decide +kernel
theorem dX9_usedBefore_36 : decode cX9_usedBefore 36 = .ok (.invokevirtual 132, 3) := by decide +kernel
theorem dX9_usedBefore_39 : decode cX9_usedBefore 39 = .ok (.invokevirtual 135, 3) := by decide +kernel
theorem dX9_usedBefore_42 : decode cX9_usedBefore 42 = .ok (.ifCond .le 5, 3) := by decide +kernel
theorem dX9_usedBefore_45 : decode cX9_usedBefore 45 = .ok (.iconst 1, 1) := by decide +kernel
theorem dX9_usedBefore_46 : decode cX9_usedBefore 46 = .ok (.ireturn, 1) := by decide +kernel
theorem dX9_usedBefore_47 : decode cX9_usedBefore 47 = .ok (.iinc 5 1, 3) := by decide +kernel
theorem dX9_usedBefore_50 : decode cX9_usedBefore 50 = .ok (.goto (-47), 3) := by decide +kernel
theorem dX9_usedBefore_53 : decode cX9_usedBefore 53 = .ok (.iconst 0, 1) := by decide +kernel
theorem dX9_usedBefore_54 : decode cX9_usedBefore 54 = .ok (.ireturn, 1) := by decide +kernel
def zX9_usedBefore_3 (G : kz_G) (d : Nat) (Qr : Option Value → kz_M → Prop) (Qx : String → kz_M → Prop) (x0 : Nat) (x1 : Int64) (x3 : Int32) (x4 : Int32) (x5 : Int32)  (M : kz_M) : Prop := kz_Z G (d + 2) 0 0 mX9_usedBefore Qr Qx 3 [(0, .ref x0), (1, .long x1), (3, .int x3), (4, .int x4), (5, .int x5)] [] M 0 0
theorem rX9_usedBefore_0 {G : kz_G} {d : Nat} {Qr : Option Value → kz_M → Prop} {Qx : String → kz_M → Prop} {a0 : Nat} {p1 : Int64} {p3 : Int32} {p4 : Int32}  {M : kz_M} (h : zX9_usedBefore_3 G d Qr Qx a0 p1 p3 p4 0 M) : kz_C G (d + 2) 0 0 mX9_usedBefore [.ref a0, .long p1, .int p3, .int p4] M Qr Qx := by
  refine kz_enter (n := 3) kmX9_usedBefore.1 (Nat.le_of_ble_eq_true rfl) (ls := [(0, .ref a0), (1, .long p1), (3, .int p3), (4, .int p4)]) rfl ?_
  refine kz_iconst (pc := 0) (v := 0) (by decide) dX9_usedBefore_0 ?_
  refine kz_istore (pc := 1) (i := 5) (ls' := [(0, .ref a0), (1, .long p1), (3, .int p3), (4, .int p4)]) (by decide) rfl dX9_usedBefore_1 ?_
  refine kz_sub [1, 2, 3, 4, 0] rfl ?_
  exact h
theorem rX9_usedBefore_3 {G : kz_G} {d : Nat} {Qr : Option Value → kz_M → Prop} {Qx : String → kz_M → Prop} {x0 : Nat} {x1 : Int64} {x3 : Int32} {x4 : Int32} {x5 : Int32}  {M : kz_M} (h : (x4 ≤ x5 → Qr (some (.int 0)) M) ∧ (¬ x4 ≤ x5 → (∃ fs17, (M).1 x0 = some (.inl (8, fs17))) ∧ kz_C G (d + 1) 0 0 mX9_workOf [.ref x0, .int x3, .int x5] M (fun v M1 => ∃ r2 : Option Nat, v = some (kz_rf r2) ∧ ((r2 = none → zX9_usedBefore_3 G d Qr Qx x0 x1 x3 x4 (x5 + 1) M1) ∧ (∀ y4, r2 = some y4 → ∃ fs5 v6, (M1).1 y4 = some (.inl (9, fs5)) ∧ fs5[2]? = some (.ref v6) ∧ (∃ fs7 v8, (M1).1 y4 = some (.inl (9, fs7)) ∧ fs7[2]? = some (.ref v8) ∧ ((∃ fs16, (M1).1 v8 = some (.inl (6, fs16))) ∧ kz_C G (d + 1) 0 0 mX6_size [.ref v8] M1 (fun v M9 => ∃ r10 : Int32, v = some (.int r10) ∧ ((∃ fs15, (M9).1 v6 = some (.inl (6, fs15))) ∧ kz_C G (d + 1) 0 0 mX6_times [.ref v6, .long x1, .int 0, .int r10] M9 (fun v M12 => ∃ r13 : Int32, v = some (.int r13) ∧ ((r13 ≤ 0 → zX9_usedBefore_3 G d Qr Qx x0 x1 x3 x4 (x5 + 1) M12) ∧ (¬ r13 ≤ 0 → Qr (some (.int 1)) M12))) Qx)) Qx))))) Qx)) : zX9_usedBefore_3 G d Qr Qx x0 x1 x3 x4 x5  M := by
  show kz_Z G (d + 2) 0 0 mX9_usedBefore Qr Qx 3 [(0, .ref x0), (1, .long x1), (3, .int x3), (4, .int x4), (5, .int x5)] [] M 0 0
  refine kz_iload (pc := 3) 4 (i := 5) rfl dX9_usedBefore_3 ?_
  refine kz_iload (pc := 5) 3 (i := 4) rfl dX9_usedBefore_5 ?_
  refine kz_icmp_ge (pc := 7) (tgt := 53) (by decide) dX9_usedBefore_7 (fun hb => ?_) (fun hb => ?_)
  · replace h := h.1 hb
    refine kz_iconst (pc := 53) (v := 0) (by decide) dX9_usedBefore_53 ?_
    exact kz_zret (pc := 54) (ty := .boolean) rfl (by decide) (Nat.le_refl _) (Nat.le_refl _) dX9_usedBefore_54 h
  · replace h := h.2 hb
    refine kz_aload_n (pc := 10) 0 (v := .ref x0) (i := 0) rfl rfl rfl dX9_usedBefore_10 ?_
    refine kz_iload_n (pc := 11) 2 (i := 3) rfl rfl dX9_usedBefore_11 ?_
    refine kz_iload (pc := 12) 4 (i := 5) rfl dX9_usedBefore_12 ?_
    obtain ⟨⟨fs17, he⟩, h⟩ := h
    refine kz_callV (pc := 14) (μ' := mX9_workOf) (ci := 8) (q := (RX9, TX9, 10)) (b := x0) (d' := d + 1) (mc' := 0) (ms' := 0) (As := [.int x3, .int x5]) (st := []) (c := 0) (sl := 0) kmX9_workOf kw_856 (by omega) rfl (Nat.le_of_ble_eq_true rfl) he rfl rfl (Nat.le_refl _) (Nat.le_refl _) dX9_usedBefore_14 (fun E M9 hx => kz_Tout rfl (Nat.le_refl _) (Nat.le_refl _) hx) (kz_Cmono (fun v M1 h => ?_) (fun _ _ h => h) h)
    obtain ⟨r2, rfl, h⟩ := h
    show kz_Z G (d + 2) 0 0 mX9_usedBefore Qr Qx 17 [(0, .ref x0), (1, .long x1), (3, .int x3), (4, .int x4), (5, .int x5)] [kz_rf r2] M1 0 0
    refine kz_astore (pc := 17) (i := 6) (v := kz_rf r2) (ls' := [(0, .ref x0), (1, .long x1), (3, .int x3), (4, .int x4), (5, .int x5)]) (kz_isr_rf _) (by decide) rfl dX9_usedBefore_17 ?_
    refine kz_aload (pc := 19) 0 (v := kz_rf r2) (i := 6) rfl (kz_isr_rf _) dX9_usedBefore_19 ?_
    rcases r2 with _ | y4
    · replace h := h.1 rfl
      refine kz_ifnull (pc := 21) (tgt := 47) rfl (by decide) dX9_usedBefore_21 (fun _ => ?_) (fun hn => absurd rfl hn)
      refine kz_iinc (pc := 47) 5 (i := 5) (v := x5 + 1) (ls' := [(6, .null), (0, .ref x0), (1, .long x1), (3, .int x3), (4, .int x4)]) rfl (congrArg (fun z => x5 + z) (by decide)) (by decide) rfl dX9_usedBefore_47 ?_
      refine kz_goto (pc := 50) (tgt := 3) (by decide) dX9_usedBefore_50 ?_
      refine kz_sub [2, 3, 4, 5, 0] rfl ?_
      exact h
    · replace h := h.2 y4 rfl
      refine kz_ifnull (pc := 21) (tgt := 47) rfl (by decide) dX9_usedBefore_21 (fun hn => by cases hn) (fun _ => ?_)
      refine kz_aload (pc := 24) 0 (v := .ref y4) (i := 6) rfl rfl dX9_usedBefore_24 ?_
      obtain ⟨fs5, v6, hM, hv, h⟩ := h
      refine kz_getf (pc := 26) (k := 2) kcX10 hM hv (by decide) kw_1195 dX9_usedBefore_26 ?_
      refine kz_lload_n (pc := 29) 2 (i := 1) rfl rfl dX9_usedBefore_29 ?_
      refine kz_iconst (pc := 30) (v := 0) (by decide) dX9_usedBefore_30 ?_
      refine kz_aload (pc := 31) 0 (v := .ref y4) (i := 6) rfl rfl dX9_usedBefore_31 ?_
      obtain ⟨fs7, v8, hM, hv, h⟩ := h
      refine kz_getf (pc := 33) (k := 2) kcX10 hM hv (by decide) kw_1195 dX9_usedBefore_33 ?_
      obtain ⟨⟨fs16, he⟩, h⟩ := h
      refine kz_callV (pc := 36) (μ' := mX6_size) (ci := 6) (q := (RX6, TX6, 3)) (b := v8) (d' := d + 1) (mc' := 0) (ms' := 0) (As := []) (st := [.int 0, .long x1, .ref v6]) (c := 0) (sl := 0) kmX6_size kw_912 (by omega) rfl (Nat.le_of_ble_eq_true rfl) he rfl rfl (Nat.le_refl _) (Nat.le_refl _) dX9_usedBefore_36 (fun E M9 hx => kz_Tout rfl (Nat.le_refl _) (Nat.le_refl _) hx) (kz_Cmono (fun v M9 h => ?_) (fun _ _ h => h) h)
      obtain ⟨r10, rfl, h⟩ := h
      show kz_Z G (d + 2) 0 0 mX9_usedBefore Qr Qx 39 [(6, .ref y4), (0, .ref x0), (1, .long x1), (3, .int x3), (4, .int x4), (5, .int x5)] [.int r10, .int 0, .long x1, .ref v6] M9 0 0
      obtain ⟨⟨fs15, he⟩, h⟩ := h
      refine kz_callV (pc := 39) (μ' := mX6_times) (ci := 6) (q := (RX6, TX6, 3)) (b := v6) (d' := d + 1) (mc' := 0) (ms' := 0) (As := [.long x1, .int 0, .int r10]) (st := []) (c := 0) (sl := 0) kmX6_times kw_913 (by omega) rfl (Nat.le_of_ble_eq_true rfl) he rfl rfl (Nat.le_refl _) (Nat.le_refl _) dX9_usedBefore_39 (fun E M9 hx => kz_Tout rfl (Nat.le_refl _) (Nat.le_refl _) hx) (kz_Cmono (fun v M12 h => ?_) (fun _ _ h => h) h)
      obtain ⟨r13, rfl, h⟩ := h
      show kz_Z G (d + 2) 0 0 mX9_usedBefore Qr Qx 42 [(6, .ref y4), (0, .ref x0), (1, .long x1), (3, .int x3), (4, .int x4), (5, .int x5)] [.int r13] M12 0 0
      refine kz_if_le (pc := 42) (tgt := 47) (by decide) dX9_usedBefore_42 (fun hb => ?_) (fun hb => ?_)
      · replace h := h.1 hb
        refine kz_iinc (pc := 47) 5 (i := 5) (v := x5 + 1) (ls' := [(6, .ref y4), (0, .ref x0), (1, .long x1), (3, .int x3), (4, .int x4)]) rfl (congrArg (fun z => x5 + z) (by decide)) (by decide) rfl dX9_usedBefore_47 ?_
        refine kz_goto (pc := 50) (tgt := 3) (by decide) dX9_usedBefore_50 ?_
        refine kz_sub [2, 3, 4, 5, 0] rfl ?_
        exact h
      · replace h := h.2 hb
        refine kz_iconst (pc := 45) (v := 1) (by decide) dX9_usedBefore_45 ?_
        exact kz_zret (pc := 46) (ty := .boolean) rfl (by decide) (Nat.le_refl _) (Nat.le_refl _) dX9_usedBefore_46 h
theorem dX9_finesFor_0 : decode cX9_finesFor 0 = .ok (.aload_n 0, 1) := by decide +kernel
theorem dX9_finesFor_1 : decode cX9_finesFor 1 = .ok (.iconst 3, 1) := by decide +kernel
theorem dX9_finesFor_2 : decode cX9_finesFor 2 = .ok (.invokevirtual 139, 3) := by decide +kernel
theorem dX9_finesFor_5 : decode cX9_finesFor 5 = .ok (.aload_n 1, 1) := by decide +kernel
theorem dX9_finesFor_6 : decode cX9_finesFor 6 = .ok (.iconst 2, 1) := by decide +kernel
theorem dX9_finesFor_7 : decode cX9_finesFor 7 = .ok (.invokevirtual 109, 3) := by decide +kernel
theorem dX9_finesFor_10 : decode cX9_finesFor 10 = .ok (.imul, 1) := by decide +kernel
theorem dX9_finesFor_11 : decode cX9_finesFor 11 = .ok (.ireturn, 1) := by decide +kernel
theorem rX9_finesFor_0 {G : kz_G} {d : Nat} {Qr : Option Value → kz_M → Prop} {Qx : String → kz_M → Prop} {a0 : Nat} {p1 : Nat}  {M : kz_M} (h : (∃ fs8, (M).1 a0 = some (.inl (8, fs8))) ∧ kz_C G (d + 2) 0 0 mX9_rule [.ref a0, .int 3] M (fun v M1 => ∃ r2 : Int32, v = some (.int r2) ∧ ((∃ fs7, (M1).1 p1 = some (.inl (9, fs7))) ∧ kz_C G (d + 2) 0 0 mX10_linesOf [.ref p1, .int 2] M1 (fun v M4 => ∃ r5 : Int32, v = some (.int r5) ∧ (Qr (some (.int (r2 * r5))) M4)) Qx)) Qx) : kz_C G (d + 3) 0 0 mX9_finesFor [.ref a0, .ref p1] M Qr Qx := by
  refine kz_enter (n := 1) kmX9_finesFor.1 (Nat.le_of_ble_eq_true rfl) (ls := [(0, .ref a0), (1, .ref p1)]) rfl ?_
  refine kz_aload_n (pc := 0) 0 (v := .ref a0) (i := 0) rfl rfl rfl dX9_finesFor_0 ?_
  refine kz_iconst (pc := 1) (v := 3) (by decide) dX9_finesFor_1 ?_
  obtain ⟨⟨fs8, he⟩, h⟩ := h
  refine kz_callV (pc := 2) (μ' := mX9_rule) (ci := 8) (q := (RX9, TX9, 10)) (b := a0) (d' := d + 2) (mc' := 0) (ms' := 0) (As := [.int 3]) (st := []) (c := 0) (sl := 0) kmX9_rule kw_1239 (by omega) rfl (Nat.le_of_ble_eq_true rfl) he rfl rfl (Nat.le_refl _) (Nat.le_refl _) dX9_finesFor_2 (fun E M9 hx => kz_Tout rfl (Nat.le_refl _) (Nat.le_refl _) hx) (kz_Cmono (fun v M1 h => ?_) (fun _ _ h => h) h)
  obtain ⟨r2, rfl, h⟩ := h
  show kz_Z G (d + 3) 0 0 mX9_finesFor Qr Qx 5 [(0, .ref a0), (1, .ref p1)] [.int r2] M1 0 0
  refine kz_aload_n (pc := 5) 1 (v := .ref p1) (i := 1) rfl rfl rfl dX9_finesFor_5 ?_
  refine kz_iconst (pc := 6) (v := 2) (by decide) dX9_finesFor_6 ?_
  obtain ⟨⟨fs7, he⟩, h⟩ := h
  refine kz_callV (pc := 7) (μ' := mX10_linesOf) (ci := 9) (q := (RX10, TX10, 4)) (b := p1) (d' := d + 2) (mc' := 0) (ms' := 0) (As := [.int 2]) (st := [.int r2]) (c := 0) (sl := 0) kmX10_linesOf kw_722 (by omega) rfl (Nat.le_of_ble_eq_true rfl) he rfl rfl (Nat.le_refl _) (Nat.le_refl _) dX9_finesFor_7 (fun E M9 hx => kz_Tout rfl (Nat.le_refl _) (Nat.le_refl _) hx) (kz_Cmono (fun v M4 h => ?_) (fun _ _ h => h) h)
  obtain ⟨r5, rfl, h⟩ := h
  show kz_Z G (d + 3) 0 0 mX9_finesFor Qr Qx 10 [(0, .ref a0), (1, .ref p1)] [.int r5, .int r2] M4 0 0
  refine kz_imul (pc := 10) dX9_finesFor_10 ?_
  exact kz_iret (pc := 11) rfl (Nat.le_refl _) (Nat.le_refl _) dX9_finesFor_11 h
theorem dX9_handIn_0 : decode cX9_handIn 0 = .ok (.aload_n 0, 1) := by decide +kernel
theorem dX9_handIn_1 : decode cX9_handIn 1 = .ok (.dup, 1) := by decide +kernel
theorem dX9_handIn_2 : decode cX9_handIn 2 = .ok (.getfield 55, 3) := by decide +kernel
theorem dX9_handIn_5 : decode cX9_handIn 5 = .ok (.iconst 1, 1) := by decide +kernel
theorem dX9_handIn_6 : decode cX9_handIn 6 = .ok (.iadd, 1) := by decide +kernel
theorem dX9_handIn_7 : decode cX9_handIn 7 = .ok (.putfield 55, 3) := by decide +kernel
theorem dX9_handIn_10 : decode cX9_handIn 10 = .ok (.aload_n 0, 1) := by decide +kernel
theorem dX9_handIn_11 : decode cX9_handIn 11 = .ok (.aload_n 0, 1) := by decide +kernel
theorem dX9_handIn_12 : decode cX9_handIn 12 = .ok (.getfield 55, 3) := by decide +kernel
theorem dX9_handIn_15 : decode cX9_handIn 15 = .ok (.iconst 1, 1) := by decide +kernel
theorem dX9_handIn_16 : decode cX9_handIn 16 = .ok (.isub, 1) := by decide +kernel
theorem dX9_handIn_17 : decode cX9_handIn 17 = .ok (.aload_n 1, 1) := by decide +kernel
theorem dX9_handIn_18 : decode cX9_handIn 18 = .ok (.invokevirtual 144, 3) := by decide +kernel
theorem dX9_handIn_21 : decode cX9_handIn 21 = .ok (.aload_n 0, 1) := by decide +kernel
theorem dX9_handIn_22 : decode cX9_handIn 22 = .ok (.aload_n 1, 1) := by decide +kernel
theorem dX9_handIn_23 : decode cX9_handIn 23 = .ok (.getfield 102, 3) := by decide +kernel
theorem dX9_handIn_26 : decode cX9_handIn 26 = .ok (.iconst 0, 1) := by decide +kernel
theorem dX9_handIn_27 : decode cX9_handIn 27 = .ok (.aload_n 1, 1) := by decide +kernel
theorem dX9_handIn_28 : decode cX9_handIn 28 = .ok (.invokevirtual 148, 3) := by decide +kernel
theorem dX9_handIn_31 : decode cX9_handIn 31 = .ok (.invokevirtual 151, 3) := by decide +kernel
theorem dX9_handIn_34 : decode cX9_handIn 34 = .ok (.aload_n 0, 1) := by decide +kernel
theorem dX9_handIn_35 : decode cX9_handIn 35 = .ok (.aload_n 1, 1) := by decide +kernel
theorem dX9_handIn_36 : decode cX9_handIn 36 = .ok (.getfield 102, 3) := by decide +kernel
theorem dX9_handIn_39 : decode cX9_handIn 39 = .ok (.iconst 1, 1) := by decide +kernel
theorem dX9_handIn_40 : decode cX9_handIn 40 = .ok (.aload_n 0, 1) := by decide +kernel
theorem dX9_handIn_41 : decode cX9_handIn 41 = .ok (.aload_n 1, 1) := by decide +kernel
theorem dX9_handIn_42 : decode cX9_handIn 42 = .ok (.invokevirtual 155, 3) := by decide +kernel
theorem dX9_handIn_45 : decode cX9_handIn 45 = .ok (.ineg, 1) := by decide +kernel
theorem dX9_handIn_46 : decode cX9_handIn 46 = .ok (.invokevirtual 151, 3) := by decide +kernel
theorem dX9_handIn_49 : decode cX9_handIn 49 = .ok (.aload_n 0, 1) := by decide +kernel
theorem dX9_handIn_50 : decode cX9_handIn 50 = .ok (.getfield 55, 3) := by decide +kernel
theorem dX9_handIn_53 : decode cX9_handIn 53 = .ok (.iconst 1, 1) := by decide +kernel
theorem dX9_handIn_54 : decode cX9_handIn 54 = .ok (.isub, 1) := by decide +kernel
theorem dX9_handIn_55 : decode cX9_handIn 55 = .ok (.ireturn, 1) := by decide +kernel
theorem rX9_handIn_0 {G : kz_G} {d : Nat} {Qr : Option Value → kz_M → Prop} {Qx : String → kz_M → Prop} {a0 : Nat} {p1 : Nat}  {M : kz_M} (h : ∃ fs1 v2, (M).1 a0 = some (.inl (8, fs1)) ∧ fs1[3]? = some (.int v2) ∧ (∃ fs3, (M).1 a0 = some (.inl (8, fs3)) ∧ 3 < fs3.length ∧ (∃ fs4 v5, ((kz_up M a0 (.inl (8, fs3.set 3 (.int (v2 + 1)))))).1 a0 = some (.inl (8, fs4)) ∧ fs4[3]? = some (.int v5) ∧ ((∃ fs31, ((kz_up M a0 (.inl (8, fs3.set 3 (.int (v2 + 1)))))).1 a0 = some (.inl (8, fs31))) ∧ kz_C G (d + 3) 0 0 mX9_replaceWork [.ref a0, .int (v5 - 1), .ref p1] (kz_up M a0 (.inl (8, fs3.set 3 (.int (v2 + 1))))) (fun v M6 => v = none ∧ (∃ fs9 v10, (M6).1 p1 = some (.inl (9, fs9)) ∧ fs9[0]? = some (.int v10) ∧ ((∃ fs30, (M6).1 p1 = some (.inl (9, fs30))) ∧ kz_C G (d + 3) 0 0 mX10_payOfCounting [.ref p1] M6 (fun v M11 => ∃ r12 : Int32, v = some (.int r12) ∧ ((∃ fs29, (M11).1 a0 = some (.inl (8, fs29))) ∧ kz_C G (d + 3) 0 0 mX9_book [.ref a0, .int v10, .int 0, .int r12] M11 (fun v M14 => v = none ∧ (∃ fs17 v18, (M14).1 p1 = some (.inl (9, fs17)) ∧ fs17[0]? = some (.int v18) ∧ ((∃ fs28, (M14).1 a0 = some (.inl (8, fs28))) ∧ kz_C G (d + 3) 0 0 mX9_finesFor [.ref a0, .ref p1] M14 (fun v M19 => ∃ r20 : Int32, v = some (.int r20) ∧ ((∃ fs27, (M19).1 a0 = some (.inl (8, fs27))) ∧ kz_C G (d + 3) 0 0 mX9_book [.ref a0, .int v18, .int 1, .int (-r20)] M19 (fun v M22 => v = none ∧ (∃ fs25 v26, (M22).1 a0 = some (.inl (8, fs25)) ∧ fs25[3]? = some (.int v26) ∧ (Qr (some (.int (v26 - 1))) M22))) Qx)) Qx))) Qx)) Qx))) Qx)))) : kz_C G (d + 4) 0 0 mX9_handIn [.ref a0, .ref p1] M Qr Qx := by
  refine kz_enter (n := 1) kmX9_handIn.1 (Nat.le_of_ble_eq_true rfl) (ls := [(0, .ref a0), (1, .ref p1)]) rfl ?_
  refine kz_aload_n (pc := 0) 0 (v := .ref a0) (i := 0) rfl rfl rfl dX9_handIn_0 ?_
  refine kz_dup (pc := 1) rfl dX9_handIn_1 ?_
  obtain ⟨fs1, v2, hM, hv, h⟩ := h
  refine kz_getf (pc := 2) (k := 3) kcX9 hM hv (by decide) kw_115 dX9_handIn_2 ?_
  refine kz_iconst (pc := 5) (v := 1) (by decide) dX9_handIn_5 ?_
  refine kz_iadd (pc := 6) dX9_handIn_6 ?_
  obtain ⟨fs3, hM, hlen, h⟩ := h
  refine kz_putf (pc := 7) (k := 3) kcX9 hM (by decide) hlen kw_115 rfl rfl rfl dX9_handIn_7 ?_
  refine kz_aload_n (pc := 10) 0 (v := .ref a0) (i := 0) rfl rfl rfl dX9_handIn_10 ?_
  refine kz_aload_n (pc := 11) 0 (v := .ref a0) (i := 0) rfl rfl rfl dX9_handIn_11 ?_
  obtain ⟨fs4, v5, hM, hv, h⟩ := h
  refine kz_getf (pc := 12) (k := 3) kcX9 hM hv (by decide) kw_115 dX9_handIn_12 ?_
  refine kz_iconst (pc := 15) (v := 1) (by decide) dX9_handIn_15 ?_
  refine kz_isub (pc := 16) dX9_handIn_16 ?_
  refine kz_aload_n (pc := 17) 1 (v := .ref p1) (i := 1) rfl rfl rfl dX9_handIn_17 ?_
  obtain ⟨⟨fs31, he⟩, h⟩ := h
  refine kz_callV (pc := 18) (μ' := mX9_replaceWork) (ci := 8) (q := (RX9, TX9, 10)) (b := a0) (d' := d + 3) (mc' := 0) (ms' := 0) (As := [.int (v5 - 1), .ref p1]) (st := []) (c := 0) (sl := 0) kmX9_replaceWork kw_1435 (by omega) rfl (Nat.le_of_ble_eq_true rfl) he rfl rfl (Nat.le_refl _) (Nat.le_refl _) dX9_handIn_18 (fun E M9 hx => kz_Tout rfl (Nat.le_refl _) (Nat.le_refl _) hx) (kz_Cmono (fun v M6 h => ?_) (fun _ _ h => h) h)
  obtain ⟨rfl, h⟩ := h
  show kz_Z G (d + 4) 0 0 mX9_handIn Qr Qx 21 [(0, .ref a0), (1, .ref p1)] [] M6 0 0
  refine kz_aload_n (pc := 21) 0 (v := .ref a0) (i := 0) rfl rfl rfl dX9_handIn_21 ?_
  refine kz_aload_n (pc := 22) 1 (v := .ref p1) (i := 1) rfl rfl rfl dX9_handIn_22 ?_
  obtain ⟨fs9, v10, hM, hv, h⟩ := h
  refine kz_getf (pc := 23) (k := 0) kcX10 hM hv (by decide) kw_1189 dX9_handIn_23 ?_
  refine kz_iconst (pc := 26) (v := 0) (by decide) dX9_handIn_26 ?_
  refine kz_aload_n (pc := 27) 1 (v := .ref p1) (i := 1) rfl rfl rfl dX9_handIn_27 ?_
  obtain ⟨⟨fs30, he⟩, h⟩ := h
  refine kz_callV (pc := 28) (μ' := mX10_payOfCounting) (ci := 9) (q := (RX10, TX10, 4)) (b := p1) (d' := d + 3) (mc' := 0) (ms' := 0) (As := []) (st := [.int 0, .int v10, .ref a0]) (c := 0) (sl := 0) kmX10_payOfCounting kw_1439 (by omega) rfl (Nat.le_of_ble_eq_true rfl) he rfl rfl (Nat.le_refl _) (Nat.le_refl _) dX9_handIn_28 (fun E M9 hx => kz_Tout rfl (Nat.le_refl _) (Nat.le_refl _) hx) (kz_Cmono (fun v M11 h => ?_) (fun _ _ h => h) h)
  obtain ⟨r12, rfl, h⟩ := h
  show kz_Z G (d + 4) 0 0 mX9_handIn Qr Qx 31 [(0, .ref a0), (1, .ref p1)] [.int r12, .int 0, .int v10, .ref a0] M11 0 0
  obtain ⟨⟨fs29, he⟩, h⟩ := h
  refine kz_callV (pc := 31) (μ' := mX9_book) (ci := 8) (q := (RX9, TX9, 10)) (b := a0) (d' := d + 3) (mc' := 0) (ms' := 0) (As := [.int v10, .int 0, .int r12]) (st := []) (c := 0) (sl := 0) kmX9_book kw_1440 (by omega) rfl (Nat.le_of_ble_eq_true rfl) he rfl rfl (Nat.le_refl _) (Nat.le_refl _) dX9_handIn_31 (fun E M9 hx => kz_Tout rfl (Nat.le_refl _) (Nat.le_refl _) hx) (kz_Cmono (fun v M14 h => ?_) (fun _ _ h => h) h)
  obtain ⟨rfl, h⟩ := h
  show kz_Z G (d + 4) 0 0 mX9_handIn Qr Qx 34 [(0, .ref a0), (1, .ref p1)] [] M14 0 0
  refine kz_aload_n (pc := 34) 0 (v := .ref a0) (i := 0) rfl rfl rfl dX9_handIn_34 ?_
  refine kz_aload_n (pc := 35) 1 (v := .ref p1) (i := 1) rfl rfl rfl dX9_handIn_35 ?_
  obtain ⟨fs17, v18, hM, hv, h⟩ := h
  refine kz_getf (pc := 36) (k := 0) kcX10 hM hv (by decide) kw_1189 dX9_handIn_36 ?_
  refine kz_iconst (pc := 39) (v := 1) (by decide) dX9_handIn_39 ?_
  refine kz_aload_n (pc := 40) 0 (v := .ref a0) (i := 0) rfl rfl rfl dX9_handIn_40 ?_
  refine kz_aload_n (pc := 41) 1 (v := .ref p1) (i := 1) rfl rfl rfl dX9_handIn_41 ?_
  obtain ⟨⟨fs28, he⟩, h⟩ := h
  refine kz_callV (pc := 42) (μ' := mX9_finesFor) (ci := 8) (q := (RX9, TX9, 10)) (b := a0) (d' := d + 3) (mc' := 0) (ms' := 0) (As := [.ref p1]) (st := [.int 1, .int v18, .ref a0]) (c := 0) (sl := 0) kmX9_finesFor kw_1449 (by omega) rfl (Nat.le_of_ble_eq_true rfl) he rfl rfl (Nat.le_refl _) (Nat.le_refl _) dX9_handIn_42 (fun E M9 hx => kz_Tout rfl (Nat.le_refl _) (Nat.le_refl _) hx) (kz_Cmono (fun v M19 h => ?_) (fun _ _ h => h) h)
  obtain ⟨r20, rfl, h⟩ := h
  show kz_Z G (d + 4) 0 0 mX9_handIn Qr Qx 45 [(0, .ref a0), (1, .ref p1)] [.int r20, .int 1, .int v18, .ref a0] M19 0 0
  refine kz_ineg (pc := 45) dX9_handIn_45 ?_
  obtain ⟨⟨fs27, he⟩, h⟩ := h
  refine kz_callV (pc := 46) (μ' := mX9_book) (ci := 8) (q := (RX9, TX9, 10)) (b := a0) (d' := d + 3) (mc' := 0) (ms' := 0) (As := [.int v18, .int 1, .int (-r20)]) (st := []) (c := 0) (sl := 0) kmX9_book kw_1440 (by omega) rfl (Nat.le_of_ble_eq_true rfl) he rfl rfl (Nat.le_refl _) (Nat.le_refl _) dX9_handIn_46 (fun E M9 hx => kz_Tout rfl (Nat.le_refl _) (Nat.le_refl _) hx) (kz_Cmono (fun v M22 h => ?_) (fun _ _ h => h) h)
  obtain ⟨rfl, h⟩ := h
  show kz_Z G (d + 4) 0 0 mX9_handIn Qr Qx 49 [(0, .ref a0), (1, .ref p1)] [] M22 0 0
  refine kz_aload_n (pc := 49) 0 (v := .ref a0) (i := 0) rfl rfl rfl dX9_handIn_49 ?_
  obtain ⟨fs25, v26, hM, hv, h⟩ := h
  refine kz_getf (pc := 50) (k := 3) kcX9 hM hv (by decide) kw_115 dX9_handIn_50 ?_
  refine kz_iconst (pc := 53) (v := 1) (by decide) dX9_handIn_53 ?_
  refine kz_isub (pc := 54) dX9_handIn_54 ?_
  exact kz_iret (pc := 55) rfl (Nat.le_refl _) (Nat.le_refl _) dX9_handIn_55 h
theorem dX9_replaceWork_0 : decode cX9_replaceWork 0 = .ok (.iload_n 1, 1) := by decide +kernel
theorem dX9_replaceWork_1 : decode cX9_replaceWork 1 = .ok (.ifCond .lt 27, 3) := by decide +kernel
theorem dX9_replaceWork_4 : decode cX9_replaceWork 4 = .ok (.iload_n 1, 1) := by decide +kernel
theorem dX9_replaceWork_5 : decode cX9_replaceWork 5 = .ok (.aload_n 0, 1) := by decide +kernel
theorem dX9_replaceWork_6 : decode cX9_replaceWork 6 = .ok (.getfield 55, 3) := by decide +kernel
theorem dX9_replaceWork_9 : decode cX9_replaceWork 9 = .ok (.if_icmp .ge 19, 3) := by decide +kernel
theorem dX9_replaceWork_12 : decode cX9_replaceWork 12 = .ok (.iload_n 1, 1) := by decide +kernel
theorem dX9_replaceWork_13 : decode cX9_replaceWork 13 = .ok (.aload_n 0, 1) := by decide +kernel
theorem dX9_replaceWork_14 : decode cX9_replaceWork 14 = .ok (.getfield 31, 3) := by decide +kernel
theorem dX9_replaceWork_17 : decode cX9_replaceWork 17 = .ok (.arraylength, 1) := by decide +kernel
theorem dX9_replaceWork_18 : decode cX9_replaceWork 18 = .ok (.if_icmp .ge 10, 3) := by decide +kernel
theorem dX9_replaceWork_21 : decode cX9_replaceWork 21 = .ok (.aload_n 0, 1) := by decide +kernel
theorem dX9_replaceWork_22 : decode cX9_replaceWork 22 = .ok (.getfield 31, 3) := by decide +kernel
theorem dX9_replaceWork_25 : decode cX9_replaceWork 25 = .ok (.iload_n 1, 1) := by decide +kernel
theorem dX9_replaceWork_26 : decode cX9_replaceWork 26 = .ok (.aload_n 2, 1) := by decide +kernel
theorem dX9_replaceWork_27 : decode cX9_replaceWork 27 = .ok (.aastore, 1) := by decide +kernel
theorem dX9_replaceWork_28 : decode cX9_replaceWork 28 = .ok (.return_, 1) := by decide +kernel
theorem rX9_replaceWork_0 {G : kz_G} {d : Nat} {Qr : Option Value → kz_M → Prop} {Qx : String → kz_M → Prop} {a0 : Nat} {p1 : Int32} {p2 : Nat}  {M : kz_M} (h : (p1 < 0 → Qr none M) ∧ (¬ p1 < 0 → ∃ fs1 v2, (M).1 a0 = some (.inl (8, fs1)) ∧ fs1[3]? = some (.int v2) ∧ ((v2 ≤ p1 → Qr none M) ∧ (¬ v2 ≤ p1 → ∃ fs3 v4, (M).1 a0 = some (.inl (8, fs3)) ∧ fs3[8]? = some (.ref v4) ∧ (∃ ty5 A6, (M).1 v4 = some (.inr (ty5, A6)) ∧ (((Int32.ofNat A6.1) ≤ p1 → Qr none M) ∧ (¬ (Int32.ofNat A6.1) ≤ p1 → ∃ fs7 v8, (M).1 a0 = some (.inl (8, fs7)) ∧ fs7[8]? = some (.ref v8) ∧ (∃ n9 f10 vs11, (M).1 v8 = some (.inr (.object "LineOffice$Work", n9, .inr (.inr (.inr (.inr f10))))) ∧ (M).1 p2 = some (.inl (9, vs11)) ∧ vp_in p1 n9 ∧ (Qr none (kz_up M v8 (.inr (.object "LineOffice$Work", n9, .inr (.inr (.inr (.inr (va_up f10 (p1 : Int32).toNatClampNeg (some p2))))))))))))))))) : kz_C G d 0 0 mX9_replaceWork [.ref a0, .int p1, .ref p2] M Qr Qx := by
  refine kz_enter (n := 2) kmX9_replaceWork.1 (Nat.le_of_ble_eq_true rfl) (ls := [(0, .ref a0), (1, .int p1), (2, .ref p2)]) rfl ?_
  refine kz_iload_n (pc := 0) 1 (i := 1) rfl rfl dX9_replaceWork_0 ?_
  refine kz_if_lt (pc := 1) (tgt := 28) (by decide) dX9_replaceWork_1 (fun hb => ?_) (fun hb => ?_)
  · replace h := h.1 hb
    exact kz_vret (pc := 28) rfl (Nat.le_refl _) (Nat.le_refl _) dX9_replaceWork_28 h
  · replace h := h.2 hb
    refine kz_iload_n (pc := 4) 1 (i := 1) rfl rfl dX9_replaceWork_4 ?_
    refine kz_aload_n (pc := 5) 0 (v := .ref a0) (i := 0) rfl rfl rfl dX9_replaceWork_5 ?_
    obtain ⟨fs1, v2, hM, hv, h⟩ := h
    refine kz_getf (pc := 6) (k := 3) kcX9 hM hv (by decide) kw_115 dX9_replaceWork_6 ?_
    refine kz_icmp_ge (pc := 9) (tgt := 28) (by decide) dX9_replaceWork_9 (fun hb => ?_) (fun hb => ?_)
    · replace h := h.1 hb
      exact kz_vret (pc := 28) rfl (Nat.le_refl _) (Nat.le_refl _) dX9_replaceWork_28 h
    · replace h := h.2 hb
      refine kz_iload_n (pc := 12) 1 (i := 1) rfl rfl dX9_replaceWork_12 ?_
      refine kz_aload_n (pc := 13) 0 (v := .ref a0) (i := 0) rfl rfl rfl dX9_replaceWork_13 ?_
      obtain ⟨fs3, v4, hM, hv, h⟩ := h
      refine kz_getf (pc := 14) (k := 8) kcX9 hM hv (by decide) kw_123 dX9_replaceWork_14 ?_
      obtain ⟨ty5, A6, hM, h⟩ := h
      refine kz_alen (pc := 17) hM rfl dX9_replaceWork_17 ?_
      refine kz_icmp_ge (pc := 18) (tgt := 28) (by decide) dX9_replaceWork_18 (fun hb => ?_) (fun hb => ?_)
      · replace h := h.1 hb
        exact kz_vret (pc := 28) rfl (Nat.le_refl _) (Nat.le_refl _) dX9_replaceWork_28 h
      · replace h := h.2 hb
        refine kz_aload_n (pc := 21) 0 (v := .ref a0) (i := 0) rfl rfl rfl dX9_replaceWork_21 ?_
        obtain ⟨fs7, v8, hM, hv, h⟩ := h
        refine kz_getf (pc := 22) (k := 8) kcX9 hM hv (by decide) kw_123 dX9_replaceWork_22 ?_
        refine kz_iload_n (pc := 25) 1 (i := 1) rfl rfl dX9_replaceWork_25 ?_
        refine kz_aload_n (pc := 26) 2 (v := .ref p2) (i := 2) rfl rfl rfl dX9_replaceWork_26 ?_
        obtain ⟨n9, f10, vs11, hM, hx, hi, h⟩ := h
        refine kz_aast (pc := 27) (ci := 9) (r := (RX10, TX10, 4)) rfl hM hx hi dX9_replaceWork_27 ?_
        exact kz_vret (pc := 28) rfl (Nat.le_refl _) (Nat.le_refl _) dX9_replaceWork_28 h
theorem dX9_objectionTo_0 : decode cX9_objectionTo 0 = .ok (.aload_n 2, 1) := by decide +kernel
theorem dX9_objectionTo_1 : decode cX9_objectionTo 1 = .ok (.getfield 159, 3) := by decide +kernel
theorem dX9_objectionTo_4 : decode cX9_objectionTo 4 = .ok (.iconst 1, 1) := by decide +kernel
theorem dX9_objectionTo_5 : decode cX9_objectionTo 5 = .ok (.if_icmp .eq 5, 3) := by decide +kernel
theorem dX9_objectionTo_8 : decode cX9_objectionTo 8 = .ok (.iconst 1, 1) := by decide +kernel
theorem dX9_objectionTo_9 : decode cX9_objectionTo 9 = .ok (.ireturn, 1) := by decide +kernel
theorem dX9_objectionTo_10 : decode cX9_objectionTo 10 = .ok (.aload_n 0, 1) := by decide +kernel
theorem dX9_objectionTo_11 : decode cX9_objectionTo 11 = .ok (.aload_n 1, 1) := by decide +kernel
theorem dX9_objectionTo_12 : decode cX9_objectionTo 12 = .ok (.invokevirtual 162, 3) := by decide +kernel
theorem dX9_objectionTo_15 : decode cX9_objectionTo 15 = .ok (.ifCond .eq 5, 3) := by decide +kernel
theorem dX9_objectionTo_18 : decode cX9_objectionTo 18 = .ok (.iconst 2, 1) := by decide +kernel
theorem dX9_objectionTo_19 : decode cX9_objectionTo 19 = .ok (.ireturn, 1) := by decide +kernel
theorem dX9_objectionTo_20 : decode cX9_objectionTo 20 = .ok (.aload_n 0, 1) := by decide +kernel
theorem dX9_objectionTo_21 : decode cX9_objectionTo 21 = .ok (.aload_n 1, 1) := by decide +kernel
theorem dX9_objectionTo_22 : decode cX9_objectionTo 22 = .ok (.getfield 102, 3) := by decide +kernel
theorem dX9_objectionTo_25 : decode cX9_objectionTo 25 = .ok (.invokevirtual 166, 3) := by decide +kernel
theorem dX9_objectionTo_28 : decode cX9_objectionTo 28 = .ok (.ifCond .eq 7, 3) := by decide +kernel
theorem dX9_objectionTo_31 : decode cX9_objectionTo 31 = .ok (.iconst 3, 1) := by decide +kernel
theorem dX9_objectionTo_32 : decode cX9_objectionTo 32 = .ok (.goto 4, 3) := by decide +kernel
theorem dX9_objectionTo_35 : decode cX9_objectionTo 35 = .ok (.iconst 0, 1) := by decide +kernel
theorem dX9_objectionTo_36 : decode cX9_objectionTo 36 = .ok (.ireturn, 1) := by decide +kernel
theorem rX9_objectionTo_0 {G : kz_G} {d : Nat} {Qr : Option Value → kz_M → Prop} {Qx : String → kz_M → Prop} {a0 : Nat} {p1 : Nat} {p2 : Nat}  {M : kz_M} (h : ∃ fs1 v2, (M).1 p2 = some (.inl (3, fs1)) ∧ fs1[6]? = some (.int v2) ∧ ((v2 = (1 : Int32) → (∃ fs12, (M).1 a0 = some (.inl (8, fs12))) ∧ kz_C G (d + 4) 0 0 mX9_isTooLateFor [.ref a0, .ref p1] M (fun v M3 => ∃ r4 : Int32, v = some (.int r4) ∧ ((r4 = 0 → ∃ fs6 v7, (M3).1 p1 = some (.inl (9, fs6)) ∧ fs6[0]? = some (.int v7) ∧ ((∃ fs11, (M3).1 a0 = some (.inl (8, fs11))) ∧ kz_C G (d + 4) 0 0 mX9_hasLostTooMany [.ref a0, .int v7] M3 (fun v M8 => ∃ r9 : Int32, v = some (.int r9) ∧ ((r9 = 0 → Qr (some (.int 0)) M8) ∧ (¬ r9 = 0 → Qr (some (.int 3)) M8))) Qx)) ∧ (¬ r4 = 0 → Qr (some (.int 2)) M3))) Qx) ∧ (¬ v2 = (1 : Int32) → Qr (some (.int 1)) M))) : kz_C G (d + 5) 0 0 mX9_objectionTo [.ref a0, .ref p1, .ref p2] M Qr Qx := by
  refine kz_enter (n := 2) kmX9_objectionTo.1 (Nat.le_of_ble_eq_true rfl) (ls := [(0, .ref a0), (1, .ref p1), (2, .ref p2)]) rfl ?_
  refine kz_aload_n (pc := 0) 2 (v := .ref p2) (i := 2) rfl rfl rfl dX9_objectionTo_0 ?_
  obtain ⟨fs1, v2, hM, hv, h⟩ := h
  refine kz_getf (pc := 1) (k := 6) kcX3 hM hv (by decide) kw_1171 dX9_objectionTo_1 ?_
  refine kz_iconst (pc := 4) (v := 1) (by decide) dX9_objectionTo_4 ?_
  refine kz_icmp_eq (pc := 5) (tgt := 10) (by decide) dX9_objectionTo_5 (fun hb => ?_) (fun hb => ?_)
  · replace h := h.1 hb
    refine kz_aload_n (pc := 10) 0 (v := .ref a0) (i := 0) rfl rfl rfl dX9_objectionTo_10 ?_
    refine kz_aload_n (pc := 11) 1 (v := .ref p1) (i := 1) rfl rfl rfl dX9_objectionTo_11 ?_
    obtain ⟨⟨fs12, he⟩, h⟩ := h
    refine kz_callV (pc := 12) (μ' := mX9_isTooLateFor) (ci := 8) (q := (RX9, TX9, 10)) (b := a0) (d' := d + 4) (mc' := 0) (ms' := 0) (As := [.ref p1]) (st := []) (c := 0) (sl := 0) kmX9_isTooLateFor kw_1462 (by omega) rfl (Nat.le_of_ble_eq_true rfl) he rfl rfl (Nat.le_refl _) (Nat.le_refl _) dX9_objectionTo_12 (fun E M9 hx => kz_Tout rfl (Nat.le_refl _) (Nat.le_refl _) hx) (kz_Cmono (fun v M3 h => ?_) (fun _ _ h => h) h)
    obtain ⟨r4, rfl, h⟩ := h
    show kz_Z G (d + 5) 0 0 mX9_objectionTo Qr Qx 15 [(0, .ref a0), (1, .ref p1), (2, .ref p2)] [.int r4] M3 0 0
    refine kz_if_eq (pc := 15) (tgt := 20) (by decide) dX9_objectionTo_15 (fun hb => ?_) (fun hb => ?_)
    · replace h := h.1 hb
      refine kz_aload_n (pc := 20) 0 (v := .ref a0) (i := 0) rfl rfl rfl dX9_objectionTo_20 ?_
      refine kz_aload_n (pc := 21) 1 (v := .ref p1) (i := 1) rfl rfl rfl dX9_objectionTo_21 ?_
      obtain ⟨fs6, v7, hM, hv, h⟩ := h
      refine kz_getf (pc := 22) (k := 0) kcX10 hM hv (by decide) kw_1189 dX9_objectionTo_22 ?_
      obtain ⟨⟨fs11, he⟩, h⟩ := h
      refine kz_callV (pc := 25) (μ' := mX9_hasLostTooMany) (ci := 8) (q := (RX9, TX9, 10)) (b := a0) (d' := d + 4) (mc' := 0) (ms' := 0) (As := [.int v7]) (st := []) (c := 0) (sl := 0) kmX9_hasLostTooMany kw_1466 (by omega) rfl (Nat.le_of_ble_eq_true rfl) he rfl rfl (Nat.le_refl _) (Nat.le_refl _) dX9_objectionTo_25 (fun E M9 hx => kz_Tout rfl (Nat.le_refl _) (Nat.le_refl _) hx) (kz_Cmono (fun v M8 h => ?_) (fun _ _ h => h) h)
      obtain ⟨r9, rfl, h⟩ := h
      show kz_Z G (d + 5) 0 0 mX9_objectionTo Qr Qx 28 [(0, .ref a0), (1, .ref p1), (2, .ref p2)] [.int r9] M8 0 0
      refine kz_if_eq (pc := 28) (tgt := 35) (by decide) dX9_objectionTo_28 (fun hb => ?_) (fun hb => ?_)
      · replace h := h.1 hb
        refine kz_iconst (pc := 35) (v := 0) (by decide) dX9_objectionTo_35 ?_
        exact kz_iret (pc := 36) rfl (Nat.le_refl _) (Nat.le_refl _) dX9_objectionTo_36 h
      · replace h := h.2 hb
        refine kz_iconst (pc := 31) (v := 3) (by decide) dX9_objectionTo_31 ?_
        refine kz_goto (pc := 32) (tgt := 36) (by decide) dX9_objectionTo_32 ?_
        exact kz_iret (pc := 36) rfl (Nat.le_refl _) (Nat.le_refl _) dX9_objectionTo_36 h
    · replace h := h.2 hb
      refine kz_iconst (pc := 18) (v := 2) (by decide) dX9_objectionTo_18 ?_
      exact kz_iret (pc := 19) rfl (Nat.le_refl _) (Nat.le_refl _) dX9_objectionTo_19 h
  · replace h := h.2 hb
    refine kz_iconst (pc := 8) (v := 1) (by decide) dX9_objectionTo_8 ?_
    exact kz_iret (pc := 9) rfl (Nat.le_refl _) (Nat.le_refl _) dX9_objectionTo_9 h
theorem dX9_isTooLateFor_0 : decode cX9_isTooLateFor 0 = .ok (.aload_n 0, 1) := by decide +kernel
theorem dX9_isTooLateFor_1 : decode cX9_isTooLateFor 1 = .ok (.getfield 45, 3) := by decide +kernel
theorem dX9_isTooLateFor_4 : decode cX9_isTooLateFor 4 = .ok (.aload_n 1, 1) := by decide +kernel
theorem dX9_isTooLateFor_5 : decode cX9_isTooLateFor 5 = .ok (.getfield 170, 3) := by decide +kernel
theorem dX9_isTooLateFor_8 : decode cX9_isTooLateFor 8 = .ok (.aload_n 0, 1) := by decide +kernel
theorem dX9_isTooLateFor_9 : decode cX9_isTooLateFor 9 = .ok (.iconst 4, 1) := by decide +kernel
theorem dX9_isTooLateFor_10 : decode cX9_isTooLateFor 10 = .ok (.invokevirtual 139, 3) := by decide +kernel
theorem dX9_isTooLateFor_13 : decode cX9_isTooLateFor 13 = .ok (.iadd, 1) := by decide +kernel
theorem dX9_isTooLateFor_14 : decode cX9_isTooLateFor 14 = .ok (.if_icmp .le 7, 3) := by decide +kernel
theorem dX9_isTooLateFor_17 : decode cX9_isTooLateFor 17 = .ok (.iconst 1, 1) := by decide +kernel
theorem dX9_isTooLateFor_18 : decode cX9_isTooLateFor 18 = .ok (.goto 4, 3) := by decide +kernel
theorem dX9_isTooLateFor_21 : decode cX9_isTooLateFor 21 = .ok (.iconst 0, 1) := by decide +kernel
theorem dX9_isTooLateFor_22 : decode cX9_isTooLateFor 22 = .ok (.ireturn, 1) := by decide +kernel
theorem rX9_isTooLateFor_0 {G : kz_G} {d : Nat} {Qr : Option Value → kz_M → Prop} {Qx : String → kz_M → Prop} {a0 : Nat} {p1 : Nat}  {M : kz_M} (h : ∃ fs1 v2, (M).1 a0 = some (.inl (8, fs1)) ∧ fs1[0]? = some (.int v2) ∧ (∃ fs3 v4, (M).1 p1 = some (.inl (9, fs3)) ∧ fs3[1]? = some (.int v4) ∧ ((∃ fs8, (M).1 a0 = some (.inl (8, fs8))) ∧ kz_C G (d + 1) 0 0 mX9_rule [.ref a0, .int 4] M (fun v M5 => ∃ r6 : Int32, v = some (.int r6) ∧ ((v2 ≤ (v4 + r6) → Qr (some (.int 0)) M5) ∧ (¬ v2 ≤ (v4 + r6) → Qr (some (.int 1)) M5))) Qx))) : kz_C G (d + 2) 0 0 mX9_isTooLateFor [.ref a0, .ref p1] M Qr Qx := by
  refine kz_enter (n := 1) kmX9_isTooLateFor.1 (Nat.le_of_ble_eq_true rfl) (ls := [(0, .ref a0), (1, .ref p1)]) rfl ?_
  refine kz_aload_n (pc := 0) 0 (v := .ref a0) (i := 0) rfl rfl rfl dX9_isTooLateFor_0 ?_
  obtain ⟨fs1, v2, hM, hv, h⟩ := h
  refine kz_getf (pc := 1) (k := 0) kcX9 hM hv (by decide) kw_107 dX9_isTooLateFor_1 ?_
  refine kz_aload_n (pc := 4) 1 (v := .ref p1) (i := 1) rfl rfl rfl dX9_isTooLateFor_4 ?_
  obtain ⟨fs3, v4, hM, hv, h⟩ := h
  refine kz_getf (pc := 5) (k := 1) kcX10 hM hv (by decide) kw_1192 dX9_isTooLateFor_5 ?_
  refine kz_aload_n (pc := 8) 0 (v := .ref a0) (i := 0) rfl rfl rfl dX9_isTooLateFor_8 ?_
  refine kz_iconst (pc := 9) (v := 4) (by decide) dX9_isTooLateFor_9 ?_
  obtain ⟨⟨fs8, he⟩, h⟩ := h
  refine kz_callV (pc := 10) (μ' := mX9_rule) (ci := 8) (q := (RX9, TX9, 10)) (b := a0) (d' := d + 1) (mc' := 0) (ms' := 0) (As := [.int 4]) (st := [.int v4, .int v2]) (c := 0) (sl := 0) kmX9_rule kw_1239 (by omega) rfl (Nat.le_of_ble_eq_true rfl) he rfl rfl (Nat.le_refl _) (Nat.le_refl _) dX9_isTooLateFor_10 (fun E M9 hx => kz_Tout rfl (Nat.le_refl _) (Nat.le_refl _) hx) (kz_Cmono (fun v M5 h => ?_) (fun _ _ h => h) h)
  obtain ⟨r6, rfl, h⟩ := h
  show kz_Z G (d + 2) 0 0 mX9_isTooLateFor Qr Qx 13 [(0, .ref a0), (1, .ref p1)] [.int r6, .int v4, .int v2] M5 0 0
  refine kz_iadd (pc := 13) dX9_isTooLateFor_13 ?_
  refine kz_icmp_le (pc := 14) (tgt := 21) (by decide) dX9_isTooLateFor_14 (fun hb => ?_) (fun hb => ?_)
  · replace h := h.1 hb
    refine kz_iconst (pc := 21) (v := 0) (by decide) dX9_isTooLateFor_21 ?_
    exact kz_zret (pc := 22) (ty := .boolean) rfl (by decide) (Nat.le_refl _) (Nat.le_refl _) dX9_isTooLateFor_22 h
  · replace h := h.2 hb
    refine kz_iconst (pc := 17) (v := 1) (by decide) dX9_isTooLateFor_17 ?_
    refine kz_goto (pc := 18) (tgt := 22) (by decide) dX9_isTooLateFor_18 ?_
    exact kz_zret (pc := 22) (ty := .boolean) rfl (by decide) (Nat.le_refl _) (Nat.le_refl _) dX9_isTooLateFor_22 h
theorem dX9_hasLostTooMany_0 : decode cX9_hasLostTooMany 0 = .ok (.aload_n 0, 1) := by decide +kernel
theorem dX9_hasLostTooMany_1 : decode cX9_hasLostTooMany 1 = .ok (.iload_n 1, 1) := by decide +kernel
theorem dX9_hasLostTooMany_2 : decode cX9_hasLostTooMany 2 = .ok (.iconst 4, 1) := by decide +kernel
theorem dX9_hasLostTooMany_3 : decode cX9_hasLostTooMany 3 = .ok (.invokevirtual 171, 3) := by decide +kernel
theorem dX9_hasLostTooMany_6 : decode cX9_hasLostTooMany 6 = .ok (.iconst 3, 1) := by decide +kernel
theorem dX9_hasLostTooMany_7 : decode cX9_hasLostTooMany 7 = .ok (.if_icmp .lt 7, 3) := by decide +kernel
theorem dX9_hasLostTooMany_10 : decode cX9_hasLostTooMany 10 = .ok (.iconst 1, 1) := by decide +kernel
theorem dX9_hasLostTooMany_11 : decode cX9_hasLostTooMany 11 = .ok (.goto 4, 3) := by decide +kernel
theorem dX9_hasLostTooMany_14 : decode cX9_hasLostTooMany 14 = .ok (.iconst 0, 1) := by decide +kernel
theorem dX9_hasLostTooMany_15 : decode cX9_hasLostTooMany 15 = .ok (.ireturn, 1) := by decide +kernel
theorem rX9_hasLostTooMany_0 {G : kz_G} {d : Nat} {Qr : Option Value → kz_M → Prop} {Qx : String → kz_M → Prop} {a0 : Nat} {p1 : Int32}  {M : kz_M} (h : (∃ fs4, (M).1 a0 = some (.inl (8, fs4))) ∧ kz_C G (d + 3) 0 0 mX9_linesOf [.ref a0, .int p1, .int 4] M (fun v M1 => ∃ r2 : Int32, v = some (.int r2) ∧ ((r2 < (3 : Int32) → Qr (some (.int 0)) M1) ∧ (¬ r2 < (3 : Int32) → Qr (some (.int 1)) M1))) Qx) : kz_C G (d + 4) 0 0 mX9_hasLostTooMany [.ref a0, .int p1] M Qr Qx := by
  refine kz_enter (n := 1) kmX9_hasLostTooMany.1 (Nat.le_of_ble_eq_true rfl) (ls := [(0, .ref a0), (1, .int p1)]) rfl ?_
  refine kz_aload_n (pc := 0) 0 (v := .ref a0) (i := 0) rfl rfl rfl dX9_hasLostTooMany_0 ?_
  refine kz_iload_n (pc := 1) 1 (i := 1) rfl rfl dX9_hasLostTooMany_1 ?_
  refine kz_iconst (pc := 2) (v := 4) (by decide) dX9_hasLostTooMany_2 ?_
  obtain ⟨⟨fs4, he⟩, h⟩ := h
  refine kz_callV (pc := 3) (μ' := mX9_linesOf) (ci := 8) (q := (RX9, TX9, 10)) (b := a0) (d' := d + 3) (mc' := 0) (ms' := 0) (As := [.int p1, .int 4]) (st := []) (c := 0) (sl := 0) kmX9_linesOf kw_1470 (by omega) rfl (Nat.le_of_ble_eq_true rfl) he rfl rfl (Nat.le_refl _) (Nat.le_refl _) dX9_hasLostTooMany_3 (fun E M9 hx => kz_Tout rfl (Nat.le_refl _) (Nat.le_refl _) hx) (kz_Cmono (fun v M1 h => ?_) (fun _ _ h => h) h)
  obtain ⟨r2, rfl, h⟩ := h
  show kz_Z G (d + 4) 0 0 mX9_hasLostTooMany Qr Qx 6 [(0, .ref a0), (1, .int p1)] [.int r2] M1 0 0
  refine kz_iconst (pc := 6) (v := 3) (by decide) dX9_hasLostTooMany_6 ?_
  refine kz_icmp_lt (pc := 7) (tgt := 14) (by decide) dX9_hasLostTooMany_7 (fun hb => ?_) (fun hb => ?_)
  · replace h := h.1 hb
    refine kz_iconst (pc := 14) (v := 0) (by decide) dX9_hasLostTooMany_14 ?_
    exact kz_zret (pc := 15) (ty := .boolean) rfl (by decide) (Nat.le_refl _) (Nat.le_refl _) dX9_hasLostTooMany_15 h
  · replace h := h.2 hb
    refine kz_iconst (pc := 10) (v := 1) (by decide) dX9_hasLostTooMany_10 ?_
    refine kz_goto (pc := 11) (tgt := 15) (by decide) dX9_hasLostTooMany_11 ?_
    exact kz_zret (pc := 15) (ty := .boolean) rfl (by decide) (Nat.le_refl _) (Nat.le_refl _) dX9_hasLostTooMany_15 h
theorem dX9_book_0 : decode cX9_book 0 = .ok (.iload_n 3, 1) := by decide +kernel
theorem dX9_book_1 : decode cX9_book 1 = .ok (.ifCond .eq 32, 3) := by decide +kernel
theorem dX9_book_4 : decode cX9_book 4 = .ok (.aload_n 0, 1) := by decide +kernel
theorem dX9_book_5 : decode cX9_book 5 = .ok (.getfield 23, 3) := by decide +kernel
theorem dX9_book_8 : decode cX9_book 8 = .ok (.iload_n 1, 1) := by decide +kernel
theorem dX9_book_9 : decode cX9_book 9 = .ok (.aload_n 0, 1) := by decide +kernel
theorem dX9_book_10 : decode cX9_book 10 = .ok (.iload_n 1, 1) := by decide +kernel
theorem dX9_book_11 : decode cX9_book 11 = .ok (.invokevirtual 88, 3) := by decide +kernel
theorem dX9_book_14 : decode cX9_book 14 = .ok (.iload_n 3, 1) := by decide +kernel
theorem dX9_book_15 : decode cX9_book 15 = .ok (.iadd, 1) := by decide +kernel
theorem dX9_book_16 : decode cX9_book 16 = .ok (.invokestatic 66, 3) := by decide +kernel
theorem dX9_book_19 : decode cX9_book 19 = .ok (.aload_n 0, 1) := by decide +kernel
theorem dX9_book_20 : decode cX9_book 20 = .ok (.getfield 38, 3) := by decide +kernel
theorem dX9_book_23 : decode cX9_book 23 = .ok (.aload_n 0, 1) := by decide +kernel
theorem dX9_book_24 : decode cX9_book 24 = .ok (.getfield 45, 3) := by decide +kernel
theorem dX9_book_27 : decode cX9_book 27 = .ok (.iload_n 1, 1) := by decide +kernel
theorem dX9_book_28 : decode cX9_book 28 = .ok (.iload_n 2, 1) := by decide +kernel
theorem dX9_book_29 : decode cX9_book 29 = .ok (.iload_n 3, 1) := by decide +kernel
theorem dX9_book_30 : decode cX9_book 30 = .ok (.invokevirtual 173, 3) := by decide +kernel
theorem dX9_book_33 : decode cX9_book 33 = .ok (.return_, 1) := by decide +kernel
theorem rX9_book_0 {G : kz_G} {d : Nat} {Qr : Option Value → kz_M → Prop} {Qx : String → kz_M → Prop} {a0 : Nat} {p1 : Int32} {p2 : Int32} {p3 : Int32}  {M : kz_M} (h : (p3 = 0 → Qr none M) ∧ (¬ p3 = 0 → ∃ fs1 v2, (M).1 a0 = some (.inl (8, fs1)) ∧ fs1[6]? = some (.ref v2) ∧ ((∃ fs18, (M).1 a0 = some (.inl (8, fs18))) ∧ kz_C G (d + 1) 0 0 mX9_balanceOf [.ref a0, .int p1] M (fun v M3 => ∃ r4 : Int32, v = some (.int r4) ∧ (kz_C G (d + 1) 0 0 mX11_put [.ref v2, .int p1, .int (r4 + p3)] M3 (fun v M6 => v = none ∧ (∃ fs9 v10, (M6).1 a0 = some (.inl (8, fs9)) ∧ fs9[9]? = some (.ref v10) ∧ (∃ fs11 v12, (M6).1 a0 = some (.inl (8, fs11)) ∧ fs11[0]? = some (.int v12) ∧ ((∃ fs16, (M6).1 v10 = some (.inl (2, fs16))) ∧ kz_C G (d + 1) 0 0 mX2_add [.ref v10, .int v12, .int p1, .int p2, .int p3] M6 (fun v M13 => v = none ∧ (Qr none M13)) Qx)))) Qx)) Qx))) : kz_C G (d + 2) 0 0 mX9_book [.ref a0, .int p1, .int p2, .int p3] M Qr Qx := by
  refine kz_enter (n := 3) kmX9_book.1 (Nat.le_of_ble_eq_true rfl) (ls := [(0, .ref a0), (1, .int p1), (2, .int p2), (3, .int p3)]) rfl ?_
  refine kz_iload_n (pc := 0) 3 (i := 3) rfl rfl dX9_book_0 ?_
  refine kz_if_eq (pc := 1) (tgt := 33) (by decide) dX9_book_1 (fun hb => ?_) (fun hb => ?_)
  · replace h := h.1 hb
    exact kz_vret (pc := 33) rfl (Nat.le_refl _) (Nat.le_refl _) dX9_book_33 h
  · replace h := h.2 hb
    refine kz_aload_n (pc := 4) 0 (v := .ref a0) (i := 0) rfl rfl rfl dX9_book_4 ?_
    obtain ⟨fs1, v2, hM, hv, h⟩ := h
    refine kz_getf (pc := 5) (k := 6) kcX9 hM hv (by decide) kw_121 dX9_book_5 ?_
    refine kz_iload_n (pc := 8) 1 (i := 1) rfl rfl dX9_book_8 ?_
    refine kz_aload_n (pc := 9) 0 (v := .ref a0) (i := 0) rfl rfl rfl dX9_book_9 ?_
    refine kz_iload_n (pc := 10) 1 (i := 1) rfl rfl dX9_book_10 ?_
    obtain ⟨⟨fs18, he⟩, h⟩ := h
    refine kz_callV (pc := 11) (μ' := mX9_balanceOf) (ci := 8) (q := (RX9, TX9, 10)) (b := a0) (d' := d + 1) (mc' := 0) (ms' := 0) (As := [.int p1]) (st := [.int p1, .ref v2]) (c := 0) (sl := 0) kmX9_balanceOf kw_738 (by omega) rfl (Nat.le_of_ble_eq_true rfl) he rfl rfl (Nat.le_refl _) (Nat.le_refl _) dX9_book_11 (fun E M9 hx => kz_Tout rfl (Nat.le_refl _) (Nat.le_refl _) hx) (kz_Cmono (fun v M3 h => ?_) (fun _ _ h => h) h)
    obtain ⟨r4, rfl, h⟩ := h
    show kz_Z G (d + 2) 0 0 mX9_book Qr Qx 14 [(0, .ref a0), (1, .int p1), (2, .int p2), (3, .int p3)] [.int r4, .int p1, .ref v2] M3 0 0
    refine kz_iload_n (pc := 14) 3 (i := 3) rfl rfl dX9_book_14 ?_
    refine kz_iadd (pc := 15) dX9_book_15 ?_
    refine kz_callSN (pc := 16) (μ' := mX11_put) (d' := d + 1) (mc' := 0) (ms' := 0) (As := [.ref v2, .int p1, .int (r4 + p3)]) (st := []) (c := 0) (sl := 0) kmX11_put kw_104 (by omega) rfl (Nat.le_of_ble_eq_true rfl) (Nat.le_refl _) (Nat.le_refl _) dX9_book_16 (fun E M9 hx => kz_Tout rfl (Nat.le_refl _) (Nat.le_refl _) hx) (kz_Cmono (fun v M6 h => ?_) (fun _ _ h => h) h)
    obtain ⟨rfl, h⟩ := h
    show kz_Z G (d + 2) 0 0 mX9_book Qr Qx 19 [(0, .ref a0), (1, .int p1), (2, .int p2), (3, .int p3)] [] M6 0 0
    refine kz_aload_n (pc := 19) 0 (v := .ref a0) (i := 0) rfl rfl rfl dX9_book_19 ?_
    obtain ⟨fs9, v10, hM, hv, h⟩ := h
    refine kz_getf (pc := 20) (k := 9) kcX9 hM hv (by decide) kw_124 dX9_book_20 ?_
    refine kz_aload_n (pc := 23) 0 (v := .ref a0) (i := 0) rfl rfl rfl dX9_book_23 ?_
    obtain ⟨fs11, v12, hM, hv, h⟩ := h
    refine kz_getf (pc := 24) (k := 0) kcX9 hM hv (by decide) kw_107 dX9_book_24 ?_
    refine kz_iload_n (pc := 27) 1 (i := 1) rfl rfl dX9_book_27 ?_
    refine kz_iload_n (pc := 28) 2 (i := 2) rfl rfl dX9_book_28 ?_
    refine kz_iload_n (pc := 29) 3 (i := 3) rfl rfl dX9_book_29 ?_
    obtain ⟨⟨fs16, he⟩, h⟩ := h
    refine kz_callV (pc := 30) (μ' := mX2_add) (ci := 2) (q := (RX2, TX2, 2)) (b := v10) (d' := d + 1) (mc' := 0) (ms' := 0) (As := [.int v12, .int p1, .int p2, .int p3]) (st := []) (c := 0) (sl := 0) kmX2_add kw_1444 (by omega) rfl (Nat.le_of_ble_eq_true rfl) he rfl rfl (Nat.le_refl _) (Nat.le_refl _) dX9_book_30 (fun E M9 hx => kz_Tout rfl (Nat.le_refl _) (Nat.le_refl _) hx) (kz_Cmono (fun v M13 h => ?_) (fun _ _ h => h) h)
    obtain ⟨rfl, h⟩ := h
    show kz_Z G (d + 2) 0 0 mX9_book Qr Qx 33 [(0, .ref a0), (1, .int p1), (2, .int p2), (3, .int p3)] [] M13 0 0
    exact kz_vret (pc := 33) rfl (Nat.le_refl _) (Nat.le_refl _) dX9_book_33 h
theorem dX9_handOver_0 : decode cX9_handOver 0 = .ok (.aload_n 0, 1) := by decide +kernel
theorem dX9_handOver_1 : decode cX9_handOver 1 = .ok (.dup, 1) := by decide +kernel
theorem dX9_handOver_2 : decode cX9_handOver 2 = .ok (.getfield 49, 3) := by decide +kernel
theorem dX9_handOver_5 : decode cX9_handOver 5 = .ok (.iload_n 3, 1) := by decide +kernel
theorem dX9_handOver_6 : decode cX9_handOver 6 = .ok (.isub, 1) := by decide +kernel
theorem dX9_handOver_7 : decode cX9_handOver 7 = .ok (.putfield 49, 3) := by decide +kernel
theorem dX9_handOver_10 : decode cX9_handOver 10 = .ok (.aload_n 0, 1) := by decide +kernel
theorem dX9_handOver_11 : decode cX9_handOver 11 = .ok (.getfield 26, 3) := by decide +kernel
theorem dX9_handOver_14 : decode cX9_handOver 14 = .ok (.iload_n 1, 1) := by decide +kernel
theorem dX9_handOver_15 : decode cX9_handOver 15 = .ok (.aload_n 0, 1) := by decide +kernel
theorem dX9_handOver_16 : decode cX9_handOver 16 = .ok (.iload_n 1, 1) := by decide +kernel
theorem dX9_handOver_17 : decode cX9_handOver 17 = .ok (.invokevirtual 177, 3) := by decide +kernel
theorem dX9_handOver_20 : decode cX9_handOver 20 = .ok (.iload_n 3, 1) := by decide +kernel
theorem dX9_handOver_21 : decode cX9_handOver 21 = .ok (.iadd, 1) := by decide +kernel
theorem dX9_handOver_22 : decode cX9_handOver 22 = .ok (.invokestatic 66, 3) := by decide +kernel
theorem dX9_handOver_25 : decode cX9_handOver 25 = .ok (.aload_n 0, 1) := by decide +kernel
theorem dX9_handOver_26 : decode cX9_handOver 26 = .ok (.iload_n 1, 1) := by decide +kernel
theorem dX9_handOver_27 : decode cX9_handOver 27 = .ok (.iload_n 2, 1) := by decide +kernel
theorem dX9_handOver_28 : decode cX9_handOver 28 = .ok (.iload_n 3, 1) := by decide +kernel
theorem dX9_handOver_29 : decode cX9_handOver 29 = .ok (.ineg, 1) := by decide +kernel
theorem dX9_handOver_30 : decode cX9_handOver 30 = .ok (.invokevirtual 151, 3) := by decide +kernel
theorem dX9_handOver_33 : decode cX9_handOver 33 = .ok (.return_, 1) := by decide +kernel
theorem rX9_handOver_0 {G : kz_G} {d : Nat} {Qr : Option Value → kz_M → Prop} {Qx : String → kz_M → Prop} {a0 : Nat} {p1 : Int32} {p2 : Int32} {p3 : Int32}  {M : kz_M} (h : ∃ fs1 v2, (M).1 a0 = some (.inl (8, fs1)) ∧ fs1[1]? = some (.int v2) ∧ (∃ fs3, (M).1 a0 = some (.inl (8, fs3)) ∧ 1 < fs3.length ∧ (∃ fs4 v5, ((kz_up M a0 (.inl (8, fs3.set 1 (.int (v2 - p3)))))).1 a0 = some (.inl (8, fs4)) ∧ fs4[7]? = some (.ref v5) ∧ ((∃ fs17, ((kz_up M a0 (.inl (8, fs3.set 1 (.int (v2 - p3)))))).1 a0 = some (.inl (8, fs17))) ∧ kz_C G (d + 2) 0 0 mX9_paidTo [.ref a0, .int p1] (kz_up M a0 (.inl (8, fs3.set 1 (.int (v2 - p3))))) (fun v M6 => ∃ r7 : Int32, v = some (.int r7) ∧ (kz_C G (d + 2) 0 0 mX11_put [.ref v5, .int p1, .int (r7 + p3)] M6 (fun v M9 => v = none ∧ ((∃ fs15, (M9).1 a0 = some (.inl (8, fs15))) ∧ kz_C G (d + 2) 0 0 mX9_book [.ref a0, .int p1, .int p2, .int (-p3)] M9 (fun v M12 => v = none ∧ (Qr none M12)) Qx)) Qx)) Qx)))) : kz_C G (d + 3) 0 0 mX9_handOver [.ref a0, .int p1, .int p2, .int p3] M Qr Qx := by
  refine kz_enter (n := 3) kmX9_handOver.1 (Nat.le_of_ble_eq_true rfl) (ls := [(0, .ref a0), (1, .int p1), (2, .int p2), (3, .int p3)]) rfl ?_
  refine kz_aload_n (pc := 0) 0 (v := .ref a0) (i := 0) rfl rfl rfl dX9_handOver_0 ?_
  refine kz_dup (pc := 1) rfl dX9_handOver_1 ?_
  obtain ⟨fs1, v2, hM, hv, h⟩ := h
  refine kz_getf (pc := 2) (k := 1) kcX9 hM hv (by decide) kw_109 dX9_handOver_2 ?_
  refine kz_iload_n (pc := 5) 3 (i := 3) rfl rfl dX9_handOver_5 ?_
  refine kz_isub (pc := 6) dX9_handOver_6 ?_
  obtain ⟨fs3, hM, hlen, h⟩ := h
  refine kz_putf (pc := 7) (k := 1) kcX9 hM (by decide) hlen kw_109 rfl rfl rfl dX9_handOver_7 ?_
  refine kz_aload_n (pc := 10) 0 (v := .ref a0) (i := 0) rfl rfl rfl dX9_handOver_10 ?_
  obtain ⟨fs4, v5, hM, hv, h⟩ := h
  refine kz_getf (pc := 11) (k := 7) kcX9 hM hv (by decide) kw_122 dX9_handOver_11 ?_
  refine kz_iload_n (pc := 14) 1 (i := 1) rfl rfl dX9_handOver_14 ?_
  refine kz_aload_n (pc := 15) 0 (v := .ref a0) (i := 0) rfl rfl rfl dX9_handOver_15 ?_
  refine kz_iload_n (pc := 16) 1 (i := 1) rfl rfl dX9_handOver_16 ?_
  obtain ⟨⟨fs17, he⟩, h⟩ := h
  refine kz_callV (pc := 17) (μ' := mX9_paidTo) (ci := 8) (q := (RX9, TX9, 10)) (b := a0) (d' := d + 2) (mc' := 0) (ms' := 0) (As := [.int p1]) (st := [.int p1, .ref v5]) (c := 0) (sl := 0) kmX9_paidTo kw_1507 (by omega) rfl (Nat.le_of_ble_eq_true rfl) he rfl rfl (Nat.le_refl _) (Nat.le_refl _) dX9_handOver_17 (fun E M9 hx => kz_Tout rfl (Nat.le_refl _) (Nat.le_refl _) hx) (kz_Cmono (fun v M6 h => ?_) (fun _ _ h => h) h)
  obtain ⟨r7, rfl, h⟩ := h
  show kz_Z G (d + 3) 0 0 mX9_handOver Qr Qx 20 [(0, .ref a0), (1, .int p1), (2, .int p2), (3, .int p3)] [.int r7, .int p1, .ref v5] M6 0 0
  refine kz_iload_n (pc := 20) 3 (i := 3) rfl rfl dX9_handOver_20 ?_
  refine kz_iadd (pc := 21) dX9_handOver_21 ?_
  refine kz_callSN (pc := 22) (μ' := mX11_put) (d' := d + 2) (mc' := 0) (ms' := 0) (As := [.ref v5, .int p1, .int (r7 + p3)]) (st := []) (c := 0) (sl := 0) kmX11_put kw_104 (by omega) rfl (Nat.le_of_ble_eq_true rfl) (Nat.le_refl _) (Nat.le_refl _) dX9_handOver_22 (fun E M9 hx => kz_Tout rfl (Nat.le_refl _) (Nat.le_refl _) hx) (kz_Cmono (fun v M9 h => ?_) (fun _ _ h => h) h)
  obtain ⟨rfl, h⟩ := h
  show kz_Z G (d + 3) 0 0 mX9_handOver Qr Qx 25 [(0, .ref a0), (1, .int p1), (2, .int p2), (3, .int p3)] [] M9 0 0
  refine kz_aload_n (pc := 25) 0 (v := .ref a0) (i := 0) rfl rfl rfl dX9_handOver_25 ?_
  refine kz_iload_n (pc := 26) 1 (i := 1) rfl rfl dX9_handOver_26 ?_
  refine kz_iload_n (pc := 27) 2 (i := 2) rfl rfl dX9_handOver_27 ?_
  refine kz_iload_n (pc := 28) 3 (i := 3) rfl rfl dX9_handOver_28 ?_
  refine kz_ineg (pc := 29) dX9_handOver_29 ?_
  obtain ⟨⟨fs15, he⟩, h⟩ := h
  refine kz_callV (pc := 30) (μ' := mX9_book) (ci := 8) (q := (RX9, TX9, 10)) (b := a0) (d' := d + 2) (mc' := 0) (ms' := 0) (As := [.int p1, .int p2, .int (-p3)]) (st := []) (c := 0) (sl := 0) kmX9_book kw_1440 (by omega) rfl (Nat.le_of_ble_eq_true rfl) he rfl rfl (Nat.le_refl _) (Nat.le_refl _) dX9_handOver_30 (fun E M9 hx => kz_Tout rfl (Nat.le_refl _) (Nat.le_refl _) hx) (kz_Cmono (fun v M12 h => ?_) (fun _ _ h => h) h)
  obtain ⟨rfl, h⟩ := h
  show kz_Z G (d + 3) 0 0 mX9_handOver Qr Qx 33 [(0, .ref a0), (1, .int p1), (2, .int p2), (3, .int p3)] [] M12 0 0
  exact kz_vret (pc := 33) rfl (Nat.le_refl _) (Nat.le_refl _) dX9_handOver_33 h
