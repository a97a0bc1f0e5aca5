/-! The rules of 45.roffice1: printed by program (wip/whole/rules.py) -/
theorem dX11_init_0 : decode cX11_init 0 = .ok (.aload_n 0, 1) := by decide +kernel
theorem dX11_init_1 : decode cX11_init 1 = .ok (.invokespecial 1, 3) := by decide +kernel
theorem dX11_init_4 : decode cX11_init 4 = .ok (.aload_n 0, 1) := by decide +kernel
theorem dX11_init_5 : decode cX11_init 5 = .ok (.new 7, 3) := by decide +kernel
theorem dX11_init_8 : decode cX11_init 8 = .ok (.dup, 1) := by decide +kernel
theorem dX11_init_9 : decode cX11_init 9 = .ok (.invokespecial 9, 3) := by decide +kernel
theorem dX11_init_12 : decode cX11_init 12 = .ok (.putfield 10, 3) := by decide +kernel
theorem dX11_init_15 : decode cX11_init 15 = .ok (.aload_n 0, 1) := by decide +kernel
theorem dX11_init_16 : decode cX11_init 16 = .ok (.new 16, 3) := by decide +kernel
theorem dX11_init_19 : decode cX11_init 19 = .ok (.dup, 1) := by decide +kernel
theorem dX11_init_20 : decode cX11_init 20 = .ok (.invokespecial 18, 3) := by decide +kernel
theorem dX11_init_23 : decode cX11_init 23 = .ok (.putfield 19, 3) := by decide +kernel
theorem dX11_init_26 : decode cX11_init 26 = .ok (.aload_n 0, 1) := by decide +kernel
theorem dX11_init_27 : decode cX11_init 27 = .ok (.new 23, 3) := by decide +kernel
theorem dX11_init_30 : decode cX11_init 30 = .ok (.dup, 1) := by decide +kernel
theorem dX11_init_31 : decode cX11_init 31 = .ok (.invokespecial 25, 3) := by decide +kernel
theorem dX11_init_34 : decode cX11_init 34 = .ok (.putfield 26, 3) := by decide +kernel
theorem dX11_init_37 : decode cX11_init 37 = .ok (.aload_n 0, 1) := by decide +kernel
theorem dX11_init_38 : decode cX11_init 38 = .ok (.new 23, 3) := by decide +kernel
theorem dX11_init_41 : decode cX11_init 41 = .ok (.dup, 1) := by decide +kernel
theorem dX11_init_42 : decode cX11_init 42 = .ok (.invokespecial 25, 3) := by decide +kernel
theorem dX11_init_45 : decode cX11_init 45 = .ok (.putfield 30, 3) := by decide +kernel
theorem dX11_init_48 : decode cX11_init 48 = .ok (.aload_n 0, 1) := by decide +kernel
theorem dX11_init_49 : decode cX11_init 49 = .ok (.new 33, 3) := by decide +kernel
theorem dX11_init_52 : decode cX11_init 52 = .ok (.dup, 1) := by decide +kernel
theorem dX11_init_53 : decode cX11_init 53 = .ok (.invokespecial 35, 3) := by decide +kernel
theorem dX11_init_56 : decode cX11_init 56 = .ok (.putfield 36, 3) := by decide +kernel
theorem dX11_init_59 : decode cX11_init 59 = .ok (.aload_n 0, 1) := by decide +kernel
theorem dX11_init_60 : decode cX11_init 60 = .ok (.new 40, 3) := by decide +kernel
theorem dX11_init_63 : decode cX11_init 63 = .ok (.dup, 1) := by decide +kernel
theorem dX11_init_64 : decode cX11_init 64 = .ok (.invokespecial 42, 3) := by decide +kernel
theorem dX11_init_67 : decode cX11_init 67 = .ok (.putfield 43, 3) := by decide +kernel
theorem dX11_init_70 : decode cX11_init 70 = .ok (.aload_n 0, 1) := by decide +kernel
theorem dX11_init_71 : decode cX11_init 71 = .ok (.new 47, 3) := by decide +kernel
theorem dX11_init_74 : decode cX11_init 74 = .ok (.dup, 1) := by decide +kernel
theorem dX11_init_75 : decode cX11_init 75 = .ok (.invokespecial 49, 3) := by decide +kernel
theorem dX11_init_78 : decode cX11_init 78 = .ok (.putfield 50, 3) := by decide +kernel
theorem dX11_init_81 : decode cX11_init 81 = .ok (.aload_n 0, 1) := by decide +kernel
theorem dX11_init_82 : decode cX11_init 82 = .ok (.iconst 0, 1) := by decide +kernel
theorem dX11_init_83 : decode cX11_init 83 = .ok (.putfield 54, 3) := by decide +kernel
theorem dX11_init_86 : decode cX11_init 86 = .ok (.aload_n 0, 1) := by decide +kernel
theorem dX11_init_87 : decode cX11_init 87 = .ok (.iconst 0, 1) := by decide +kernel
theorem dX11_init_88 : decode cX11_init 88 = .ok (.putfield 58, 3) := by decide +kernel
theorem dX11_init_91 : decode cX11_init 91 = .ok (.aload_n 0, 1) := by decide +kernel
theorem dX11_init_92 : decode cX11_init 92 = .ok (.iconst (-1), 1) := by decide +kernel
theorem dX11_init_93 : decode cX11_init 93 = .ok (.putfield 62, 3) := by decide +kernel
theorem dX11_init_96 : decode cX11_init 96 = .ok (.aload_n 0, 1) := by decide +kernel
theorem dX11_init_97 : decode cX11_init 97 = .ok (.getfield 26, 3) := by decide +kernel
theorem dX11_init_100 : decode cX11_init 100 = .ok (.ldc 65, 2) := by decide +kernel
theorem dX11_init_102 : decode cX11_init 102 = .ok (.invokestatic 67, 3) := by decide +kernel
theorem dX11_init_105 : decode cX11_init 105 = .ok (.invokevirtual 71, 3) := by decide +kernel
theorem dX11_init_108 : decode cX11_init 108 = .ok (.return_, 1) := by decide +kernel
def zX11_init_15 (G : kz_G) (d mc ms : Nat) (Qr : Option Value → kz_M → Prop) (Qx : String → kz_M → Prop) (x0 : Nat)  (M : kz_M) (c sl : Nat) : Prop := kz_Z G (d + 5) mc ms mX11_init Qr Qx 15 [(0, .ref x0)] [] M c sl
def zX11_init_26 (G : kz_G) (d mc ms : Nat) (Qr : Option Value → kz_M → Prop) (Qx : String → kz_M → Prop) (x0 : Nat)  (M : kz_M) (c sl : Nat) : Prop := kz_Z G (d + 5) mc ms mX11_init Qr Qx 26 [(0, .ref x0)] [] M c sl
def zX11_init_37 (G : kz_G) (d mc ms : Nat) (Qr : Option Value → kz_M → Prop) (Qx : String → kz_M → Prop) (x0 : Nat)  (M : kz_M) (c sl : Nat) : Prop := kz_Z G (d + 5) mc ms mX11_init Qr Qx 37 [(0, .ref x0)] [] M c sl
def zX11_init_48 (G : kz_G) (d mc ms : Nat) (Qr : Option Value → kz_M → Prop) (Qx : String → kz_M → Prop) (x0 : Nat)  (M : kz_M) (c sl : Nat) : Prop := kz_Z G (d + 5) mc ms mX11_init Qr Qx 48 [(0, .ref x0)] [] M c sl
def zX11_init_59 (G : kz_G) (d mc ms : Nat) (Qr : Option Value → kz_M → Prop) (Qx : String → kz_M → Prop) (x0 : Nat)  (M : kz_M) (c sl : Nat) : Prop := kz_Z G (d + 5) mc ms mX11_init Qr Qx 59 [(0, .ref x0)] [] M c sl
def zX11_init_70 (G : kz_G) (d mc ms : Nat) (Qr : Option Value → kz_M → Prop) (Qx : String → kz_M → Prop) (x0 : Nat)  (M : kz_M) (c sl : Nat) : Prop := kz_Z G (d + 5) mc ms mX11_init Qr Qx 70 [(0, .ref x0)] [] M c sl
def zX11_init_81 (G : kz_G) (d mc ms : Nat) (Qr : Option Value → kz_M → Prop) (Qx : String → kz_M → Prop) (x0 : Nat)  (M : kz_M) (c sl : Nat) : Prop := kz_Z G (d + 5) mc ms mX11_init Qr Qx 81 [(0, .ref x0)] [] M c sl
theorem rX11_init_0 {G : kz_G} {d : Nat} {mc ms : Nat} {Qr : Option Value → kz_M → Prop} {Qx : String → kz_M → Prop} {a0 : Nat}  {M : kz_M} (h : 0 + 1 ≤ mc ∧ 0 + 2 ≤ ms ∧ (∃ mc4 ms4, 0 + 1 + mc4 ≤ mc ∧ 0 + 2 + ms4 ≤ ms ∧ kz_C G (d + 4) mc4 ms4 mX1_init [.ref ((M).2)] (kz_nw M (.inl (1, [.null, .int 0]))) (fun v M2 => v = none ∧ (∃ fs5, (M2).1 a0 = some (.inl (10, fs5)) ∧ 0 < fs5.length ∧ (zX11_init_15 G d mc ms Qr Qx a0 (kz_up M2 a0 (.inl (10, fs5.set 0 (.ref ((M).2))))) (0 + 1 + mc4) (0 + 2 + ms4)))) Qx)) : kz_C G (d + 5) mc ms mX11_init [.ref a0] M Qr Qx := by
  refine kz_enter (n := 0) kmX11_init.1 (Nat.le_of_ble_eq_true rfl) (ls := [(0, .ref a0)]) rfl ?_
  refine kz_aload_n (pc := 0) 0 (v := .ref a0) (i := 0) rfl rfl rfl dX11_init_0 ?_
  refine kz_objInit (pc := 1) kw_33 kw_34 kw_35 (by omega) (Nat.le_of_ble_eq_true rfl) dX11_init_1 ?_
  refine kz_aload_n (pc := 4) 0 (v := .ref a0) (i := 0) rfl rfl rfl dX11_init_4 ?_
  obtain ⟨hc1, hs1, h⟩ := h
  refine kz_newc (pc := 5) kcX1 rfl kw_36 kw_37 kw_2 hc1 hs1 dX11_init_5 ?_
  refine kz_dup (pc := 8) rfl dX11_init_8 ?_
  obtain ⟨mc4, ms4, hc4, hs4, h⟩ := h
  refine kz_callIN (pc := 9) (μ' := mX1_init) (b := (M).2) (d' := d + 4) (mc' := mc4) (ms' := ms4) (As := []) (st := [.ref ((M).2), .ref a0]) (c := 0 + 1) (sl := 0 + 2) kmX1_init kw_38 (by omega) rfl (Nat.le_of_ble_eq_true rfl) hc4 hs4 dX11_init_9 (fun E M9 hx => kz_Tout rfl hc4 hs4 hx) (kz_Cmono (fun v M2 h => ?_) (fun _ _ h => h) h)
  obtain ⟨rfl, h⟩ := h
  show kz_Z G (d + 5) mc ms mX11_init Qr Qx 12 [(0, .ref a0)] [.ref ((M).2), .ref a0] M2 (0 + 1 + mc4) (0 + 2 + ms4)
  obtain ⟨fs5, hM, hlen, h⟩ := h
  refine kz_putF (pc := 12) (k := 0) kcX11 hM (by decide) hlen rfl rfl kw_275 rfl rfl rfl dX11_init_12 ?_
  exact h
theorem rX11_init_15 {G : kz_G} {d : Nat} {mc ms : Nat} {Qr : Option Value → kz_M → Prop} {Qx : String → kz_M → Prop} {x0 : Nat}  {M : kz_M} {c sl : Nat} (hc : c ≤ mc) (hs : sl ≤ ms) (h : c + 1 ≤ mc ∧ sl + 2 ≤ ms ∧ (∃ mc4 ms4, c + 1 + mc4 ≤ mc ∧ sl + 2 + ms4 ≤ ms ∧ kz_C G (d + 4) mc4 ms4 mX4_init [.ref ((M).2)] (kz_nw M (.inl (4, [.null, .int 0]))) (fun v M2 => v = none ∧ (∃ fs5, (M2).1 x0 = some (.inl (10, fs5)) ∧ 1 < fs5.length ∧ (zX11_init_26 G d mc ms Qr Qx x0 (kz_up M2 x0 (.inl (10, fs5.set 1 (.ref ((M).2))))) (c + 1 + mc4) (sl + 2 + ms4)))) Qx)) : zX11_init_15 G d mc ms Qr Qx x0  M c sl := by
  show kz_Z G (d + 5) mc ms mX11_init Qr Qx 15 [(0, .ref x0)] [] M c sl
  refine kz_aload_n (pc := 15) 0 (v := .ref x0) (i := 0) rfl rfl rfl dX11_init_15 ?_
  obtain ⟨hc1, hs1, h⟩ := h
  refine kz_newc (pc := 16) kcX4 rfl kw_52 kw_53 kw_3 hc1 hs1 dX11_init_16 ?_
  refine kz_dup (pc := 19) rfl dX11_init_19 ?_
  obtain ⟨mc4, ms4, hc4, hs4, h⟩ := h
  refine kz_callIN (pc := 20) (μ' := mX4_init) (b := (M).2) (d' := d + 4) (mc' := mc4) (ms' := ms4) (As := []) (st := [.ref ((M).2), .ref x0]) (c := c + 1) (sl := sl + 2) kmX4_init kw_54 (by omega) rfl (Nat.le_of_ble_eq_true rfl) hc4 hs4 dX11_init_20 (fun E M9 hx => kz_Tout rfl hc4 hs4 hx) (kz_Cmono (fun v M2 h => ?_) (fun _ _ h => h) h)
  obtain ⟨rfl, h⟩ := h
  show kz_Z G (d + 5) mc ms mX11_init Qr Qx 23 [(0, .ref x0)] [.ref ((M).2), .ref x0] M2 (c + 1 + mc4) (sl + 2 + ms4)
  obtain ⟨fs5, hM, hlen, h⟩ := h
  refine kz_putF (pc := 23) (k := 1) kcX11 hM (by decide) hlen rfl rfl kw_276 rfl rfl rfl dX11_init_23 ?_
  exact h
theorem rX11_init_26 {G : kz_G} {d : Nat} {mc ms : Nat} {Qr : Option Value → kz_M → Prop} {Qx : String → kz_M → Prop} {x0 : Nat}  {M : kz_M} {c sl : Nat} (hc : c ≤ mc) (hs : sl ≤ ms) (h : c + 1 ≤ mc ∧ sl + 10 ≤ ms ∧ (∃ mc4 ms4, c + 1 + mc4 ≤ mc ∧ sl + 10 + ms4 ≤ ms ∧ kz_C G (d + 4) mc4 ms4 mX9_init [.ref ((M).2)] (kz_nw M (.inl (8, [.int 0, .int 0, .int 0, .int 0, .null, .null, .null, .null, .null, .null]))) (fun v M2 => v = none ∧ (∃ fs5, (M2).1 x0 = some (.inl (10, fs5)) ∧ 2 < fs5.length ∧ (zX11_init_37 G d mc ms Qr Qx x0 (kz_up M2 x0 (.inl (10, fs5.set 2 (.ref ((M).2))))) (c + 1 + mc4) (sl + 10 + ms4)))) Qx)) : zX11_init_26 G d mc ms Qr Qx x0  M c sl := by
  show kz_Z G (d + 5) mc ms mX11_init Qr Qx 26 [(0, .ref x0)] [] M c sl
  refine kz_aload_n (pc := 26) 0 (v := .ref x0) (i := 0) rfl rfl rfl dX11_init_26 ?_
  obtain ⟨hc1, hs1, h⟩ := h
  refine kz_newc (pc := 27) kcX9 rfl kw_66 kw_67 kw_4 hc1 hs1 dX11_init_27 ?_
  refine kz_dup (pc := 30) rfl dX11_init_30 ?_
  obtain ⟨mc4, ms4, hc4, hs4, h⟩ := h
  refine kz_callI (pc := 31) (μ' := mX9_init) (b := (M).2) (d' := d + 4) (mc' := mc4) (ms' := ms4) (As := []) (st := [.ref ((M).2), .ref x0]) (c := c + 1) (sl := sl + 10) kmX9_init kw_68 (by omega) rfl (Nat.le_of_ble_eq_true rfl) hc4 hs4 dX11_init_31 (fun E M9 hx => kz_Tout rfl hc4 hs4 hx) (kz_Cmono (fun v M2 h => ?_) (fun _ _ h => h) h)
  obtain ⟨rfl, h⟩ := h
  show kz_Z G (d + 5) mc ms mX11_init Qr Qx 34 [(0, .ref x0)] [.ref ((M).2), .ref x0] M2 (c + 1 + mc4) (sl + 10 + ms4)
  obtain ⟨fs5, hM, hlen, h⟩ := h
  refine kz_putF (pc := 34) (k := 2) kcX11 hM (by decide) hlen rfl rfl kw_277 rfl rfl rfl dX11_init_34 ?_
  exact h
theorem rX11_init_37 {G : kz_G} {d : Nat} {mc ms : Nat} {Qr : Option Value → kz_M → Prop} {Qx : String → kz_M → Prop} {x0 : Nat}  {M : kz_M} {c sl : Nat} (hc : c ≤ mc) (hs : sl ≤ ms) (h : c + 1 ≤ mc ∧ sl + 10 ≤ ms ∧ (∃ mc4 ms4, c + 1 + mc4 ≤ mc ∧ sl + 10 + ms4 ≤ ms ∧ kz_C G (d + 4) mc4 ms4 mX9_init [.ref ((M).2)] (kz_nw M (.inl (8, [.int 0, .int 0, .int 0, .int 0, .null, .null, .null, .null, .null, .null]))) (fun v M2 => v = none ∧ (∃ fs5, (M2).1 x0 = some (.inl (10, fs5)) ∧ 3 < fs5.length ∧ (zX11_init_48 G d mc ms Qr Qx x0 (kz_up M2 x0 (.inl (10, fs5.set 3 (.ref ((M).2))))) (c + 1 + mc4) (sl + 10 + ms4)))) Qx)) : zX11_init_37 G d mc ms Qr Qx x0  M c sl := by
  show kz_Z G (d + 5) mc ms mX11_init Qr Qx 37 [(0, .ref x0)] [] M c sl
  refine kz_aload_n (pc := 37) 0 (v := .ref x0) (i := 0) rfl rfl rfl dX11_init_37 ?_
  obtain ⟨hc1, hs1, h⟩ := h
  refine kz_newc (pc := 38) kcX9 rfl kw_66 kw_67 kw_4 hc1 hs1 dX11_init_38 ?_
  refine kz_dup (pc := 41) rfl dX11_init_41 ?_
  obtain ⟨mc4, ms4, hc4, hs4, h⟩ := h
  refine kz_callI (pc := 42) (μ' := mX9_init) (b := (M).2) (d' := d + 4) (mc' := mc4) (ms' := ms4) (As := []) (st := [.ref ((M).2), .ref x0]) (c := c + 1) (sl := sl + 10) kmX9_init kw_68 (by omega) rfl (Nat.le_of_ble_eq_true rfl) hc4 hs4 dX11_init_42 (fun E M9 hx => kz_Tout rfl hc4 hs4 hx) (kz_Cmono (fun v M2 h => ?_) (fun _ _ h => h) h)
  obtain ⟨rfl, h⟩ := h
  show kz_Z G (d + 5) mc ms mX11_init Qr Qx 45 [(0, .ref x0)] [.ref ((M).2), .ref x0] M2 (c + 1 + mc4) (sl + 10 + ms4)
  obtain ⟨fs5, hM, hlen, h⟩ := h
  refine kz_putF (pc := 45) (k := 3) kcX11 hM (by decide) hlen rfl rfl kw_278 rfl rfl rfl dX11_init_45 ?_
  exact h
theorem rX11_init_48 {G : kz_G} {d : Nat} {mc ms : Nat} {Qr : Option Value → kz_M → Prop} {Qx : String → kz_M → Prop} {x0 : Nat}  {M : kz_M} {c sl : Nat} (hc : c ≤ mc) (hs : sl ≤ ms) (h : c + 1 ≤ mc ∧ sl + 3 ≤ ms ∧ (∃ mc4 ms4, c + 1 + mc4 ≤ mc ∧ sl + 3 + ms4 ≤ ms ∧ kz_C G (d + 4) mc4 ms4 mX0_init [.ref ((M).2)] (kz_nw M (.inl (0, [.null, .int 0, .int 0]))) (fun v M2 => v = none ∧ (∃ fs5, (M2).1 x0 = some (.inl (10, fs5)) ∧ 4 < fs5.length ∧ (zX11_init_59 G d mc ms Qr Qx x0 (kz_up M2 x0 (.inl (10, fs5.set 4 (.ref ((M).2))))) (c + 1 + mc4) (sl + 3 + ms4)))) Qx)) : zX11_init_48 G d mc ms Qr Qx x0  M c sl := by
  show kz_Z G (d + 5) mc ms mX11_init Qr Qx 48 [(0, .ref x0)] [] M c sl
  refine kz_aload_n (pc := 48) 0 (v := .ref x0) (i := 0) rfl rfl rfl dX11_init_48 ?_
  obtain ⟨hc1, hs1, h⟩ := h
  refine kz_newc (pc := 49) kcX0 rfl kw_140 kw_141 kw_6 hc1 hs1 dX11_init_49 ?_
  refine kz_dup (pc := 52) rfl dX11_init_52 ?_
  obtain ⟨mc4, ms4, hc4, hs4, h⟩ := h
  refine kz_callI (pc := 53) (μ' := mX0_init) (b := (M).2) (d' := d + 4) (mc' := mc4) (ms' := ms4) (As := []) (st := [.ref ((M).2), .ref x0]) (c := c + 1) (sl := sl + 3) kmX0_init kw_142 (by omega) rfl (Nat.le_of_ble_eq_true rfl) hc4 hs4 dX11_init_53 (fun E M9 hx => kz_Tout rfl hc4 hs4 hx) (kz_Cmono (fun v M2 h => ?_) (fun _ _ h => h) h)
  obtain ⟨rfl, h⟩ := h
  show kz_Z G (d + 5) mc ms mX11_init Qr Qx 56 [(0, .ref x0)] [.ref ((M).2), .ref x0] M2 (c + 1 + mc4) (sl + 3 + ms4)
  obtain ⟨fs5, hM, hlen, h⟩ := h
  refine kz_putF (pc := 56) (k := 4) kcX11 hM (by decide) hlen rfl rfl kw_279 rfl rfl rfl dX11_init_56 ?_
  exact h
theorem rX11_init_59 {G : kz_G} {d : Nat} {mc ms : Nat} {Qr : Option Value → kz_M → Prop} {Qx : String → kz_M → Prop} {x0 : Nat}  {M : kz_M} {c sl : Nat} (hc : c ≤ mc) (hs : sl ≤ ms) (h : c + 1 ≤ mc ∧ sl + 9 ≤ ms ∧ (∃ mc4 ms4, c + 1 + mc4 ≤ mc ∧ sl + 9 + ms4 ≤ ms ∧ kz_C G (d + 4) mc4 ms4 mX8_init [.ref ((M).2)] (kz_nw M (.inl (7, [.null, .null, .int 0, .int 0, .int 0, .long 0, .int 0, .int 0, .int 0]))) (fun v M2 => v = none ∧ (∃ fs5, (M2).1 x0 = some (.inl (10, fs5)) ∧ 5 < fs5.length ∧ (zX11_init_70 G d mc ms Qr Qx x0 (kz_up M2 x0 (.inl (10, fs5.set 5 (.ref ((M).2))))) (c + 1 + mc4) (sl + 9 + ms4)))) Qx)) : zX11_init_59 G d mc ms Qr Qx x0  M c sl := by
  show kz_Z G (d + 5) mc ms mX11_init Qr Qx 59 [(0, .ref x0)] [] M c sl
  refine kz_aload_n (pc := 59) 0 (v := .ref x0) (i := 0) rfl rfl rfl dX11_init_59 ?_
  obtain ⟨hc1, hs1, h⟩ := h
  refine kz_newc (pc := 60) kcX8 rfl kw_160 kw_161 kw_7 hc1 hs1 dX11_init_60 ?_
  refine kz_dup (pc := 63) rfl dX11_init_63 ?_
  obtain ⟨mc4, ms4, hc4, hs4, h⟩ := h
  refine kz_callIN (pc := 64) (μ' := mX8_init) (b := (M).2) (d' := d + 4) (mc' := mc4) (ms' := ms4) (As := []) (st := [.ref ((M).2), .ref x0]) (c := c + 1) (sl := sl + 9) kmX8_init kw_162 (by omega) rfl (Nat.le_of_ble_eq_true rfl) hc4 hs4 dX11_init_64 (fun E M9 hx => kz_Tout rfl hc4 hs4 hx) (kz_Cmono (fun v M2 h => ?_) (fun _ _ h => h) h)
  obtain ⟨rfl, h⟩ := h
  show kz_Z G (d + 5) mc ms mX11_init Qr Qx 67 [(0, .ref x0)] [.ref ((M).2), .ref x0] M2 (c + 1 + mc4) (sl + 9 + ms4)
  obtain ⟨fs5, hM, hlen, h⟩ := h
  refine kz_putF (pc := 67) (k := 5) kcX11 hM (by decide) hlen rfl rfl kw_280 rfl rfl rfl dX11_init_67 ?_
  exact h
theorem rX11_init_70 {G : kz_G} {d : Nat} {mc ms : Nat} {Qr : Option Value → kz_M → Prop} {Qx : String → kz_M → Prop} {x0 : Nat}  {M : kz_M} {c sl : Nat} (hc : c ≤ mc) (hs : sl ≤ ms) (h : c + 1 ≤ mc ∧ sl + 2 ≤ ms ∧ (∃ mc4 ms4, c + 1 + mc4 ≤ mc ∧ sl + 2 + ms4 ≤ ms ∧ kz_C G (d + 4) mc4 ms4 mX5_init [.ref ((M).2)] (kz_nw M (.inl (5, [.null, .int 0]))) (fun v M2 => v = none ∧ (∃ fs5, (M2).1 x0 = some (.inl (10, fs5)) ∧ 6 < fs5.length ∧ (zX11_init_81 G d mc ms Qr Qx x0 (kz_up M2 x0 (.inl (10, fs5.set 6 (.ref ((M).2))))) (c + 1 + mc4) (sl + 2 + ms4)))) Qx)) : zX11_init_70 G d mc ms Qr Qx x0  M c sl := by
  show kz_Z G (d + 5) mc ms mX11_init Qr Qx 70 [(0, .ref x0)] [] M c sl
  refine kz_aload_n (pc := 70) 0 (v := .ref x0) (i := 0) rfl rfl rfl dX11_init_70 ?_
  obtain ⟨hc1, hs1, h⟩ := h
  refine kz_newc (pc := 71) kcX5 rfl kw_201 kw_202 kw_8 hc1 hs1 dX11_init_71 ?_
  refine kz_dup (pc := 74) rfl dX11_init_74 ?_
  obtain ⟨mc4, ms4, hc4, hs4, h⟩ := h
  refine kz_callIN (pc := 75) (μ' := mX5_init) (b := (M).2) (d' := d + 4) (mc' := mc4) (ms' := ms4) (As := []) (st := [.ref ((M).2), .ref x0]) (c := c + 1) (sl := sl + 2) kmX5_init kw_203 (by omega) rfl (Nat.le_of_ble_eq_true rfl) hc4 hs4 dX11_init_75 (fun E M9 hx => kz_Tout rfl hc4 hs4 hx) (kz_Cmono (fun v M2 h => ?_) (fun _ _ h => h) h)
  obtain ⟨rfl, h⟩ := h
  show kz_Z G (d + 5) mc ms mX11_init Qr Qx 78 [(0, .ref x0)] [.ref ((M).2), .ref x0] M2 (c + 1 + mc4) (sl + 2 + ms4)
  obtain ⟨fs5, hM, hlen, h⟩ := h
  refine kz_putF (pc := 78) (k := 6) kcX11 hM (by decide) hlen rfl rfl kw_281 rfl rfl rfl dX11_init_78 ?_
  exact h
theorem rX11_init_81 {G : kz_G} {d : Nat} {mc ms : Nat} {Qr : Option Value → kz_M → Prop} {Qx : String → kz_M → Prop} {x0 : Nat}  {M : kz_M} {c sl : Nat} (hc : c ≤ mc) (hs : sl ≤ ms) (h : ∃ fs1, (M).1 x0 = some (.inl (10, fs1)) ∧ 7 < fs1.length ∧ (∃ fs2, ((kz_up M x0 (.inl (10, fs1.set 7 (.int 0))))).1 x0 = some (.inl (10, fs2)) ∧ 8 < fs2.length ∧ (∃ fs3, ((kz_up (kz_up M x0 (.inl (10, fs1.set 7 (.int 0)))) x0 (.inl (10, fs2.set 8 (.int 0))))).1 x0 = some (.inl (10, fs3)) ∧ 9 < fs3.length ∧ (∃ fs4 v5, ((kz_up (kz_up (kz_up M x0 (.inl (10, fs1.set 7 (.int 0)))) x0 (.inl (10, fs2.set 8 (.int 0)))) x0 (.inl (10, fs3.set 9 (.int ((-1))))))).1 x0 = some (.inl (10, fs4)) ∧ fs4[2]? = some (.ref v5) ∧ (kz_C G (d + 4) 0 0 mX11_coded [.retAddr 1000] (kz_up (kz_up (kz_up M x0 (.inl (10, fs1.set 7 (.int 0)))) x0 (.inl (10, fs2.set 8 (.int 0)))) x0 (.inl (10, fs3.set 9 (.int ((-1)))))) (fun v M6 => ∃ r7 : Int64, v = some (.long r7) ∧ ((∃ fs12, (M6).1 v5 = some (.inl (8, fs12))) ∧ kz_C G (d + 4) 0 0 mX9_enrol [.ref v5, .long r7] M6 (fun v M9 => v = none ∧ (Qr none M9)) Qx)) Qx))))) : zX11_init_81 G d mc ms Qr Qx x0  M c sl := by
  show kz_Z G (d + 5) mc ms mX11_init Qr Qx 81 [(0, .ref x0)] [] M c sl
  refine kz_aload_n (pc := 81) 0 (v := .ref x0) (i := 0) rfl rfl rfl dX11_init_81 ?_
  refine kz_iconst (pc := 82) (v := 0) (by decide) dX11_init_82 ?_
  obtain ⟨fs1, hM, hlen, h⟩ := h
  refine kz_putf (pc := 83) (k := 7) kcX11 hM (by decide) hlen kw_282 rfl rfl rfl dX11_init_83 ?_
  refine kz_aload_n (pc := 86) 0 (v := .ref x0) (i := 0) rfl rfl rfl dX11_init_86 ?_
  refine kz_iconst (pc := 87) (v := 0) (by decide) dX11_init_87 ?_
  obtain ⟨fs2, hM, hlen, h⟩ := h
  refine kz_putf (pc := 88) (k := 8) kcX11 hM (by decide) hlen kw_283 rfl rfl rfl dX11_init_88 ?_
  refine kz_aload_n (pc := 91) 0 (v := .ref x0) (i := 0) rfl rfl rfl dX11_init_91 ?_
  refine kz_iconst (pc := 92) (v := (-1)) (by decide) dX11_init_92 ?_
  obtain ⟨fs3, hM, hlen, h⟩ := h
  refine kz_putf (pc := 93) (k := 9) kcX11 hM (by decide) hlen kw_284 rfl rfl rfl dX11_init_93 ?_
  refine kz_aload_n (pc := 96) 0 (v := .ref x0) (i := 0) rfl rfl rfl dX11_init_96 ?_
  obtain ⟨fs4, v5, hM, hv, h⟩ := h
  refine kz_getf (pc := 97) (k := 2) kcX11 hM hv (by decide) kw_277 dX11_init_97 ?_
  refine kz_ldcS (pc := 100) (j := 1000) (tx := "a") (List.mem_of_getElem? (i := 0) rfl) dX11_init_100 ?_
  refine kz_callS (pc := 102) (μ' := mX11_coded) (d' := d + 4) (mc' := 0) (ms' := 0) (As := [.retAddr 1000]) (st := [.ref v5]) (c := c) (sl := sl) kmX11_coded kw_217 (by omega) rfl (Nat.le_of_ble_eq_true rfl) hc hs dX11_init_102 (fun E M9 hx => kz_Tout rfl hc hs hx) (kz_Cmono (fun v M6 h => ?_) (fun _ _ h => h) h)
  obtain ⟨r7, rfl, h⟩ := h
  show kz_Z G (d + 5) mc ms mX11_init Qr Qx 105 [(0, .ref x0)] [.long r7, .ref v5] M6 c sl
  obtain ⟨⟨fs12, he⟩, h⟩ := h
  refine kz_callV (pc := 105) (μ' := mX9_enrol) (ci := 8) (q := (RX9, TX9, 10)) (b := v5) (d' := d + 4) (mc' := 0) (ms' := 0) (As := [.long r7]) (st := []) (c := c) (sl := sl) kmX9_enrol kw_271 (by omega) rfl (Nat.le_of_ble_eq_true rfl) he rfl rfl hc hs dX11_init_105 (fun E M9 hx => kz_Tout rfl hc hs hx) (kz_Cmono (fun v M9 h => ?_) (fun _ _ h => h) h)
  obtain ⟨rfl, h⟩ := h
  show kz_Z G (d + 5) mc ms mX11_init Qr Qx 108 [(0, .ref x0)] [] M9 c sl
  exact kz_vret (pc := 108) rfl hc hs dX11_init_108 h
theorem dX11_appendInput_0 : decode cX11_appendInput 0 = .ok (.aload_n 0, 1) := by decide +kernel
theorem dX11_appendInput_1 : decode cX11_appendInput 1 = .ok (.getfield 10, 3) := by decide +kernel
theorem dX11_appendInput_4 : decode cX11_appendInput 4 = .ok (.invokevirtual 75, 3) := by decide +kernel
theorem dX11_appendInput_7 : decode cX11_appendInput 7 = .ok (.ifCond .ne 5, 3) := by decide +kernel
theorem dX11_appendInput_10 : decode cX11_appendInput 10 = .ok (.iconst (-1), 1) := by decide +kernel
theorem dX11_appendInput_11 : decode cX11_appendInput 11 = .ok (.ireturn, 1) := by decide +kernel
theorem dX11_appendInput_12 : decode cX11_appendInput 12 = .ok (.aload_n 0, 1) := by decide +kernel
theorem dX11_appendInput_13 : decode cX11_appendInput 13 = .ok (.getfield 10, 3) := by decide +kernel
theorem dX11_appendInput_16 : decode cX11_appendInput 16 = .ok (.iload_n 1, 1) := by decide +kernel
theorem dX11_appendInput_17 : decode cX11_appendInput 17 = .ok (.invokevirtual 79, 3) := by decide +kernel
theorem dX11_appendInput_20 : decode cX11_appendInput 20 = .ok (.aload_n 0, 1) := by decide +kernel
theorem dX11_appendInput_21 : decode cX11_appendInput 21 = .ok (.getfield 10, 3) := by decide +kernel
theorem dX11_appendInput_24 : decode cX11_appendInput 24 = .ok (.iload_n 2, 1) := by decide +kernel
theorem dX11_appendInput_25 : decode cX11_appendInput 25 = .ok (.invokevirtual 79, 3) := by decide +kernel
theorem dX11_appendInput_28 : decode cX11_appendInput 28 = .ok (.aload_n 0, 1) := by decide +kernel
theorem dX11_appendInput_29 : decode cX11_appendInput 29 = .ok (.getfield 10, 3) := by decide +kernel
theorem dX11_appendInput_32 : decode cX11_appendInput 32 = .ok (.iload_n 3, 1) := by decide +kernel
theorem dX11_appendInput_33 : decode cX11_appendInput 33 = .ok (.invokevirtual 79, 3) := by decide +kernel
theorem dX11_appendInput_36 : decode cX11_appendInput 36 = .ok (.aload_n 0, 1) := by decide +kernel
theorem dX11_appendInput_37 : decode cX11_appendInput 37 = .ok (.getfield 10, 3) := by decide +kernel
theorem dX11_appendInput_40 : decode cX11_appendInput 40 = .ok (.iload 4, 2) := by decide +kernel
theorem dX11_appendInput_42 : decode cX11_appendInput 42 = .ok (.invokevirtual 79, 3) := by decide +kernel
theorem dX11_appendInput_45 : decode cX11_appendInput 45 = .ok (.aload_n 0, 1) := by decide +kernel
theorem dX11_appendInput_46 : decode cX11_appendInput 46 = .ok (.getfield 10, 3) := by decide +kernel
theorem dX11_appendInput_49 : decode cX11_appendInput 49 = .ok (.iload 5, 2) := by decide +kernel
theorem dX11_appendInput_51 : decode cX11_appendInput 51 = .ok (.invokevirtual 79, 3) := by decide +kernel
theorem dX11_appendInput_54 : decode cX11_appendInput 54 = .ok (.aload_n 0, 1) := by decide +kernel
theorem dX11_appendInput_55 : decode cX11_appendInput 55 = .ok (.getfield 10, 3) := by decide +kernel
theorem dX11_appendInput_58 : decode cX11_appendInput 58 = .ok (.getfield 83, 3) := by decide +kernel
theorem dX11_appendInput_61 : decode cX11_appendInput 61 = .ok (.ireturn, 1) := by decide +kernel
theorem rX11_appendInput_0 {G : kz_G} {d : Nat} {Qr : Option Value → kz_M → Prop} {Qx : String → kz_M → Prop} {a0 : Nat} {p1 : Int32} {p2 : Int32} {p3 : Int32} {p4 : Int32} {p5 : Int32}  {M : kz_M} (h : ∃ fs1 v2, (M).1 a0 = some (.inl (10, fs1)) ∧ fs1[0]? = some (.ref v2) ∧ ((∃ fs40, (M).1 v2 = some (.inl (1, fs40))) ∧ kz_C G (d + 1) 0 0 mX1_hasRoomForTwenty [.ref v2] M (fun v M3 => ∃ r4 : Int32, v = some (.int r4) ∧ ((¬ r4 = 0 → ∃ fs6 v7, (M3).1 a0 = some (.inl (10, fs6)) ∧ fs6[0]? = some (.ref v7) ∧ ((∃ fs39, (M3).1 v7 = some (.inl (1, fs39))) ∧ kz_C G (d + 1) 0 0 mX1_appendFour [.ref v7, .int p1] M3 (fun v M8 => v = none ∧ (∃ fs11 v12, (M8).1 a0 = some (.inl (10, fs11)) ∧ fs11[0]? = some (.ref v12) ∧ ((∃ fs38, (M8).1 v12 = some (.inl (1, fs38))) ∧ kz_C G (d + 1) 0 0 mX1_appendFour [.ref v12, .int p2] M8 (fun v M13 => v = none ∧ (∃ fs16 v17, (M13).1 a0 = some (.inl (10, fs16)) ∧ fs16[0]? = some (.ref v17) ∧ ((∃ fs37, (M13).1 v17 = some (.inl (1, fs37))) ∧ kz_C G (d + 1) 0 0 mX1_appendFour [.ref v17, .int p3] M13 (fun v M18 => v = none ∧ (∃ fs21 v22, (M18).1 a0 = some (.inl (10, fs21)) ∧ fs21[0]? = some (.ref v22) ∧ ((∃ fs36, (M18).1 v22 = some (.inl (1, fs36))) ∧ kz_C G (d + 1) 0 0 mX1_appendFour [.ref v22, .int p4] M18 (fun v M23 => v = none ∧ (∃ fs26 v27, (M23).1 a0 = some (.inl (10, fs26)) ∧ fs26[0]? = some (.ref v27) ∧ ((∃ fs35, (M23).1 v27 = some (.inl (1, fs35))) ∧ kz_C G (d + 1) 0 0 mX1_appendFour [.ref v27, .int p5] M23 (fun v M28 => v = none ∧ (∃ fs31 v32, (M28).1 a0 = some (.inl (10, fs31)) ∧ fs31[0]? = some (.ref v32) ∧ (∃ fs33 v34, (M28).1 v32 = some (.inl (1, fs33)) ∧ fs33[1]? = some (.int v34) ∧ (Qr (some (.int v34)) M28)))) Qx))) Qx))) Qx))) Qx))) Qx)) ∧ (r4 = 0 → Qr (some (.int ((-1)))) M3))) Qx)) : kz_C G (d + 2) 0 0 mX11_appendInput [.ref a0, .int p1, .int p2, .int p3, .int p4, .int p5] M Qr Qx := by
  refine kz_enter (n := 5) kmX11_appendInput.1 (Nat.le_of_ble_eq_true rfl) (ls := [(0, .ref a0), (1, .int p1), (2, .int p2), (3, .int p3), (4, .int p4), (5, .int p5)]) rfl ?_
  refine kz_aload_n (pc := 0) 0 (v := .ref a0) (i := 0) rfl rfl rfl dX11_appendInput_0 ?_
  obtain ⟨fs1, v2, hM, hv, h⟩ := h
  refine kz_getf (pc := 1) (k := 0) kcX11 hM hv (by decide) kw_275 dX11_appendInput_1 ?_
  obtain ⟨⟨fs40, he⟩, h⟩ := h
  refine kz_callV (pc := 4) (μ' := mX1_hasRoomForTwenty) (ci := 1) (q := (RX1, TX1, 2)) (b := v2) (d' := d + 1) (mc' := 0) (ms' := 0) (As := []) (st := []) (c := 0) (sl := 0) kmX1_hasRoomForTwenty kw_310 (by omega) rfl (Nat.le_of_ble_eq_true rfl) he rfl rfl (Nat.le_refl _) (Nat.le_refl _) dX11_appendInput_4 (fun E M9 hx => kz_Tout rfl (Nat.le_refl _) (Nat.le_refl _) hx) (kz_Cmono (fun v M3 h => ?_) (fun _ _ h => h) h)
  obtain ⟨r4, rfl, h⟩ := h
  show kz_Z G (d + 2) 0 0 mX11_appendInput Qr Qx 7 [(0, .ref a0), (1, .int p1), (2, .int p2), (3, .int p3), (4, .int p4), (5, .int p5)] [.int r4] M3 0 0
  refine kz_if_ne (pc := 7) (tgt := 12) (by decide) dX11_appendInput_7 (fun hb => ?_) (fun hb => ?_)
  · replace h := h.1 hb
    refine kz_aload_n (pc := 12) 0 (v := .ref a0) (i := 0) rfl rfl rfl dX11_appendInput_12 ?_
    obtain ⟨fs6, v7, hM, hv, h⟩ := h
    refine kz_getf (pc := 13) (k := 0) kcX11 hM hv (by decide) kw_275 dX11_appendInput_13 ?_
    refine kz_iload_n (pc := 16) 1 (i := 1) rfl rfl dX11_appendInput_16 ?_
    obtain ⟨⟨fs39, he⟩, h⟩ := h
    refine kz_callV (pc := 17) (μ' := mX1_appendFour) (ci := 1) (q := (RX1, TX1, 2)) (b := v7) (d' := d + 1) (mc' := 0) (ms' := 0) (As := [.int p1]) (st := []) (c := 0) (sl := 0) kmX1_appendFour kw_314 (by omega) rfl (Nat.le_of_ble_eq_true rfl) he rfl rfl (Nat.le_refl _) (Nat.le_refl _) dX11_appendInput_17 (fun E M9 hx => kz_Tout rfl (Nat.le_refl _) (Nat.le_refl _) hx) (kz_Cmono (fun v M8 h => ?_) (fun _ _ h => h) h)
    obtain ⟨rfl, h⟩ := h
    show kz_Z G (d + 2) 0 0 mX11_appendInput Qr Qx 20 [(0, .ref a0), (1, .int p1), (2, .int p2), (3, .int p3), (4, .int p4), (5, .int p5)] [] M8 0 0
    refine kz_aload_n (pc := 20) 0 (v := .ref a0) (i := 0) rfl rfl rfl dX11_appendInput_20 ?_
    obtain ⟨fs11, v12, hM, hv, h⟩ := h
    refine kz_getf (pc := 21) (k := 0) kcX11 hM hv (by decide) kw_275 dX11_appendInput_21 ?_
    refine kz_iload_n (pc := 24) 2 (i := 2) rfl rfl dX11_appendInput_24 ?_
    obtain ⟨⟨fs38, he⟩, h⟩ := h
    refine kz_callV (pc := 25) (μ' := mX1_appendFour) (ci := 1) (q := (RX1, TX1, 2)) (b := v12) (d' := d + 1) (mc' := 0) (ms' := 0) (As := [.int p2]) (st := []) (c := 0) (sl := 0) kmX1_appendFour kw_314 (by omega) rfl (Nat.le_of_ble_eq_true rfl) he rfl rfl (Nat.le_refl _) (Nat.le_refl _) dX11_appendInput_25 (fun E M9 hx => kz_Tout rfl (Nat.le_refl _) (Nat.le_refl _) hx) (kz_Cmono (fun v M13 h => ?_) (fun _ _ h => h) h)
    obtain ⟨rfl, h⟩ := h
    show kz_Z G (d + 2) 0 0 mX11_appendInput Qr Qx 28 [(0, .ref a0), (1, .int p1), (2, .int p2), (3, .int p3), (4, .int p4), (5, .int p5)] [] M13 0 0
    refine kz_aload_n (pc := 28) 0 (v := .ref a0) (i := 0) rfl rfl rfl dX11_appendInput_28 ?_
    obtain ⟨fs16, v17, hM, hv, h⟩ := h
    refine kz_getf (pc := 29) (k := 0) kcX11 hM hv (by decide) kw_275 dX11_appendInput_29 ?_
    refine kz_iload_n (pc := 32) 3 (i := 3) rfl rfl dX11_appendInput_32 ?_
    obtain ⟨⟨fs37, he⟩, h⟩ := h
    refine kz_callV (pc := 33) (μ' := mX1_appendFour) (ci := 1) (q := (RX1, TX1, 2)) (b := v17) (d' := d + 1) (mc' := 0) (ms' := 0) (As := [.int p3]) (st := []) (c := 0) (sl := 0) kmX1_appendFour kw_314 (by omega) rfl (Nat.le_of_ble_eq_true rfl) he rfl rfl (Nat.le_refl _) (Nat.le_refl _) dX11_appendInput_33 (fun E M9 hx => kz_Tout rfl (Nat.le_refl _) (Nat.le_refl _) hx) (kz_Cmono (fun v M18 h => ?_) (fun _ _ h => h) h)
    obtain ⟨rfl, h⟩ := h
    show kz_Z G (d + 2) 0 0 mX11_appendInput Qr Qx 36 [(0, .ref a0), (1, .int p1), (2, .int p2), (3, .int p3), (4, .int p4), (5, .int p5)] [] M18 0 0
    refine kz_aload_n (pc := 36) 0 (v := .ref a0) (i := 0) rfl rfl rfl dX11_appendInput_36 ?_
    obtain ⟨fs21, v22, hM, hv, h⟩ := h
    refine kz_getf (pc := 37) (k := 0) kcX11 hM hv (by decide) kw_275 dX11_appendInput_37 ?_
    refine kz_iload (pc := 40) 4 (i := 4) rfl dX11_appendInput_40 ?_
    obtain ⟨⟨fs36, he⟩, h⟩ := h
    refine kz_callV (pc := 42) (μ' := mX1_appendFour) (ci := 1) (q := (RX1, TX1, 2)) (b := v22) (d' := d + 1) (mc' := 0) (ms' := 0) (As := [.int p4]) (st := []) (c := 0) (sl := 0) kmX1_appendFour kw_314 (by omega) rfl (Nat.le_of_ble_eq_true rfl) he rfl rfl (Nat.le_refl _) (Nat.le_refl _) dX11_appendInput_42 (fun E M9 hx => kz_Tout rfl (Nat.le_refl _) (Nat.le_refl _) hx) (kz_Cmono (fun v M23 h => ?_) (fun _ _ h => h) h)
    obtain ⟨rfl, h⟩ := h
    show kz_Z G (d + 2) 0 0 mX11_appendInput Qr Qx 45 [(0, .ref a0), (1, .int p1), (2, .int p2), (3, .int p3), (4, .int p4), (5, .int p5)] [] M23 0 0
    refine kz_aload_n (pc := 45) 0 (v := .ref a0) (i := 0) rfl rfl rfl dX11_appendInput_45 ?_
    obtain ⟨fs26, v27, hM, hv, h⟩ := h
    refine kz_getf (pc := 46) (k := 0) kcX11 hM hv (by decide) kw_275 dX11_appendInput_46 ?_
    refine kz_iload (pc := 49) 5 (i := 5) rfl dX11_appendInput_49 ?_
    obtain ⟨⟨fs35, he⟩, h⟩ := h
    refine kz_callV (pc := 51) (μ' := mX1_appendFour) (ci := 1) (q := (RX1, TX1, 2)) (b := v27) (d' := d + 1) (mc' := 0) (ms' := 0) (As := [.int p5]) (st := []) (c := 0) (sl := 0) kmX1_appendFour kw_314 (by omega) rfl (Nat.le_of_ble_eq_true rfl) he rfl rfl (Nat.le_refl _) (Nat.le_refl _) dX11_appendInput_51 (fun E M9 hx => kz_Tout rfl (Nat.le_refl _) (Nat.le_refl _) hx) (kz_Cmono (fun v M28 h => ?_) (fun _ _ h => h) h)
    obtain ⟨rfl, h⟩ := h
    show kz_Z G (d + 2) 0 0 mX11_appendInput Qr Qx 54 [(0, .ref a0), (1, .int p1), (2, .int p2), (3, .int p3), (4, .int p4), (5, .int p5)] [] M28 0 0
    refine kz_aload_n (pc := 54) 0 (v := .ref a0) (i := 0) rfl rfl rfl dX11_appendInput_54 ?_
    obtain ⟨fs31, v32, hM, hv, h⟩ := h
    refine kz_getf (pc := 55) (k := 0) kcX11 hM hv (by decide) kw_275 dX11_appendInput_55 ?_
    obtain ⟨fs33, v34, hM, hv, h⟩ := h
    refine kz_getf (pc := 58) (k := 1) kcX1 hM hv (by decide) kw_45 dX11_appendInput_58 ?_
    exact kz_iret (pc := 61) rfl (Nat.le_refl _) (Nat.le_refl _) dX11_appendInput_61 h
  · replace h := h.2 hb
    refine kz_iconst (pc := 10) (v := (-1)) (by decide) dX11_appendInput_10 ?_
    exact kz_iret (pc := 11) rfl (Nat.le_refl _) (Nat.le_refl _) dX11_appendInput_11 h
theorem dX11_truncateInput_0 : decode cX11_truncateInput 0 = .ok (.iload_n 1, 1) := by decide +kernel
theorem dX11_truncateInput_1 : decode cX11_truncateInput 1 = .ok (.ifCond .lt 14, 3) := by decide +kernel
theorem dX11_truncateInput_4 : decode cX11_truncateInput 4 = .ok (.iload_n 1, 1) := by decide +kernel
theorem dX11_truncateInput_5 : decode cX11_truncateInput 5 = .ok (.aload_n 0, 1) := by decide +kernel
theorem dX11_truncateInput_6 : decode cX11_truncateInput 6 = .ok (.getfield 10, 3) := by decide +kernel
theorem dX11_truncateInput_9 : decode cX11_truncateInput 9 = .ok (.getfield 83, 3) := by decide +kernel
theorem dX11_truncateInput_12 : decode cX11_truncateInput 12 = .ok (.if_icmp .le 5, 3) := by decide +kernel
theorem dX11_truncateInput_15 : decode cX11_truncateInput 15 = .ok (.iconst 0, 1) := by decide +kernel
theorem dX11_truncateInput_16 : decode cX11_truncateInput 16 = .ok (.ireturn, 1) := by decide +kernel
theorem dX11_truncateInput_17 : decode cX11_truncateInput 17 = .ok (.aload_n 0, 1) := by decide +kernel
theorem dX11_truncateInput_18 : decode cX11_truncateInput 18 = .ok (.getfield 10, 3) := by decide +kernel
theorem dX11_truncateInput_21 : decode cX11_truncateInput 21 = .ok (.iload_n 1, 1) := by decide +kernel
theorem dX11_truncateInput_22 : decode cX11_truncateInput 22 = .ok (.putfield 83, 3) := by decide +kernel
theorem dX11_truncateInput_25 : decode cX11_truncateInput 25 = .ok (.iconst 1, 1) := by decide +kernel
theorem dX11_truncateInput_26 : decode cX11_truncateInput 26 = .ok (.ireturn, 1) := by decide +kernel
theorem rX11_truncateInput_0 {G : kz_G} {d : Nat} {Qr : Option Value → kz_M → Prop} {Qx : String → kz_M → Prop} {a0 : Nat} {p1 : Int32}  {M : kz_M} (h : (p1 < 0 → Qr (some (.int 0)) M) ∧ (¬ p1 < 0 → ∃ fs1 v2, (M).1 a0 = some (.inl (10, fs1)) ∧ fs1[0]? = some (.ref v2) ∧ (∃ fs3 v4, (M).1 v2 = some (.inl (1, fs3)) ∧ fs3[1]? = some (.int v4) ∧ ((p1 ≤ v4 → ∃ fs5 v6, (M).1 a0 = some (.inl (10, fs5)) ∧ fs5[0]? = some (.ref v6) ∧ (∃ fs7, (M).1 v6 = some (.inl (1, fs7)) ∧ 1 < fs7.length ∧ (Qr (some (.int 1)) (kz_up M v6 (.inl (1, fs7.set 1 (.int p1))))))) ∧ (¬ p1 ≤ v4 → Qr (some (.int 0)) M))))) : kz_C G d 0 0 mX11_truncateInput [.ref a0, .int p1] M Qr Qx := by
  refine kz_enter (n := 1) kmX11_truncateInput.1 (Nat.le_of_ble_eq_true rfl) (ls := [(0, .ref a0), (1, .int p1)]) rfl ?_
  refine kz_iload_n (pc := 0) 1 (i := 1) rfl rfl dX11_truncateInput_0 ?_
  refine kz_if_lt (pc := 1) (tgt := 15) (by decide) dX11_truncateInput_1 (fun hb => ?_) (fun hb => ?_)
  · replace h := h.1 hb
    refine kz_iconst (pc := 15) (v := 0) (by decide) dX11_truncateInput_15 ?_
    exact kz_zret (pc := 16) (ty := .boolean) rfl (by decide) (Nat.le_refl _) (Nat.le_refl _) dX11_truncateInput_16 h
  · replace h := h.2 hb
    refine kz_iload_n (pc := 4) 1 (i := 1) rfl rfl dX11_truncateInput_4 ?_
    refine kz_aload_n (pc := 5) 0 (v := .ref a0) (i := 0) rfl rfl rfl dX11_truncateInput_5 ?_
    obtain ⟨fs1, v2, hM, hv, h⟩ := h
    refine kz_getf (pc := 6) (k := 0) kcX11 hM hv (by decide) kw_275 dX11_truncateInput_6 ?_
    obtain ⟨fs3, v4, hM, hv, h⟩ := h
    refine kz_getf (pc := 9) (k := 1) kcX1 hM hv (by decide) kw_45 dX11_truncateInput_9 ?_
    refine kz_icmp_le (pc := 12) (tgt := 17) (by decide) dX11_truncateInput_12 (fun hb => ?_) (fun hb => ?_)
    · replace h := h.1 hb
      refine kz_aload_n (pc := 17) 0 (v := .ref a0) (i := 0) rfl rfl rfl dX11_truncateInput_17 ?_
      obtain ⟨fs5, v6, hM, hv, h⟩ := h
      refine kz_getf (pc := 18) (k := 0) kcX11 hM hv (by decide) kw_275 dX11_truncateInput_18 ?_
      refine kz_iload_n (pc := 21) 1 (i := 1) rfl rfl dX11_truncateInput_21 ?_
      obtain ⟨fs7, hM, hlen, h⟩ := h
      refine kz_putf (pc := 22) (k := 1) kcX1 hM (by decide) hlen kw_45 rfl rfl rfl dX11_truncateInput_22 ?_
      refine kz_iconst (pc := 25) (v := 1) (by decide) dX11_truncateInput_25 ?_
      exact kz_zret (pc := 26) (ty := .boolean) rfl (by decide) (Nat.le_refl _) (Nat.le_refl _) dX11_truncateInput_26 h
    · replace h := h.2 hb
      refine kz_iconst (pc := 15) (v := 0) (by decide) dX11_truncateInput_15 ?_
      exact kz_zret (pc := 16) (ty := .boolean) rfl (by decide) (Nat.le_refl _) (Nat.le_refl _) dX11_truncateInput_16 h
theorem dX11_loadOffice_0 : decode cX11_loadOffice 0 = .ok (.aload_n 0, 1) := by decide +kernel
theorem dX11_loadOffice_1 : decode cX11_loadOffice 1 = .ok (.getfield 43, 3) := by decide +kernel
theorem dX11_loadOffice_4 : decode cX11_loadOffice 4 = .ok (.aload_n 0, 1) := by decide +kernel
theorem dX11_loadOffice_5 : decode cX11_loadOffice 5 = .ok (.getfield 10, 3) := by decide +kernel
theorem dX11_loadOffice_8 : decode cX11_loadOffice 8 = .ok (.invokevirtual 86, 3) := by decide +kernel
theorem dX11_loadOffice_11 : decode cX11_loadOffice 11 = .ok (.istore_n 1, 1) := by decide +kernel
theorem dX11_loadOffice_12 : decode cX11_loadOffice 12 = .ok (.aload_n 0, 1) := by decide +kernel
theorem dX11_loadOffice_13 : decode cX11_loadOffice 13 = .ok (.getfield 10, 3) := by decide +kernel
theorem dX11_loadOffice_16 : decode cX11_loadOffice 16 = .ok (.iconst 0, 1) := by decide +kernel
theorem dX11_loadOffice_17 : decode cX11_loadOffice 17 = .ok (.putfield 83, 3) := by decide +kernel
theorem dX11_loadOffice_20 : decode cX11_loadOffice 20 = .ok (.aload_n 0, 1) := by decide +kernel
theorem dX11_loadOffice_21 : decode cX11_loadOffice 21 = .ok (.aload_n 0, 1) := by decide +kernel
theorem dX11_loadOffice_22 : decode cX11_loadOffice 22 = .ok (.getfield 43, 3) := by decide +kernel
theorem dX11_loadOffice_25 : decode cX11_loadOffice 25 = .ok (.getfield 90, 3) := by decide +kernel
theorem dX11_loadOffice_28 : decode cX11_loadOffice 28 = .ok (.putfield 58, 3) := by decide +kernel
theorem dX11_loadOffice_31 : decode cX11_loadOffice 31 = .ok (.aload_n 0, 1) := by decide +kernel
theorem dX11_loadOffice_32 : decode cX11_loadOffice 32 = .ok (.aload_n 0, 1) := by decide +kernel
theorem dX11_loadOffice_33 : decode cX11_loadOffice 33 = .ok (.getfield 43, 3) := by decide +kernel
theorem dX11_loadOffice_36 : decode cX11_loadOffice 36 = .ok (.getfield 91, 3) := by decide +kernel
theorem dX11_loadOffice_39 : decode cX11_loadOffice 39 = .ok (.putfield 62, 3) := by decide +kernel
theorem dX11_loadOffice_42 : decode cX11_loadOffice 42 = .ok (.iload_n 1, 1) := by decide +kernel
theorem dX11_loadOffice_43 : decode cX11_loadOffice 43 = .ok (.ifCond .ne 5, 3) := by decide +kernel
theorem dX11_loadOffice_46 : decode cX11_loadOffice 46 = .ok (.iconst (-1), 1) := by decide +kernel
theorem dX11_loadOffice_47 : decode cX11_loadOffice 47 = .ok (.ireturn, 1) := by decide +kernel
theorem dX11_loadOffice_48 : decode cX11_loadOffice 48 = .ok (.aload_n 0, 1) := by decide +kernel
theorem dX11_loadOffice_49 : decode cX11_loadOffice 49 = .ok (.getfield 26, 3) := by decide +kernel
theorem dX11_loadOffice_52 : decode cX11_loadOffice 52 = .ok (.aload_n 0, 1) := by decide +kernel
theorem dX11_loadOffice_53 : decode cX11_loadOffice 53 = .ok (.getfield 43, 3) := by decide +kernel
theorem dX11_loadOffice_56 : decode cX11_loadOffice 56 = .ok (.getfield 92, 3) := by decide +kernel
theorem dX11_loadOffice_59 : decode cX11_loadOffice 59 = .ok (.invokevirtual 95, 3) := by decide +kernel
theorem dX11_loadOffice_62 : decode cX11_loadOffice 62 = .ok (.aload_n 0, 1) := by decide +kernel
theorem dX11_loadOffice_63 : decode cX11_loadOffice 63 = .ok (.getfield 36, 3) := by decide +kernel
theorem dX11_loadOffice_66 : decode cX11_loadOffice 66 = .ok (.invokevirtual 99, 3) := by decide +kernel
theorem dX11_loadOffice_69 : decode cX11_loadOffice 69 = .ok (.aload_n 0, 1) := by decide +kernel
theorem dX11_loadOffice_70 : decode cX11_loadOffice 70 = .ok (.iconst 0, 1) := by decide +kernel
theorem dX11_loadOffice_71 : decode cX11_loadOffice 71 = .ok (.putfield 54, 3) := by decide +kernel
theorem dX11_loadOffice_74 : decode cX11_loadOffice 74 = .ok (.aload_n 0, 1) := by decide +kernel
theorem dX11_loadOffice_75 : decode cX11_loadOffice 75 = .ok (.getfield 26, 3) := by decide +kernel
theorem dX11_loadOffice_78 : decode cX11_loadOffice 78 = .ok (.getfield 102, 3) := by decide +kernel
theorem dX11_loadOffice_81 : decode cX11_loadOffice 81 = .ok (.ireturn, 1) := by decide +kernel
theorem rX11_loadOffice_0 {G : kz_G} {d : Nat} {Qr : Option Value → kz_M → Prop} {Qx : String → kz_M → Prop} {a0 : Nat}  {M : kz_M} (h : ∃ fs1 v2, (M).1 a0 = some (.inl (10, fs1)) ∧ fs1[5]? = some (.ref v2) ∧ (∃ fs3 v4, (M).1 a0 = some (.inl (10, fs3)) ∧ fs3[0]? = some (.ref v4) ∧ ((∃ fs42, (M).1 v2 = some (.inl (7, fs42))) ∧ kz_C G (d + 8) 0 0 mX8_read [.ref v2, .ref v4] M (fun v M5 => ∃ r6 : Int32, v = some (.int r6) ∧ (∃ fs8 v9, (M5).1 a0 = some (.inl (10, fs8)) ∧ fs8[0]? = some (.ref v9) ∧ (∃ fs10, (M5).1 v9 = some (.inl (1, fs10)) ∧ 1 < fs10.length ∧ (∃ fs11 v12, ((kz_up M5 v9 (.inl (1, fs10.set 1 (.int 0))))).1 a0 = some (.inl (10, fs11)) ∧ fs11[5]? = some (.ref v12) ∧ (∃ fs13 v14, ((kz_up M5 v9 (.inl (1, fs10.set 1 (.int 0))))).1 v12 = some (.inl (7, fs13)) ∧ fs13[7]? = some (.int v14) ∧ (∃ fs15, ((kz_up M5 v9 (.inl (1, fs10.set 1 (.int 0))))).1 a0 = some (.inl (10, fs15)) ∧ 8 < fs15.length ∧ (∃ fs16 v17, ((kz_up (kz_up M5 v9 (.inl (1, fs10.set 1 (.int 0)))) a0 (.inl (10, fs15.set 8 (.int v14))))).1 a0 = some (.inl (10, fs16)) ∧ fs16[5]? = some (.ref v17) ∧ (∃ fs18 v19, ((kz_up (kz_up M5 v9 (.inl (1, fs10.set 1 (.int 0)))) a0 (.inl (10, fs15.set 8 (.int v14))))).1 v17 = some (.inl (7, fs18)) ∧ fs18[8]? = some (.int v19) ∧ (∃ fs20, ((kz_up (kz_up M5 v9 (.inl (1, fs10.set 1 (.int 0)))) a0 (.inl (10, fs15.set 8 (.int v14))))).1 a0 = some (.inl (10, fs20)) ∧ 9 < fs20.length ∧ ((¬ r6 = 0 → ∃ fs21 v22, ((kz_up (kz_up (kz_up M5 v9 (.inl (1, fs10.set 1 (.int 0)))) a0 (.inl (10, fs15.set 8 (.int v14)))) a0 (.inl (10, fs20.set 9 (.int v19))))).1 a0 = some (.inl (10, fs21)) ∧ fs21[2]? = some (.ref v22) ∧ (∃ fs23 v24, ((kz_up (kz_up (kz_up M5 v9 (.inl (1, fs10.set 1 (.int 0)))) a0 (.inl (10, fs15.set 8 (.int v14)))) a0 (.inl (10, fs20.set 9 (.int v19))))).1 a0 = some (.inl (10, fs23)) ∧ fs23[5]? = some (.ref v24) ∧ (∃ fs25 v26, ((kz_up (kz_up (kz_up M5 v9 (.inl (1, fs10.set 1 (.int 0)))) a0 (.inl (10, fs15.set 8 (.int v14)))) a0 (.inl (10, fs20.set 9 (.int v19))))).1 v24 = some (.inl (7, fs25)) ∧ fs25[0]? = some (.ref v26) ∧ ((∃ fs41, ((kz_up (kz_up (kz_up M5 v9 (.inl (1, fs10.set 1 (.int 0)))) a0 (.inl (10, fs15.set 8 (.int v14)))) a0 (.inl (10, fs20.set 9 (.int v19))))).1 v22 = some (.inl (8, fs41))) ∧ kz_C G (d + 8) 0 0 mX9_takeOver [.ref v22, .ref v26] (kz_up (kz_up (kz_up M5 v9 (.inl (1, fs10.set 1 (.int 0)))) a0 (.inl (10, fs15.set 8 (.int v14)))) a0 (.inl (10, fs20.set 9 (.int v19)))) (fun v M27 => v = none ∧ (∃ fs30 v31, (M27).1 a0 = some (.inl (10, fs30)) ∧ fs30[4]? = some (.ref v31) ∧ ((∃ fs40, (M27).1 v31 = some (.inl (0, fs40))) ∧ kz_C G (d + 8) 0 0 mX0_forget [.ref v31] M27 (fun v M32 => v = none ∧ (∃ fs35, (M32).1 a0 = some (.inl (10, fs35)) ∧ 7 < fs35.length ∧ (∃ fs36 v37, ((kz_up M32 a0 (.inl (10, fs35.set 7 (.int 0))))).1 a0 = some (.inl (10, fs36)) ∧ fs36[2]? = some (.ref v37) ∧ (∃ fs38 v39, ((kz_up M32 a0 (.inl (10, fs35.set 7 (.int 0))))).1 v37 = some (.inl (8, fs38)) ∧ fs38[2]? = some (.int v39) ∧ (Qr (some (.int v39)) (kz_up M32 a0 (.inl (10, fs35.set 7 (.int 0))))))))) Qx))) Qx)))) ∧ (r6 = 0 → Qr (some (.int ((-1)))) (kz_up (kz_up (kz_up M5 v9 (.inl (1, fs10.set 1 (.int 0)))) a0 (.inl (10, fs15.set 8 (.int v14)))) a0 (.inl (10, fs20.set 9 (.int v19))))))))))))))) Qx))) : kz_C G (d + 9) 0 0 mX11_loadOffice [.ref a0] M Qr Qx := by
  refine kz_enter (n := 0) kmX11_loadOffice.1 (Nat.le_of_ble_eq_true rfl) (ls := [(0, .ref a0)]) rfl ?_
  refine kz_aload_n (pc := 0) 0 (v := .ref a0) (i := 0) rfl rfl rfl dX11_loadOffice_0 ?_
  obtain ⟨fs1, v2, hM, hv, h⟩ := h
  refine kz_getf (pc := 1) (k := 5) kcX11 hM hv (by decide) kw_280 dX11_loadOffice_1 ?_
  refine kz_aload_n (pc := 4) 0 (v := .ref a0) (i := 0) rfl rfl rfl dX11_loadOffice_4 ?_
  obtain ⟨fs3, v4, hM, hv, h⟩ := h
  refine kz_getf (pc := 5) (k := 0) kcX11 hM hv (by decide) kw_275 dX11_loadOffice_5 ?_
  obtain ⟨⟨fs42, he⟩, h⟩ := h
  refine kz_callV (pc := 8) (μ' := mX8_read) (ci := 7) (q := (RX8, TX8, 9)) (b := v2) (d' := d + 8) (mc' := 0) (ms' := 0) (As := [.ref v4]) (st := []) (c := 0) (sl := 0) kmX8_read kw_330 (by omega) rfl (Nat.le_of_ble_eq_true rfl) he rfl rfl (Nat.le_refl _) (Nat.le_refl _) dX11_loadOffice_8 (fun E M9 hx => kz_Tout rfl (Nat.le_refl _) (Nat.le_refl _) hx) (kz_Cmono (fun v M5 h => ?_) (fun _ _ h => h) h)
  obtain ⟨r6, rfl, h⟩ := h
  show kz_Z G (d + 9) 0 0 mX11_loadOffice Qr Qx 11 [(0, .ref a0)] [.int r6] M5 0 0
  refine kz_istore_n (pc := 11) (i := 1) (ls' := [(0, .ref a0)]) rfl (by decide) rfl dX11_loadOffice_11 ?_
  refine kz_aload_n (pc := 12) 1 (v := .ref a0) (i := 0) rfl rfl rfl dX11_loadOffice_12 ?_
  obtain ⟨fs8, v9, hM, hv, h⟩ := h
  refine kz_getf (pc := 13) (k := 0) kcX11 hM hv (by decide) kw_275 dX11_loadOffice_13 ?_
  refine kz_iconst (pc := 16) (v := 0) (by decide) dX11_loadOffice_16 ?_
  obtain ⟨fs10, hM, hlen, h⟩ := h
  refine kz_putf (pc := 17) (k := 1) kcX1 hM (by decide) hlen kw_45 rfl rfl rfl dX11_loadOffice_17 ?_
  refine kz_aload_n (pc := 20) 1 (v := .ref a0) (i := 0) rfl rfl rfl dX11_loadOffice_20 ?_
  refine kz_aload_n (pc := 21) 1 (v := .ref a0) (i := 0) rfl rfl rfl dX11_loadOffice_21 ?_
  obtain ⟨fs11, v12, hM, hv, h⟩ := h
  refine kz_getf (pc := 22) (k := 5) kcX11 hM hv (by decide) kw_280 dX11_loadOffice_22 ?_
  obtain ⟨fs13, v14, hM, hv, h⟩ := h
  refine kz_getf (pc := 25) (k := 7) kcX8 hM hv (by decide) kw_178 dX11_loadOffice_25 ?_
  obtain ⟨fs15, hM, hlen, h⟩ := h
  refine kz_putf (pc := 28) (k := 8) kcX11 hM (by decide) hlen kw_283 rfl rfl rfl dX11_loadOffice_28 ?_
  refine kz_aload_n (pc := 31) 1 (v := .ref a0) (i := 0) rfl rfl rfl dX11_loadOffice_31 ?_
  refine kz_aload_n (pc := 32) 1 (v := .ref a0) (i := 0) rfl rfl rfl dX11_loadOffice_32 ?_
  obtain ⟨fs16, v17, hM, hv, h⟩ := h
  refine kz_getf (pc := 33) (k := 5) kcX11 hM hv (by decide) kw_280 dX11_loadOffice_33 ?_
  obtain ⟨fs18, v19, hM, hv, h⟩ := h
  refine kz_getf (pc := 36) (k := 8) kcX8 hM hv (by decide) kw_180 dX11_loadOffice_36 ?_
  obtain ⟨fs20, hM, hlen, h⟩ := h
  refine kz_putf (pc := 39) (k := 9) kcX11 hM (by decide) hlen kw_284 rfl rfl rfl dX11_loadOffice_39 ?_
  refine kz_iload_n (pc := 42) 0 (i := 1) rfl rfl dX11_loadOffice_42 ?_
  refine kz_if_ne (pc := 43) (tgt := 48) (by decide) dX11_loadOffice_43 (fun hb => ?_) (fun hb => ?_)
  · replace h := h.1 hb
    refine kz_aload_n (pc := 48) 1 (v := .ref a0) (i := 0) rfl rfl rfl dX11_loadOffice_48 ?_
    obtain ⟨fs21, v22, hM, hv, h⟩ := h
    refine kz_getf (pc := 49) (k := 2) kcX11 hM hv (by decide) kw_277 dX11_loadOffice_49 ?_
    refine kz_aload_n (pc := 52) 1 (v := .ref a0) (i := 0) rfl rfl rfl dX11_loadOffice_52 ?_
    obtain ⟨fs23, v24, hM, hv, h⟩ := h
    refine kz_getf (pc := 53) (k := 5) kcX11 hM hv (by decide) kw_280 dX11_loadOffice_53 ?_
    obtain ⟨fs25, v26, hM, hv, h⟩ := h
    refine kz_getf (pc := 56) (k := 0) kcX8 hM hv (by decide) kw_170 dX11_loadOffice_56 ?_
    obtain ⟨⟨fs41, he⟩, h⟩ := h
    refine kz_callV (pc := 59) (μ' := mX9_takeOver) (ci := 8) (q := (RX9, TX9, 10)) (b := v22) (d' := d + 8) (mc' := 0) (ms' := 0) (As := [.ref v26]) (st := []) (c := 0) (sl := 0) kmX9_takeOver kw_416 (by omega) rfl (Nat.le_of_ble_eq_true rfl) he rfl rfl (Nat.le_refl _) (Nat.le_refl _) dX11_loadOffice_59 (fun E M9 hx => kz_Tout rfl (Nat.le_refl _) (Nat.le_refl _) hx) (kz_Cmono (fun v M27 h => ?_) (fun _ _ h => h) h)
    obtain ⟨rfl, h⟩ := h
    show kz_Z G (d + 9) 0 0 mX11_loadOffice Qr Qx 62 [(1, .int r6), (0, .ref a0)] [] M27 0 0
    refine kz_aload_n (pc := 62) 1 (v := .ref a0) (i := 0) rfl rfl rfl dX11_loadOffice_62 ?_
    obtain ⟨fs30, v31, hM, hv, h⟩ := h
    refine kz_getf (pc := 63) (k := 4) kcX11 hM hv (by decide) kw_279 dX11_loadOffice_63 ?_
    obtain ⟨⟨fs40, he⟩, h⟩ := h
    refine kz_callV (pc := 66) (μ' := mX0_forget) (ci := 0) (q := (RX0, TX0, 3)) (b := v31) (d' := d + 8) (mc' := 0) (ms' := 0) (As := []) (st := []) (c := 0) (sl := 0) kmX0_forget kw_428 (by omega) rfl (Nat.le_of_ble_eq_true rfl) he rfl rfl (Nat.le_refl _) (Nat.le_refl _) dX11_loadOffice_66 (fun E M9 hx => kz_Tout rfl (Nat.le_refl _) (Nat.le_refl _) hx) (kz_Cmono (fun v M32 h => ?_) (fun _ _ h => h) h)
    obtain ⟨rfl, h⟩ := h
    show kz_Z G (d + 9) 0 0 mX11_loadOffice Qr Qx 69 [(1, .int r6), (0, .ref a0)] [] M32 0 0
    refine kz_aload_n (pc := 69) 1 (v := .ref a0) (i := 0) rfl rfl rfl dX11_loadOffice_69 ?_
    refine kz_iconst (pc := 70) (v := 0) (by decide) dX11_loadOffice_70 ?_
    obtain ⟨fs35, hM, hlen, h⟩ := h
    refine kz_putf (pc := 71) (k := 7) kcX11 hM (by decide) hlen kw_282 rfl rfl rfl dX11_loadOffice_71 ?_
    refine kz_aload_n (pc := 74) 1 (v := .ref a0) (i := 0) rfl rfl rfl dX11_loadOffice_74 ?_
    obtain ⟨fs36, v37, hM, hv, h⟩ := h
    refine kz_getf (pc := 75) (k := 2) kcX11 hM hv (by decide) kw_277 dX11_loadOffice_75 ?_
    obtain ⟨fs38, v39, hM, hv, h⟩ := h
    refine kz_getf (pc := 78) (k := 2) kcX9 hM hv (by decide) kw_107 dX11_loadOffice_78 ?_
    exact kz_iret (pc := 81) rfl (Nat.le_refl _) (Nat.le_refl _) dX11_loadOffice_81 h
  · replace h := h.2 hb
    refine kz_iconst (pc := 46) (v := (-1)) (by decide) dX11_loadOffice_46 ?_
    exact kz_iret (pc := 47) rfl (Nat.le_refl _) (Nat.le_refl _) dX11_loadOffice_47 h
theorem dX11_errorCode_0 : decode cX11_errorCode 0 = .ok (.aload_n 0, 1) := by decide +kernel
theorem dX11_errorCode_1 : decode cX11_errorCode 1 = .ok (.getfield 58, 3) := by decide +kernel
theorem dX11_errorCode_4 : decode cX11_errorCode 4 = .ok (.ireturn, 1) := by decide +kernel
theorem rX11_errorCode_0 {G : kz_G} {d : Nat} {Qr : Option Value → kz_M → Prop} {Qx : String → kz_M → Prop} {a0 : Nat}  {M : kz_M} (h : ∃ fs1 v2, (M).1 a0 = some (.inl (10, fs1)) ∧ fs1[8]? = some (.int v2) ∧ (Qr (some (.int v2)) M)) : kz_C G d 0 0 mX11_errorCode [.ref a0] M Qr Qx := by
  refine kz_enter (n := 0) kmX11_errorCode.1 (Nat.le_of_ble_eq_true rfl) (ls := [(0, .ref a0)]) rfl ?_
  refine kz_aload_n (pc := 0) 0 (v := .ref a0) (i := 0) rfl rfl rfl dX11_errorCode_0 ?_
  obtain ⟨fs1, v2, hM, hv, h⟩ := h
  refine kz_getf (pc := 1) (k := 8) kcX11 hM hv (by decide) kw_283 dX11_errorCode_1 ?_
  exact kz_iret (pc := 4) rfl (Nat.le_refl _) (Nat.le_refl _) dX11_errorCode_4 h
theorem dX11_errorOffset_0 : decode cX11_errorOffset 0 = .ok (.aload_n 0, 1) := by decide +kernel
theorem dX11_errorOffset_1 : decode cX11_errorOffset 1 = .ok (.getfield 62, 3) := by decide +kernel
theorem dX11_errorOffset_4 : decode cX11_errorOffset 4 = .ok (.ireturn, 1) := by decide +kernel
theorem rX11_errorOffset_0 {G : kz_G} {d : Nat} {Qr : Option Value → kz_M → Prop} {Qx : String → kz_M → Prop} {a0 : Nat}  {M : kz_M} (h : ∃ fs1 v2, (M).1 a0 = some (.inl (10, fs1)) ∧ fs1[9]? = some (.int v2) ∧ (Qr (some (.int v2)) M)) : kz_C G d 0 0 mX11_errorOffset [.ref a0] M Qr Qx := by
  refine kz_enter (n := 0) kmX11_errorOffset.1 (Nat.le_of_ble_eq_true rfl) (ls := [(0, .ref a0)]) rfl ?_
  refine kz_aload_n (pc := 0) 0 (v := .ref a0) (i := 0) rfl rfl rfl dX11_errorOffset_0 ?_
  obtain ⟨fs1, v2, hM, hv, h⟩ := h
  refine kz_getf (pc := 1) (k := 9) kcX11 hM hv (by decide) kw_284 dX11_errorOffset_1 ?_
  exact kz_iret (pc := 4) rfl (Nat.le_refl _) (Nat.le_refl _) dX11_errorOffset_4 h
theorem dX11_count_0 : decode cX11_count 0 = .ok (.iload_n 1, 1) := by decide +kernel
theorem dX11_count_1 : decode cX11_count 1 = .ok (.tableswitch 130 0 8 #[51, 59, 67, 77, 87, 95, 103, 114, 122], 51) := by decide +kernel
theorem dX11_count_52 : decode cX11_count 52 = .ok (.aload_n 0, 1) := by decide +kernel
theorem dX11_count_53 : decode cX11_count 53 = .ok (.getfield 26, 3) := by decide +kernel
theorem dX11_count_56 : decode cX11_count 56 = .ok (.getfield 102, 3) := by decide +kernel
theorem dX11_count_59 : decode cX11_count 59 = .ok (.ireturn, 1) := by decide +kernel
theorem dX11_count_60 : decode cX11_count 60 = .ok (.aload_n 0, 1) := by decide +kernel
theorem dX11_count_61 : decode cX11_count 61 = .ok (.getfield 26, 3) := by decide +kernel
theorem dX11_count_64 : decode cX11_count 64 = .ok (.getfield 105, 3) := by decide +kernel
theorem dX11_count_67 : decode cX11_count 67 = .ok (.ireturn, 1) := by decide +kernel
theorem dX11_count_68 : decode cX11_count 68 = .ok (.aload_n 0, 1) := by decide +kernel
theorem dX11_count_69 : decode cX11_count 69 = .ok (.getfield 26, 3) := by decide +kernel
theorem dX11_count_72 : decode cX11_count 72 = .ok (.iconst (-1), 1) := by decide +kernel
theorem dX11_count_73 : decode cX11_count 73 = .ok (.iconst 0, 1) := by decide +kernel
theorem dX11_count_74 : decode cX11_count 74 = .ok (.invokevirtual 110, 3) := by decide +kernel
theorem dX11_count_77 : decode cX11_count 77 = .ok (.ireturn, 1) := by decide +kernel
theorem dX11_count_78 : decode cX11_count 78 = .ok (.aload_n 0, 1) := by decide +kernel
theorem dX11_count_79 : decode cX11_count 79 = .ok (.getfield 26, 3) := by decide +kernel
theorem dX11_count_82 : decode cX11_count 82 = .ok (.iconst (-1), 1) := by decide +kernel
theorem dX11_count_83 : decode cX11_count 83 = .ok (.iconst 1, 1) := by decide +kernel
theorem dX11_count_84 : decode cX11_count 84 = .ok (.invokevirtual 110, 3) := by decide +kernel
theorem dX11_count_87 : decode cX11_count 87 = .ok (.ireturn, 1) := by decide +kernel
theorem dX11_count_88 : decode cX11_count 88 = .ok (.aload_n 0, 1) := by decide +kernel
theorem dX11_count_89 : decode cX11_count 89 = .ok (.getfield 26, 3) := by decide +kernel
theorem dX11_count_92 : decode cX11_count 92 = .ok (.getfield 114, 3) := by decide +kernel
theorem dX11_count_95 : decode cX11_count 95 = .ok (.ireturn, 1) := by decide +kernel
theorem dX11_count_96 : decode cX11_count 96 = .ok (.aload_n 0, 1) := by decide +kernel
theorem dX11_count_97 : decode cX11_count 97 = .ok (.getfield 26, 3) := by decide +kernel
theorem dX11_count_100 : decode cX11_count 100 = .ok (.getfield 117, 3) := by decide +kernel
theorem dX11_count_103 : decode cX11_count 103 = .ok (.ireturn, 1) := by decide +kernel
theorem dX11_count_104 : decode cX11_count 104 = .ok (.aload_n 0, 1) := by decide +kernel
theorem dX11_count_105 : decode cX11_count 105 = .ok (.getfield 26, 3) := by decide +kernel
theorem dX11_count_108 : decode cX11_count 108 = .ok (.getfield 120, 3) := by decide +kernel
theorem dX11_count_111 : decode cX11_count 111 = .ok (.getfield 124, 3) := by decide +kernel
theorem dX11_count_114 : decode cX11_count 114 = .ok (.ireturn, 1) := by decide +kernel
theorem dX11_count_115 : decode cX11_count 115 = .ok (.aload_n 0, 1) := by decide +kernel
theorem dX11_count_116 : decode cX11_count 116 = .ok (.getfield 26, 3) := by decide +kernel
theorem dX11_count_119 : decode cX11_count 119 = .ok (.invokevirtual 129, 3) := by decide +kernel
theorem dX11_count_122 : decode cX11_count 122 = .ok (.ireturn, 1) := by decide +kernel
theorem dX11_count_123 : decode cX11_count 123 = .ok (.aload_n 0, 1) := by decide +kernel
theorem dX11_count_124 : decode cX11_count 124 = .ok (.getfield 36, 3) := by decide +kernel
theorem dX11_count_127 : decode cX11_count 127 = .ok (.getfield 133, 3) := by decide +kernel
theorem dX11_count_130 : decode cX11_count 130 = .ok (.ireturn, 1) := by decide +kernel
theorem dX11_count_131 : decode cX11_count 131 = .ok (.new 134, 3) := by decide +kernel
theorem dX11_count_134 : decode cX11_count 134 = .ok (.dup, 1) := by decide +kernel
theorem dX11_count_135 : decode cX11_count 135 = .ok (.ldc 136, 2) := by decide +kernel
theorem dX11_count_137 : decode cX11_count 137 = .ok (.invokespecial 138, 3) := by decide +kernel
theorem dX11_count_140 : decode cX11_count 140 = .ok (.athrow, 1) := by decide +kernel
theorem rX11_count_0 {G : kz_G} {d : Nat} {mc ms : Nat} {Qr : Option Value → kz_M → Prop} {Qx : String → kz_M → Prop} {a0 : Nat} {p1 : Int32}  {M : kz_M} (hG : kz_stat G) (h : (p1 = 0 → ∃ fs1 v2, (M).1 a0 = some (.inl (10, fs1)) ∧ fs1[2]? = some (.ref v2) ∧ (∃ fs3 v4, (M).1 v2 = some (.inl (8, fs3)) ∧ fs3[2]? = some (.int v4) ∧ (Qr (some (.int v4)) M))) ∧ (p1 = 1 → ∃ fs5 v6, (M).1 a0 = some (.inl (10, fs5)) ∧ fs5[2]? = some (.ref v6) ∧ (∃ fs7 v8, (M).1 v6 = some (.inl (8, fs7)) ∧ fs7[3]? = some (.int v8) ∧ (Qr (some (.int v8)) M))) ∧ (p1 = 2 → ∃ fs9 v10, (M).1 a0 = some (.inl (10, fs9)) ∧ fs9[2]? = some (.ref v10) ∧ ((∃ fs14, (M).1 v10 = some (.inl (8, fs14))) ∧ kz_C G (d + 6) 0 0 mX9_linesOf [.ref v10, .int ((-1)), .int 0] M (fun v M11 => ∃ r12 : Int32, v = some (.int r12) ∧ (Qr (some (.int r12)) M11)) Qx)) ∧ (p1 = 3 → ∃ fs15 v16, (M).1 a0 = some (.inl (10, fs15)) ∧ fs15[2]? = some (.ref v16) ∧ ((∃ fs20, (M).1 v16 = some (.inl (8, fs20))) ∧ kz_C G (d + 6) 0 0 mX9_linesOf [.ref v16, .int ((-1)), .int 1] M (fun v M17 => ∃ r18 : Int32, v = some (.int r18) ∧ (Qr (some (.int r18)) M17)) Qx)) ∧ (p1 = 4 → ∃ fs21 v22, (M).1 a0 = some (.inl (10, fs21)) ∧ fs21[2]? = some (.ref v22) ∧ (∃ fs23 v24, (M).1 v22 = some (.inl (8, fs23)) ∧ fs23[0]? = some (.int v24) ∧ (Qr (some (.int v24)) M))) ∧ (p1 = 5 → ∃ fs25 v26, (M).1 a0 = some (.inl (10, fs25)) ∧ fs25[2]? = some (.ref v26) ∧ (∃ fs27 v28, (M).1 v26 = some (.inl (8, fs27)) ∧ fs27[1]? = some (.int v28) ∧ (Qr (some (.int v28)) M))) ∧ (p1 = 6 → ∃ fs29 v30, (M).1 a0 = some (.inl (10, fs29)) ∧ fs29[2]? = some (.ref v30) ∧ (∃ fs31 v32, (M).1 v30 = some (.inl (8, fs31)) ∧ fs31[9]? = some (.ref v32) ∧ (∃ fs33 v34, (M).1 v32 = some (.inl (2, fs33)) ∧ fs33[1]? = some (.int v34) ∧ (Qr (some (.int v34)) M)))) ∧ (p1 = 7 → ∃ fs35 v36, (M).1 a0 = some (.inl (10, fs35)) ∧ fs35[2]? = some (.ref v36) ∧ ((∃ fs40, (M).1 v36 = some (.inl (8, fs40))) ∧ kz_C G (d + 6) 0 0 mX9_owed [.ref v36] M (fun v M37 => ∃ r38 : Int32, v = some (.int r38) ∧ (Qr (some (.int r38)) M37)) Qx)) ∧ (p1 = 8 → ∃ fs41 v42, (M).1 a0 = some (.inl (10, fs41)) ∧ fs41[4]? = some (.ref v42) ∧ (∃ fs43 v44, (M).1 v42 = some (.inl (0, fs43)) ∧ fs43[2]? = some (.int v44) ∧ (Qr (some (.int v44)) M))) ∧ (¬ p1 = 0 → ¬ p1 = 1 → ¬ p1 = 2 → ¬ p1 = 3 → ¬ p1 = 4 → ¬ p1 = 5 → ¬ p1 = 6 → ¬ p1 = 7 → ¬ p1 = 8 → 0 + 1 ≤ mc ∧ 0 + 6 ≤ ms ∧ ∀ g45, Qx "java/lang/IllegalArgumentException" ((M).1, (M).2 + g45))) : kz_C G (d + 7) mc ms mX11_count [.ref a0, .int p1] M Qr Qx := by
  refine kz_enter (n := 1) kmX11_count.1 (Nat.le_of_ble_eq_true rfl) (ls := [(0, .ref a0), (1, .int p1)]) rfl ?_
  refine kz_iload_n (pc := 0) 1 (i := 1) rfl rfl dX11_count_0 ?_
  by_cases hk0 : p1 = 0
  · replace h := h.1 hk0
    refine kz_tableIn (pc := 1) (off := 51) (tgt := 52) (by rw [hk0]; decide) (by rw [hk0]; decide) (by rw [hk0]; decide) (by decide) dX11_count_1 ?_
    refine kz_aload_n (pc := 52) 0 (v := .ref a0) (i := 0) rfl rfl rfl dX11_count_52 ?_
    obtain ⟨fs1, v2, hM, hv, h⟩ := h
    refine kz_getf (pc := 53) (k := 2) kcX11 hM hv (by decide) kw_277 dX11_count_53 ?_
    obtain ⟨fs3, v4, hM, hv, h⟩ := h
    refine kz_getf (pc := 56) (k := 2) kcX9 hM hv (by decide) kw_107 dX11_count_56 ?_
    exact kz_iret (pc := 59) rfl (Nat.zero_le _) (Nat.zero_le _) dX11_count_59 h
  by_cases hk1 : p1 = 1
  · replace h := h.2.1 hk1
    refine kz_tableIn (pc := 1) (off := 59) (tgt := 60) (by rw [hk1]; decide) (by rw [hk1]; decide) (by rw [hk1]; decide) (by decide) dX11_count_1 ?_
    refine kz_aload_n (pc := 60) 0 (v := .ref a0) (i := 0) rfl rfl rfl dX11_count_60 ?_
    obtain ⟨fs5, v6, hM, hv, h⟩ := h
    refine kz_getf (pc := 61) (k := 2) kcX11 hM hv (by decide) kw_277 dX11_count_61 ?_
    obtain ⟨fs7, v8, hM, hv, h⟩ := h
    refine kz_getf (pc := 64) (k := 3) kcX9 hM hv (by decide) kw_109 dX11_count_64 ?_
    exact kz_iret (pc := 67) rfl (Nat.zero_le _) (Nat.zero_le _) dX11_count_67 h
  by_cases hk2 : p1 = 2
  · replace h := h.2.2.1 hk2
    refine kz_tableIn (pc := 1) (off := 67) (tgt := 68) (by rw [hk2]; decide) (by rw [hk2]; decide) (by rw [hk2]; decide) (by decide) dX11_count_1 ?_
    refine kz_aload_n (pc := 68) 0 (v := .ref a0) (i := 0) rfl rfl rfl dX11_count_68 ?_
    obtain ⟨fs9, v10, hM, hv, h⟩ := h
    refine kz_getf (pc := 69) (k := 2) kcX11 hM hv (by decide) kw_277 dX11_count_69 ?_
    refine kz_iconst (pc := 72) (v := (-1)) (by decide) dX11_count_72 ?_
    refine kz_iconst (pc := 73) (v := 0) (by decide) dX11_count_73 ?_
    obtain ⟨⟨fs14, he⟩, h⟩ := h
    refine kz_callV (pc := 74) (μ' := mX9_linesOf) (ci := 8) (q := (RX9, TX9, 10)) (b := v10) (d' := d + 6) (mc' := 0) (ms' := 0) (As := [.int ((-1)), .int 0]) (st := []) (c := 0) (sl := 0) kmX9_linesOf kw_521 (by omega) rfl (Nat.le_of_ble_eq_true rfl) he rfl rfl (Nat.zero_le _) (Nat.zero_le _) dX11_count_74 (fun E M9 hx => kz_Tout rfl (Nat.zero_le _) (Nat.zero_le _) hx) (kz_Cmono (fun v M11 h => ?_) (fun _ _ h => h) h)
    obtain ⟨r12, rfl, h⟩ := h
    show kz_Z G (d + 7) mc ms mX11_count Qr Qx 77 [(0, .ref a0), (1, .int p1)] [.int r12] M11 0 0
    exact kz_iret (pc := 77) rfl (Nat.zero_le _) (Nat.zero_le _) dX11_count_77 h
  by_cases hk3 : p1 = 3
  · replace h := h.2.2.2.1 hk3
    refine kz_tableIn (pc := 1) (off := 77) (tgt := 78) (by rw [hk3]; decide) (by rw [hk3]; decide) (by rw [hk3]; decide) (by decide) dX11_count_1 ?_
    refine kz_aload_n (pc := 78) 0 (v := .ref a0) (i := 0) rfl rfl rfl dX11_count_78 ?_
    obtain ⟨fs15, v16, hM, hv, h⟩ := h
    refine kz_getf (pc := 79) (k := 2) kcX11 hM hv (by decide) kw_277 dX11_count_79 ?_
    refine kz_iconst (pc := 82) (v := (-1)) (by decide) dX11_count_82 ?_
    refine kz_iconst (pc := 83) (v := 1) (by decide) dX11_count_83 ?_
    obtain ⟨⟨fs20, he⟩, h⟩ := h
    refine kz_callV (pc := 84) (μ' := mX9_linesOf) (ci := 8) (q := (RX9, TX9, 10)) (b := v16) (d' := d + 6) (mc' := 0) (ms' := 0) (As := [.int ((-1)), .int 1]) (st := []) (c := 0) (sl := 0) kmX9_linesOf kw_521 (by omega) rfl (Nat.le_of_ble_eq_true rfl) he rfl rfl (Nat.zero_le _) (Nat.zero_le _) dX11_count_84 (fun E M9 hx => kz_Tout rfl (Nat.zero_le _) (Nat.zero_le _) hx) (kz_Cmono (fun v M17 h => ?_) (fun _ _ h => h) h)
    obtain ⟨r18, rfl, h⟩ := h
    show kz_Z G (d + 7) mc ms mX11_count Qr Qx 87 [(0, .ref a0), (1, .int p1)] [.int r18] M17 0 0
    exact kz_iret (pc := 87) rfl (Nat.zero_le _) (Nat.zero_le _) dX11_count_87 h
  by_cases hk4 : p1 = 4
  · replace h := h.2.2.2.2.1 hk4
    refine kz_tableIn (pc := 1) (off := 87) (tgt := 88) (by rw [hk4]; decide) (by rw [hk4]; decide) (by rw [hk4]; decide) (by decide) dX11_count_1 ?_
    refine kz_aload_n (pc := 88) 0 (v := .ref a0) (i := 0) rfl rfl rfl dX11_count_88 ?_
    obtain ⟨fs21, v22, hM, hv, h⟩ := h
    refine kz_getf (pc := 89) (k := 2) kcX11 hM hv (by decide) kw_277 dX11_count_89 ?_
    obtain ⟨fs23, v24, hM, hv, h⟩ := h
    refine kz_getf (pc := 92) (k := 0) kcX9 hM hv (by decide) kw_101 dX11_count_92 ?_
    exact kz_iret (pc := 95) rfl (Nat.zero_le _) (Nat.zero_le _) dX11_count_95 h
  by_cases hk5 : p1 = 5
  · replace h := h.2.2.2.2.2.1 hk5
    refine kz_tableIn (pc := 1) (off := 95) (tgt := 96) (by rw [hk5]; decide) (by rw [hk5]; decide) (by rw [hk5]; decide) (by decide) dX11_count_1 ?_
    refine kz_aload_n (pc := 96) 0 (v := .ref a0) (i := 0) rfl rfl rfl dX11_count_96 ?_
    obtain ⟨fs25, v26, hM, hv, h⟩ := h
    refine kz_getf (pc := 97) (k := 2) kcX11 hM hv (by decide) kw_277 dX11_count_97 ?_
    obtain ⟨fs27, v28, hM, hv, h⟩ := h
    refine kz_getf (pc := 100) (k := 1) kcX9 hM hv (by decide) kw_104 dX11_count_100 ?_
    exact kz_iret (pc := 103) rfl (Nat.zero_le _) (Nat.zero_le _) dX11_count_103 h
  by_cases hk6 : p1 = 6
  · replace h := h.2.2.2.2.2.2.1 hk6
    refine kz_tableIn (pc := 1) (off := 103) (tgt := 104) (by rw [hk6]; decide) (by rw [hk6]; decide) (by rw [hk6]; decide) (by decide) dX11_count_1 ?_
    refine kz_aload_n (pc := 104) 0 (v := .ref a0) (i := 0) rfl rfl rfl dX11_count_104 ?_
    obtain ⟨fs29, v30, hM, hv, h⟩ := h
    refine kz_getf (pc := 105) (k := 2) kcX11 hM hv (by decide) kw_277 dX11_count_105 ?_
    obtain ⟨fs31, v32, hM, hv, h⟩ := h
    refine kz_getf (pc := 108) (k := 9) kcX9 hM hv (by decide) kw_118 dX11_count_108 ?_
    obtain ⟨fs33, v34, hM, hv, h⟩ := h
    refine kz_getf (pc := 111) (k := 1) kcX2 hM hv (by decide) kw_85 dX11_count_111 ?_
    exact kz_iret (pc := 114) rfl (Nat.zero_le _) (Nat.zero_le _) dX11_count_114 h
  by_cases hk7 : p1 = 7
  · replace h := h.2.2.2.2.2.2.2.1 hk7
    refine kz_tableIn (pc := 1) (off := 114) (tgt := 115) (by rw [hk7]; decide) (by rw [hk7]; decide) (by rw [hk7]; decide) (by decide) dX11_count_1 ?_
    refine kz_aload_n (pc := 115) 0 (v := .ref a0) (i := 0) rfl rfl rfl dX11_count_115 ?_
    obtain ⟨fs35, v36, hM, hv, h⟩ := h
    refine kz_getf (pc := 116) (k := 2) kcX11 hM hv (by decide) kw_277 dX11_count_116 ?_
    obtain ⟨⟨fs40, he⟩, h⟩ := h
    refine kz_callV (pc := 119) (μ' := mX9_owed) (ci := 8) (q := (RX9, TX9, 10)) (b := v36) (d' := d + 6) (mc' := 0) (ms' := 0) (As := []) (st := []) (c := 0) (sl := 0) kmX9_owed kw_541 (by omega) rfl (Nat.le_of_ble_eq_true rfl) he rfl rfl (Nat.zero_le _) (Nat.zero_le _) dX11_count_119 (fun E M9 hx => kz_Tout rfl (Nat.zero_le _) (Nat.zero_le _) hx) (kz_Cmono (fun v M37 h => ?_) (fun _ _ h => h) h)
    obtain ⟨r38, rfl, h⟩ := h
    show kz_Z G (d + 7) mc ms mX11_count Qr Qx 122 [(0, .ref a0), (1, .int p1)] [.int r38] M37 0 0
    exact kz_iret (pc := 122) rfl (Nat.zero_le _) (Nat.zero_le _) dX11_count_122 h
  by_cases hk8 : p1 = 8
  · replace h := h.2.2.2.2.2.2.2.2.1 hk8
    refine kz_tableIn (pc := 1) (off := 122) (tgt := 123) (by rw [hk8]; decide) (by rw [hk8]; decide) (by rw [hk8]; decide) (by decide) dX11_count_1 ?_
    refine kz_aload_n (pc := 123) 0 (v := .ref a0) (i := 0) rfl rfl rfl dX11_count_123 ?_
    obtain ⟨fs41, v42, hM, hv, h⟩ := h
    refine kz_getf (pc := 124) (k := 4) kcX11 hM hv (by decide) kw_279 dX11_count_124 ?_
    obtain ⟨fs43, v44, hM, hv, h⟩ := h
    refine kz_getf (pc := 127) (k := 2) kcX0 hM hv (by decide) kw_152 dX11_count_127 ?_
    exact kz_iret (pc := 130) rfl (Nat.zero_le _) (Nat.zero_le _) dX11_count_130 h
  replace h := h.2.2.2.2.2.2.2.2.2 hk0 hk1 hk2 hk3 hk4 hk5 hk6 hk7 hk8
  refine kz_tableOut (pc := 1) (tgt := 131) (kz_swout (lo := 0) (n := 9) (by decide) (by decide) (kz_all9 (kz_swne (by decide) hk0) (kz_swne (by decide) hk1) (kz_swne (by decide) hk2) (kz_swne (by decide) hk3) (kz_swne (by decide) hk4) (kz_swne (by decide) hk5) (kz_swne (by decide) hk6) (kz_swne (by decide) hk7) (kz_swne (by decide) hk8))) (by decide) dX11_count_1 ?_
  exact kz_throwS (pc := 131) (ik := 134) (is := 136) (ic := 138) (j := 1001) (text := "no such number of the whole") hG.1 hG.2.1 hG.2.2.1 (by decide +kernel) kz_xn kw_549 kw_19 (List.mem_of_getElem? (i := 1) rfl) kz_xw_IllegalArgumentException kz_xg_IllegalArgumentException rfl (by show 2 + 3 < _; omega) (by decide) (Nat.le_of_ble_eq_true rfl) h.1 h.2.1 dX11_count_131 dX11_count_134 dX11_count_135 dX11_count_137 dX11_count_140 h.2.2
theorem dX11_setting_0 : decode cX11_setting 0 = .ok (.aload_n 0, 1) := by decide +kernel
theorem dX11_setting_1 : decode cX11_setting 1 = .ok (.iload_n 1, 1) := by decide +kernel
theorem dX11_setting_2 : decode cX11_setting 2 = .ok (.invokevirtual 141, 3) := by decide +kernel
theorem dX11_setting_5 : decode cX11_setting 5 = .ok (.aload_n 0, 1) := by decide +kernel
theorem dX11_setting_6 : decode cX11_setting 6 = .ok (.getfield 26, 3) := by decide +kernel
theorem dX11_setting_9 : decode cX11_setting 9 = .ok (.iload_n 1, 1) := by decide +kernel
theorem dX11_setting_10 : decode cX11_setting 10 = .ok (.invokevirtual 144, 3) := by decide +kernel
theorem dX11_setting_13 : decode cX11_setting 13 = .ok (.ireturn, 1) := by decide +kernel
theorem rX11_setting_0 {G : kz_G} {d : Nat} {mc ms : Nat} {Qr : Option Value → kz_M → Prop} {Qx : String → kz_M → Prop} {a0 : Nat} {p1 : Int32}  {M : kz_M} (h : (∃ fs10, (M).1 a0 = some (.inl (10, fs10))) ∧ ∃ mc3 ms3, 0 + mc3 ≤ mc ∧ 0 + ms3 ≤ ms ∧ kz_C G (d + 7) mc3 ms3 mX11_checkSetting [.ref a0, .int p1] M (fun v M1 => v = none ∧ (∃ fs4 v5, (M1).1 a0 = some (.inl (10, fs4)) ∧ fs4[2]? = some (.ref v5) ∧ ((∃ fs9, (M1).1 v5 = some (.inl (8, fs9))) ∧ kz_C G (d + 7) 0 0 mX9_rule [.ref v5, .int p1] M1 (fun v M6 => ∃ r7 : Int32, v = some (.int r7) ∧ (Qr (some (.int r7)) M6)) Qx))) Qx) : kz_C G (d + 8) mc ms mX11_setting [.ref a0, .int p1] M Qr Qx := by
  refine kz_enter (n := 1) kmX11_setting.1 (Nat.le_of_ble_eq_true rfl) (ls := [(0, .ref a0), (1, .int p1)]) rfl ?_
  refine kz_aload_n (pc := 0) 0 (v := .ref a0) (i := 0) rfl rfl rfl dX11_setting_0 ?_
  refine kz_iload_n (pc := 1) 1 (i := 1) rfl rfl dX11_setting_1 ?_
  obtain ⟨⟨fs10, he⟩, h⟩ := h
  obtain ⟨mc3, ms3, hc3, hs3, h⟩ := h
  refine kz_callV (pc := 2) (μ' := mX11_checkSetting) (ci := 10) (q := (RX11, TX11, 10)) (b := a0) (d' := d + 7) (mc' := mc3) (ms' := ms3) (As := [.int p1]) (st := []) (c := 0) (sl := 0) kmX11_checkSetting kw_624 (by omega) rfl (Nat.le_of_ble_eq_true rfl) he rfl rfl hc3 hs3 dX11_setting_2 (fun E M9 hx => kz_Tout rfl hc3 hs3 hx) (kz_Cmono (fun v M1 h => ?_) (fun _ _ h => h) h)
  obtain ⟨rfl, h⟩ := h
  show kz_Z G (d + 8) mc ms mX11_setting Qr Qx 5 [(0, .ref a0), (1, .int p1)] [] M1 (0 + mc3) (0 + ms3)
  refine kz_aload_n (pc := 5) 0 (v := .ref a0) (i := 0) rfl rfl rfl dX11_setting_5 ?_
  obtain ⟨fs4, v5, hM, hv, h⟩ := h
  refine kz_getf (pc := 6) (k := 2) kcX11 hM hv (by decide) kw_277 dX11_setting_6 ?_
  refine kz_iload_n (pc := 9) 1 (i := 1) rfl rfl dX11_setting_9 ?_
  obtain ⟨⟨fs9, he⟩, h⟩ := h
  refine kz_callV (pc := 10) (μ' := mX9_rule) (ci := 8) (q := (RX9, TX9, 10)) (b := v5) (d' := d + 7) (mc' := 0) (ms' := 0) (As := [.int p1]) (st := []) (c := 0 + mc3) (sl := 0 + ms3) kmX9_rule kw_629 (by omega) rfl (Nat.le_of_ble_eq_true rfl) he rfl rfl hc3 hs3 dX11_setting_10 (fun E M9 hx => kz_Tout rfl hc3 hs3 hx) (kz_Cmono (fun v M6 h => ?_) (fun _ _ h => h) h)
  obtain ⟨r7, rfl, h⟩ := h
  show kz_Z G (d + 8) mc ms mX11_setting Qr Qx 13 [(0, .ref a0), (1, .int p1)] [.int r7] M6 (0 + mc3) (0 + ms3)
  exact kz_iret (pc := 13) rfl hc3 hs3 dX11_setting_13 h
theorem dX11_writer_0 : decode cX11_writer 0 = .ok (.aload_n 0, 1) := by decide +kernel
theorem dX11_writer_1 : decode cX11_writer 1 = .ok (.iload_n 1, 1) := by decide +kernel
theorem dX11_writer_2 : decode cX11_writer 2 = .ok (.invokevirtual 148, 3) := by decide +kernel
theorem dX11_writer_5 : decode cX11_writer 5 = .ok (.iload_n 2, 1) := by decide +kernel
theorem dX11_writer_6 : decode cX11_writer 6 = .ok (.tableswitch 152 0 9 #[54, 63, 72, 82, 92, 102, 112, 122, 131, 138], 54) := by decide +kernel
theorem dX11_writer_60 : decode cX11_writer 60 = .ok (.aload_n 0, 1) := by decide +kernel
theorem dX11_writer_61 : decode cX11_writer 61 = .ok (.getfield 26, 3) := by decide +kernel
theorem dX11_writer_64 : decode cX11_writer 64 = .ok (.iload_n 1, 1) := by decide +kernel
theorem dX11_writer_65 : decode cX11_writer 65 = .ok (.invokevirtual 151, 3) := by decide +kernel
theorem dX11_writer_68 : decode cX11_writer 68 = .ok (.ireturn, 1) := by decide +kernel
theorem dX11_writer_69 : decode cX11_writer 69 = .ok (.aload_n 0, 1) := by decide +kernel
theorem dX11_writer_70 : decode cX11_writer 70 = .ok (.getfield 26, 3) := by decide +kernel
theorem dX11_writer_73 : decode cX11_writer 73 = .ok (.iload_n 1, 1) := by decide +kernel
theorem dX11_writer_74 : decode cX11_writer 74 = .ok (.invokevirtual 154, 3) := by decide +kernel
theorem dX11_writer_77 : decode cX11_writer 77 = .ok (.ireturn, 1) := by decide +kernel
theorem dX11_writer_78 : decode cX11_writer 78 = .ok (.aload_n 0, 1) := by decide +kernel
theorem dX11_writer_79 : decode cX11_writer 79 = .ok (.getfield 26, 3) := by decide +kernel
theorem dX11_writer_82 : decode cX11_writer 82 = .ok (.iload_n 1, 1) := by decide +kernel
theorem dX11_writer_83 : decode cX11_writer 83 = .ok (.iconst 0, 1) := by decide +kernel
theorem dX11_writer_84 : decode cX11_writer 84 = .ok (.invokevirtual 110, 3) := by decide +kernel
theorem dX11_writer_87 : decode cX11_writer 87 = .ok (.ireturn, 1) := by decide +kernel
theorem dX11_writer_88 : decode cX11_writer 88 = .ok (.aload_n 0, 1) := by decide +kernel
theorem dX11_writer_89 : decode cX11_writer 89 = .ok (.getfield 26, 3) := by decide +kernel
theorem dX11_writer_92 : decode cX11_writer 92 = .ok (.iload_n 1, 1) := by decide +kernel
theorem dX11_writer_93 : decode cX11_writer 93 = .ok (.iconst 1, 1) := by decide +kernel
theorem dX11_writer_94 : decode cX11_writer 94 = .ok (.invokevirtual 110, 3) := by decide +kernel
theorem dX11_writer_97 : decode cX11_writer 97 = .ok (.ireturn, 1) := by decide +kernel
theorem dX11_writer_98 : decode cX11_writer 98 = .ok (.aload_n 0, 1) := by decide +kernel
theorem dX11_writer_99 : decode cX11_writer 99 = .ok (.getfield 26, 3) := by decide +kernel
theorem dX11_writer_102 : decode cX11_writer 102 = .ok (.iload_n 1, 1) := by decide +kernel
theorem dX11_writer_103 : decode cX11_writer 103 = .ok (.iconst 2, 1) := by decide +kernel
theorem dX11_writer_104 : decode cX11_writer 104 = .ok (.invokevirtual 110, 3) := by decide +kernel
theorem dX11_writer_107 : decode cX11_writer 107 = .ok (.ireturn, 1) := by decide +kernel
theorem dX11_writer_108 : decode cX11_writer 108 = .ok (.aload_n 0, 1) := by decide +kernel
theorem dX11_writer_109 : decode cX11_writer 109 = .ok (.getfield 26, 3) := by decide +kernel
theorem dX11_writer_112 : decode cX11_writer 112 = .ok (.iload_n 1, 1) := by decide +kernel
theorem dX11_writer_113 : decode cX11_writer 113 = .ok (.iconst 3, 1) := by decide +kernel
theorem dX11_writer_114 : decode cX11_writer 114 = .ok (.invokevirtual 110, 3) := by decide +kernel
theorem dX11_writer_117 : decode cX11_writer 117 = .ok (.ireturn, 1) := by decide +kernel
theorem dX11_writer_118 : decode cX11_writer 118 = .ok (.aload_n 0, 1) := by decide +kernel
theorem dX11_writer_119 : decode cX11_writer 119 = .ok (.getfield 26, 3) := by decide +kernel
theorem dX11_writer_122 : decode cX11_writer 122 = .ok (.iload_n 1, 1) := by decide +kernel
theorem dX11_writer_123 : decode cX11_writer 123 = .ok (.iconst 4, 1) := by decide +kernel
theorem dX11_writer_124 : decode cX11_writer 124 = .ok (.invokevirtual 110, 3) := by decide +kernel
theorem dX11_writer_127 : decode cX11_writer 127 = .ok (.ireturn, 1) := by decide +kernel
theorem dX11_writer_128 : decode cX11_writer 128 = .ok (.aload_n 0, 1) := by decide +kernel
theorem dX11_writer_129 : decode cX11_writer 129 = .ok (.getfield 26, 3) := by decide +kernel
theorem dX11_writer_132 : decode cX11_writer 132 = .ok (.iload_n 1, 1) := by decide +kernel
theorem dX11_writer_133 : decode cX11_writer 133 = .ok (.invokevirtual 157, 3) := by decide +kernel
theorem dX11_writer_136 : decode cX11_writer 136 = .ok (.ireturn, 1) := by decide +kernel
theorem dX11_writer_137 : decode cX11_writer 137 = .ok (.aload_n 0, 1) := by decide +kernel
theorem dX11_writer_138 : decode cX11_writer 138 = .ok (.iload_n 1, 1) := by decide +kernel
theorem dX11_writer_139 : decode cX11_writer 139 = .ok (.iconst 1, 1) := by decide +kernel
theorem dX11_writer_140 : decode cX11_writer 140 = .ok (.invokevirtual 160, 3) := by decide +kernel
theorem dX11_writer_143 : decode cX11_writer 143 = .ok (.ireturn, 1) := by decide +kernel
theorem dX11_writer_144 : decode cX11_writer 144 = .ok (.aload_n 0, 1) := by decide +kernel
theorem dX11_writer_145 : decode cX11_writer 145 = .ok (.iload_n 1, 1) := by decide +kernel
theorem dX11_writer_146 : decode cX11_writer 146 = .ok (.aload_n 0, 1) := by decide +kernel
theorem dX11_writer_147 : decode cX11_writer 147 = .ok (.getfield 26, 3) := by decide +kernel
theorem dX11_writer_150 : decode cX11_writer 150 = .ok (.iconst 2, 1) := by decide +kernel
theorem dX11_writer_151 : decode cX11_writer 151 = .ok (.invokevirtual 144, 3) := by decide +kernel
theorem dX11_writer_154 : decode cX11_writer 154 = .ok (.invokevirtual 160, 3) := by decide +kernel
theorem dX11_writer_157 : decode cX11_writer 157 = .ok (.ireturn, 1) := by decide +kernel
theorem dX11_writer_158 : decode cX11_writer 158 = .ok (.new 134, 3) := by decide +kernel
theorem dX11_writer_161 : decode cX11_writer 161 = .ok (.dup, 1) := by decide +kernel
theorem dX11_writer_162 : decode cX11_writer 162 = .ok (.ldc 163, 2) := by decide +kernel
theorem dX11_writer_164 : decode cX11_writer 164 = .ok (.invokespecial 138, 3) := by decide +kernel
theorem dX11_writer_167 : decode cX11_writer 167 = .ok (.athrow, 1) := by decide +kernel
theorem rX11_writer_0 {G : kz_G} {d : Nat} {mc ms : Nat} {Qr : Option Value → kz_M → Prop} {Qx : String → kz_M → Prop} {a0 : Nat} {p1 : Int32} {p2 : Int32}  {M : kz_M} (hG : kz_stat G) (h : (∃ fs67, (M).1 a0 = some (.inl (10, fs67))) ∧ ∃ mc3 ms3, 0 + mc3 ≤ mc ∧ 0 + ms3 ≤ ms ∧ kz_C G (d + 7) mc3 ms3 mX11_checkWriter [.ref a0, .int p1] M (fun v M1 => v = none ∧ ((p2 = 0 → ∃ fs4 v5, (M1).1 a0 = some (.inl (10, fs4)) ∧ fs4[2]? = some (.ref v5) ∧ ((∃ fs9, (M1).1 v5 = some (.inl (8, fs9))) ∧ kz_C G (d + 7) 0 0 mX9_balanceOf [.ref v5, .int p1] M1 (fun v M6 => ∃ r7 : Int32, v = some (.int r7) ∧ (Qr (some (.int r7)) M6)) Qx)) ∧ (p2 = 1 → ∃ fs10 v11, (M1).1 a0 = some (.inl (10, fs10)) ∧ fs10[2]? = some (.ref v11) ∧ ((∃ fs15, (M1).1 v11 = some (.inl (8, fs15))) ∧ kz_C G (d + 7) 0 0 mX9_worksOf [.ref v11, .int p1] M1 (fun v M12 => ∃ r13 : Int32, v = some (.int r13) ∧ (Qr (some (.int r13)) M12)) Qx)) ∧ (p2 = 2 → ∃ fs16 v17, (M1).1 a0 = some (.inl (10, fs16)) ∧ fs16[2]? = some (.ref v17) ∧ ((∃ fs21, (M1).1 v17 = some (.inl (8, fs21))) ∧ kz_C G (d + 7) 0 0 mX9_linesOf [.ref v17, .int p1, .int 0] M1 (fun v M18 => ∃ r19 : Int32, v = some (.int r19) ∧ (Qr (some (.int r19)) M18)) Qx)) ∧ (p2 = 3 → ∃ fs22 v23, (M1).1 a0 = some (.inl (10, fs22)) ∧ fs22[2]? = some (.ref v23) ∧ ((∃ fs27, (M1).1 v23 = some (.inl (8, fs27))) ∧ kz_C G (d + 7) 0 0 mX9_linesOf [.ref v23, .int p1, .int 1] M1 (fun v M24 => ∃ r25 : Int32, v = some (.int r25) ∧ (Qr (some (.int r25)) M24)) Qx)) ∧ (p2 = 4 → ∃ fs28 v29, (M1).1 a0 = some (.inl (10, fs28)) ∧ fs28[2]? = some (.ref v29) ∧ ((∃ fs33, (M1).1 v29 = some (.inl (8, fs33))) ∧ kz_C G (d + 7) 0 0 mX9_linesOf [.ref v29, .int p1, .int 2] M1 (fun v M30 => ∃ r31 : Int32, v = some (.int r31) ∧ (Qr (some (.int r31)) M30)) Qx)) ∧ (p2 = 5 → ∃ fs34 v35, (M1).1 a0 = some (.inl (10, fs34)) ∧ fs34[2]? = some (.ref v35) ∧ ((∃ fs39, (M1).1 v35 = some (.inl (8, fs39))) ∧ kz_C G (d + 7) 0 0 mX9_linesOf [.ref v35, .int p1, .int 3] M1 (fun v M36 => ∃ r37 : Int32, v = some (.int r37) ∧ (Qr (some (.int r37)) M36)) Qx)) ∧ (p2 = 6 → ∃ fs40 v41, (M1).1 a0 = some (.inl (10, fs40)) ∧ fs40[2]? = some (.ref v41) ∧ ((∃ fs45, (M1).1 v41 = some (.inl (8, fs45))) ∧ kz_C G (d + 7) 0 0 mX9_linesOf [.ref v41, .int p1, .int 4] M1 (fun v M42 => ∃ r43 : Int32, v = some (.int r43) ∧ (Qr (some (.int r43)) M42)) Qx)) ∧ (p2 = 7 → ∃ fs46 v47, (M1).1 a0 = some (.inl (10, fs46)) ∧ fs46[2]? = some (.ref v47) ∧ ((∃ fs51, (M1).1 v47 = some (.inl (8, fs51))) ∧ kz_C G (d + 7) 0 0 mX9_paidTo [.ref v47, .int p1] M1 (fun v M48 => ∃ r49 : Int32, v = some (.int r49) ∧ (Qr (some (.int r49)) M48)) Qx)) ∧ (p2 = 8 → (∃ fs55, (M1).1 a0 = some (.inl (10, fs55))) ∧ kz_C G (d + 7) 0 0 mX11_wordsInLines [.ref a0, .int p1, .int 1] M1 (fun v M52 => ∃ r53 : Int32, v = some (.int r53) ∧ (Qr (some (.int r53)) M52)) Qx) ∧ (p2 = 9 → ∃ fs56 v57, (M1).1 a0 = some (.inl (10, fs56)) ∧ fs56[2]? = some (.ref v57) ∧ ((∃ fs65, (M1).1 v57 = some (.inl (8, fs65))) ∧ kz_C G (d + 7) 0 0 mX9_rule [.ref v57, .int 2] M1 (fun v M58 => ∃ r59 : Int32, v = some (.int r59) ∧ ((∃ fs64, (M58).1 a0 = some (.inl (10, fs64))) ∧ kz_C G (d + 7) 0 0 mX11_wordsInLines [.ref a0, .int p1, .int r59] M58 (fun v M61 => ∃ r62 : Int32, v = some (.int r62) ∧ (Qr (some (.int r62)) M61)) Qx)) Qx)) ∧ (¬ p2 = 0 → ¬ p2 = 1 → ¬ p2 = 2 → ¬ p2 = 3 → ¬ p2 = 4 → ¬ p2 = 5 → ¬ p2 = 6 → ¬ p2 = 7 → ¬ p2 = 8 → ¬ p2 = 9 → 0 + mc3 + 1 ≤ mc ∧ 0 + ms3 + 6 ≤ ms ∧ ∀ g66, Qx "java/lang/IllegalArgumentException" ((M1).1, (M1).2 + g66)))) Qx) : kz_C G (d + 8) mc ms mX11_writer [.ref a0, .int p1, .int p2] M Qr Qx := by
  refine kz_enter (n := 2) kmX11_writer.1 (Nat.le_of_ble_eq_true rfl) (ls := [(0, .ref a0), (1, .int p1), (2, .int p2)]) rfl ?_
  refine kz_aload_n (pc := 0) 0 (v := .ref a0) (i := 0) rfl rfl rfl dX11_writer_0 ?_
  refine kz_iload_n (pc := 1) 1 (i := 1) rfl rfl dX11_writer_1 ?_
  obtain ⟨⟨fs67, he⟩, h⟩ := h
  obtain ⟨mc3, ms3, hc3, hs3, h⟩ := h
  refine kz_callV (pc := 2) (μ' := mX11_checkWriter) (ci := 10) (q := (RX11, TX11, 10)) (b := a0) (d' := d + 7) (mc' := mc3) (ms' := ms3) (As := [.int p1]) (st := []) (c := 0) (sl := 0) kmX11_checkWriter kw_641 (by omega) rfl (Nat.le_of_ble_eq_true rfl) he rfl rfl hc3 hs3 dX11_writer_2 (fun E M9 hx => kz_Tout rfl hc3 hs3 hx) (kz_Cmono (fun v M1 h => ?_) (fun _ _ h => h) h)
  obtain ⟨rfl, h⟩ := h
  show kz_Z G (d + 8) mc ms mX11_writer Qr Qx 5 [(0, .ref a0), (1, .int p1), (2, .int p2)] [] M1 (0 + mc3) (0 + ms3)
  refine kz_iload_n (pc := 5) 2 (i := 2) rfl rfl dX11_writer_5 ?_
  by_cases hk0 : p2 = 0
  · replace h := h.1 hk0
    refine kz_tableIn (pc := 6) (off := 54) (tgt := 60) (by rw [hk0]; decide) (by rw [hk0]; decide) (by rw [hk0]; decide) (by decide) dX11_writer_6 ?_
    refine kz_aload_n (pc := 60) 0 (v := .ref a0) (i := 0) rfl rfl rfl dX11_writer_60 ?_
    obtain ⟨fs4, v5, hM, hv, h⟩ := h
    refine kz_getf (pc := 61) (k := 2) kcX11 hM hv (by decide) kw_277 dX11_writer_61 ?_
    refine kz_iload_n (pc := 64) 1 (i := 1) rfl rfl dX11_writer_64 ?_
    obtain ⟨⟨fs9, he⟩, h⟩ := h
    refine kz_callV (pc := 65) (μ' := mX9_balanceOf) (ci := 8) (q := (RX9, TX9, 10)) (b := v5) (d' := d + 7) (mc' := 0) (ms' := 0) (As := [.int p1]) (st := []) (c := 0 + mc3) (sl := 0 + ms3) kmX9_balanceOf kw_444 (by omega) rfl (Nat.le_of_ble_eq_true rfl) he rfl rfl hc3 hs3 dX11_writer_65 (fun E M9 hx => kz_Tout rfl hc3 hs3 hx) (kz_Cmono (fun v M6 h => ?_) (fun _ _ h => h) h)
    obtain ⟨r7, rfl, h⟩ := h
    show kz_Z G (d + 8) mc ms mX11_writer Qr Qx 68 [(0, .ref a0), (1, .int p1), (2, .int p2)] [.int r7] M6 (0 + mc3) (0 + ms3)
    exact kz_iret (pc := 68) rfl hc3 hs3 dX11_writer_68 h
  by_cases hk1 : p2 = 1
  · replace h := h.2.1 hk1
    refine kz_tableIn (pc := 6) (off := 63) (tgt := 69) (by rw [hk1]; decide) (by rw [hk1]; decide) (by rw [hk1]; decide) (by decide) dX11_writer_6 ?_
    refine kz_aload_n (pc := 69) 0 (v := .ref a0) (i := 0) rfl rfl rfl dX11_writer_69 ?_
    obtain ⟨fs10, v11, hM, hv, h⟩ := h
    refine kz_getf (pc := 70) (k := 2) kcX11 hM hv (by decide) kw_277 dX11_writer_70 ?_
    refine kz_iload_n (pc := 73) 1 (i := 1) rfl rfl dX11_writer_73 ?_
    obtain ⟨⟨fs15, he⟩, h⟩ := h
    refine kz_callV (pc := 74) (μ' := mX9_worksOf) (ci := 8) (q := (RX9, TX9, 10)) (b := v11) (d' := d + 7) (mc' := 0) (ms' := 0) (As := [.int p1]) (st := []) (c := 0 + mc3) (sl := 0 + ms3) kmX9_worksOf kw_665 (by omega) rfl (Nat.le_of_ble_eq_true rfl) he rfl rfl hc3 hs3 dX11_writer_74 (fun E M9 hx => kz_Tout rfl hc3 hs3 hx) (kz_Cmono (fun v M12 h => ?_) (fun _ _ h => h) h)
    obtain ⟨r13, rfl, h⟩ := h
    show kz_Z G (d + 8) mc ms mX11_writer Qr Qx 77 [(0, .ref a0), (1, .int p1), (2, .int p2)] [.int r13] M12 (0 + mc3) (0 + ms3)
    exact kz_iret (pc := 77) rfl hc3 hs3 dX11_writer_77 h
  by_cases hk2 : p2 = 2
  · replace h := h.2.2.1 hk2
    refine kz_tableIn (pc := 6) (off := 72) (tgt := 78) (by rw [hk2]; decide) (by rw [hk2]; decide) (by rw [hk2]; decide) (by decide) dX11_writer_6 ?_
    refine kz_aload_n (pc := 78) 0 (v := .ref a0) (i := 0) rfl rfl rfl dX11_writer_78 ?_
    obtain ⟨fs16, v17, hM, hv, h⟩ := h
    refine kz_getf (pc := 79) (k := 2) kcX11 hM hv (by decide) kw_277 dX11_writer_79 ?_
    refine kz_iload_n (pc := 82) 1 (i := 1) rfl rfl dX11_writer_82 ?_
    refine kz_iconst (pc := 83) (v := 0) (by decide) dX11_writer_83 ?_
    obtain ⟨⟨fs21, he⟩, h⟩ := h
    refine kz_callV (pc := 84) (μ' := mX9_linesOf) (ci := 8) (q := (RX9, TX9, 10)) (b := v17) (d' := d + 7) (mc' := 0) (ms' := 0) (As := [.int p1, .int 0]) (st := []) (c := 0 + mc3) (sl := 0 + ms3) kmX9_linesOf kw_521 (by omega) rfl (Nat.le_of_ble_eq_true rfl) he rfl rfl hc3 hs3 dX11_writer_84 (fun E M9 hx => kz_Tout rfl hc3 hs3 hx) (kz_Cmono (fun v M18 h => ?_) (fun _ _ h => h) h)
    obtain ⟨r19, rfl, h⟩ := h
    show kz_Z G (d + 8) mc ms mX11_writer Qr Qx 87 [(0, .ref a0), (1, .int p1), (2, .int p2)] [.int r19] M18 (0 + mc3) (0 + ms3)
    exact kz_iret (pc := 87) rfl hc3 hs3 dX11_writer_87 h
  by_cases hk3 : p2 = 3
  · replace h := h.2.2.2.1 hk3
    refine kz_tableIn (pc := 6) (off := 82) (tgt := 88) (by rw [hk3]; decide) (by rw [hk3]; decide) (by rw [hk3]; decide) (by decide) dX11_writer_6 ?_
    refine kz_aload_n (pc := 88) 0 (v := .ref a0) (i := 0) rfl rfl rfl dX11_writer_88 ?_
    obtain ⟨fs22, v23, hM, hv, h⟩ := h
    refine kz_getf (pc := 89) (k := 2) kcX11 hM hv (by decide) kw_277 dX11_writer_89 ?_
    refine kz_iload_n (pc := 92) 1 (i := 1) rfl rfl dX11_writer_92 ?_
    refine kz_iconst (pc := 93) (v := 1) (by decide) dX11_writer_93 ?_
    obtain ⟨⟨fs27, he⟩, h⟩ := h
    refine kz_callV (pc := 94) (μ' := mX9_linesOf) (ci := 8) (q := (RX9, TX9, 10)) (b := v23) (d' := d + 7) (mc' := 0) (ms' := 0) (As := [.int p1, .int 1]) (st := []) (c := 0 + mc3) (sl := 0 + ms3) kmX9_linesOf kw_521 (by omega) rfl (Nat.le_of_ble_eq_true rfl) he rfl rfl hc3 hs3 dX11_writer_94 (fun E M9 hx => kz_Tout rfl hc3 hs3 hx) (kz_Cmono (fun v M24 h => ?_) (fun _ _ h => h) h)
    obtain ⟨r25, rfl, h⟩ := h
    show kz_Z G (d + 8) mc ms mX11_writer Qr Qx 97 [(0, .ref a0), (1, .int p1), (2, .int p2)] [.int r25] M24 (0 + mc3) (0 + ms3)
    exact kz_iret (pc := 97) rfl hc3 hs3 dX11_writer_97 h
  by_cases hk4 : p2 = 4
  · replace h := h.2.2.2.2.1 hk4
    refine kz_tableIn (pc := 6) (off := 92) (tgt := 98) (by rw [hk4]; decide) (by rw [hk4]; decide) (by rw [hk4]; decide) (by decide) dX11_writer_6 ?_
    refine kz_aload_n (pc := 98) 0 (v := .ref a0) (i := 0) rfl rfl rfl dX11_writer_98 ?_
    obtain ⟨fs28, v29, hM, hv, h⟩ := h
    refine kz_getf (pc := 99) (k := 2) kcX11 hM hv (by decide) kw_277 dX11_writer_99 ?_
    refine kz_iload_n (pc := 102) 1 (i := 1) rfl rfl dX11_writer_102 ?_
    refine kz_iconst (pc := 103) (v := 2) (by decide) dX11_writer_103 ?_
    obtain ⟨⟨fs33, he⟩, h⟩ := h
    refine kz_callV (pc := 104) (μ' := mX9_linesOf) (ci := 8) (q := (RX9, TX9, 10)) (b := v29) (d' := d + 7) (mc' := 0) (ms' := 0) (As := [.int p1, .int 2]) (st := []) (c := 0 + mc3) (sl := 0 + ms3) kmX9_linesOf kw_521 (by omega) rfl (Nat.le_of_ble_eq_true rfl) he rfl rfl hc3 hs3 dX11_writer_104 (fun E M9 hx => kz_Tout rfl hc3 hs3 hx) (kz_Cmono (fun v M30 h => ?_) (fun _ _ h => h) h)
    obtain ⟨r31, rfl, h⟩ := h
    show kz_Z G (d + 8) mc ms mX11_writer Qr Qx 107 [(0, .ref a0), (1, .int p1), (2, .int p2)] [.int r31] M30 (0 + mc3) (0 + ms3)
    exact kz_iret (pc := 107) rfl hc3 hs3 dX11_writer_107 h
  by_cases hk5 : p2 = 5
  · replace h := h.2.2.2.2.2.1 hk5
    refine kz_tableIn (pc := 6) (off := 102) (tgt := 108) (by rw [hk5]; decide) (by rw [hk5]; decide) (by rw [hk5]; decide) (by decide) dX11_writer_6 ?_
    refine kz_aload_n (pc := 108) 0 (v := .ref a0) (i := 0) rfl rfl rfl dX11_writer_108 ?_
    obtain ⟨fs34, v35, hM, hv, h⟩ := h
    refine kz_getf (pc := 109) (k := 2) kcX11 hM hv (by decide) kw_277 dX11_writer_109 ?_
    refine kz_iload_n (pc := 112) 1 (i := 1) rfl rfl dX11_writer_112 ?_
    refine kz_iconst (pc := 113) (v := 3) (by decide) dX11_writer_113 ?_
    obtain ⟨⟨fs39, he⟩, h⟩ := h
    refine kz_callV (pc := 114) (μ' := mX9_linesOf) (ci := 8) (q := (RX9, TX9, 10)) (b := v35) (d' := d + 7) (mc' := 0) (ms' := 0) (As := [.int p1, .int 3]) (st := []) (c := 0 + mc3) (sl := 0 + ms3) kmX9_linesOf kw_521 (by omega) rfl (Nat.le_of_ble_eq_true rfl) he rfl rfl hc3 hs3 dX11_writer_114 (fun E M9 hx => kz_Tout rfl hc3 hs3 hx) (kz_Cmono (fun v M36 h => ?_) (fun _ _ h => h) h)
    obtain ⟨r37, rfl, h⟩ := h
    show kz_Z G (d + 8) mc ms mX11_writer Qr Qx 117 [(0, .ref a0), (1, .int p1), (2, .int p2)] [.int r37] M36 (0 + mc3) (0 + ms3)
    exact kz_iret (pc := 117) rfl hc3 hs3 dX11_writer_117 h
  by_cases hk6 : p2 = 6
  · replace h := h.2.2.2.2.2.2.1 hk6
    refine kz_tableIn (pc := 6) (off := 112) (tgt := 118) (by rw [hk6]; decide) (by rw [hk6]; decide) (by rw [hk6]; decide) (by decide) dX11_writer_6 ?_
    refine kz_aload_n (pc := 118) 0 (v := .ref a0) (i := 0) rfl rfl rfl dX11_writer_118 ?_
    obtain ⟨fs40, v41, hM, hv, h⟩ := h
    refine kz_getf (pc := 119) (k := 2) kcX11 hM hv (by decide) kw_277 dX11_writer_119 ?_
    refine kz_iload_n (pc := 122) 1 (i := 1) rfl rfl dX11_writer_122 ?_
    refine kz_iconst (pc := 123) (v := 4) (by decide) dX11_writer_123 ?_
    obtain ⟨⟨fs45, he⟩, h⟩ := h
    refine kz_callV (pc := 124) (μ' := mX9_linesOf) (ci := 8) (q := (RX9, TX9, 10)) (b := v41) (d' := d + 7) (mc' := 0) (ms' := 0) (As := [.int p1, .int 4]) (st := []) (c := 0 + mc3) (sl := 0 + ms3) kmX9_linesOf kw_521 (by omega) rfl (Nat.le_of_ble_eq_true rfl) he rfl rfl hc3 hs3 dX11_writer_124 (fun E M9 hx => kz_Tout rfl hc3 hs3 hx) (kz_Cmono (fun v M42 h => ?_) (fun _ _ h => h) h)
    obtain ⟨r43, rfl, h⟩ := h
    show kz_Z G (d + 8) mc ms mX11_writer Qr Qx 127 [(0, .ref a0), (1, .int p1), (2, .int p2)] [.int r43] M42 (0 + mc3) (0 + ms3)
    exact kz_iret (pc := 127) rfl hc3 hs3 dX11_writer_127 h
  by_cases hk7 : p2 = 7
  · replace h := h.2.2.2.2.2.2.2.1 hk7
    refine kz_tableIn (pc := 6) (off := 122) (tgt := 128) (by rw [hk7]; decide) (by rw [hk7]; decide) (by rw [hk7]; decide) (by decide) dX11_writer_6 ?_
    refine kz_aload_n (pc := 128) 0 (v := .ref a0) (i := 0) rfl rfl rfl dX11_writer_128 ?_
    obtain ⟨fs46, v47, hM, hv, h⟩ := h
    refine kz_getf (pc := 129) (k := 2) kcX11 hM hv (by decide) kw_277 dX11_writer_129 ?_
    refine kz_iload_n (pc := 132) 1 (i := 1) rfl rfl dX11_writer_132 ?_
    obtain ⟨⟨fs51, he⟩, h⟩ := h
    refine kz_callV (pc := 133) (μ' := mX9_paidTo) (ci := 8) (q := (RX9, TX9, 10)) (b := v47) (d' := d + 7) (mc' := 0) (ms' := 0) (As := [.int p1]) (st := []) (c := 0 + mc3) (sl := 0 + ms3) kmX9_paidTo kw_673 (by omega) rfl (Nat.le_of_ble_eq_true rfl) he rfl rfl hc3 hs3 dX11_writer_133 (fun E M9 hx => kz_Tout rfl hc3 hs3 hx) (kz_Cmono (fun v M48 h => ?_) (fun _ _ h => h) h)
    obtain ⟨r49, rfl, h⟩ := h
    show kz_Z G (d + 8) mc ms mX11_writer Qr Qx 136 [(0, .ref a0), (1, .int p1), (2, .int p2)] [.int r49] M48 (0 + mc3) (0 + ms3)
    exact kz_iret (pc := 136) rfl hc3 hs3 dX11_writer_136 h
  by_cases hk8 : p2 = 8
  · replace h := h.2.2.2.2.2.2.2.2.1 hk8
    refine kz_tableIn (pc := 6) (off := 131) (tgt := 137) (by rw [hk8]; decide) (by rw [hk8]; decide) (by rw [hk8]; decide) (by decide) dX11_writer_6 ?_
    refine kz_aload_n (pc := 137) 0 (v := .ref a0) (i := 0) rfl rfl rfl dX11_writer_137 ?_
    refine kz_iload_n (pc := 138) 1 (i := 1) rfl rfl dX11_writer_138 ?_
    refine kz_iconst (pc := 139) (v := 1) (by decide) dX11_writer_139 ?_
    obtain ⟨⟨fs55, he⟩, h⟩ := h
    refine kz_callV (pc := 140) (μ' := mX11_wordsInLines) (ci := 10) (q := (RX11, TX11, 10)) (b := a0) (d' := d + 7) (mc' := 0) (ms' := 0) (As := [.int p1, .int 1]) (st := []) (c := 0 + mc3) (sl := 0 + ms3) kmX11_wordsInLines kw_677 (by omega) rfl (Nat.le_of_ble_eq_true rfl) he rfl rfl hc3 hs3 dX11_writer_140 (fun E M9 hx => kz_Tout rfl hc3 hs3 hx) (kz_Cmono (fun v M52 h => ?_) (fun _ _ h => h) h)
    obtain ⟨r53, rfl, h⟩ := h
    show kz_Z G (d + 8) mc ms mX11_writer Qr Qx 143 [(0, .ref a0), (1, .int p1), (2, .int p2)] [.int r53] M52 (0 + mc3) (0 + ms3)
    exact kz_iret (pc := 143) rfl hc3 hs3 dX11_writer_143 h
  by_cases hk9 : p2 = 9
  · replace h := h.2.2.2.2.2.2.2.2.2.1 hk9
    refine kz_tableIn (pc := 6) (off := 138) (tgt := 144) (by rw [hk9]; decide) (by rw [hk9]; decide) (by rw [hk9]; decide) (by decide) dX11_writer_6 ?_
    refine kz_aload_n (pc := 144) 0 (v := .ref a0) (i := 0) rfl rfl rfl dX11_writer_144 ?_
    refine kz_iload_n (pc := 145) 1 (i := 1) rfl rfl dX11_writer_145 ?_
    refine kz_aload_n (pc := 146) 0 (v := .ref a0) (i := 0) rfl rfl rfl dX11_writer_146 ?_
    obtain ⟨fs56, v57, hM, hv, h⟩ := h
    refine kz_getf (pc := 147) (k := 2) kcX11 hM hv (by decide) kw_277 dX11_writer_147 ?_
    refine kz_iconst (pc := 150) (v := 2) (by decide) dX11_writer_150 ?_
    obtain ⟨⟨fs65, he⟩, h⟩ := h
    refine kz_callV (pc := 151) (μ' := mX9_rule) (ci := 8) (q := (RX9, TX9, 10)) (b := v57) (d' := d + 7) (mc' := 0) (ms' := 0) (As := [.int 2]) (st := [.int p1, .ref a0]) (c := 0 + mc3) (sl := 0 + ms3) kmX9_rule kw_629 (by omega) rfl (Nat.le_of_ble_eq_true rfl) he rfl rfl hc3 hs3 dX11_writer_151 (fun E M9 hx => kz_Tout rfl hc3 hs3 hx) (kz_Cmono (fun v M58 h => ?_) (fun _ _ h => h) h)
    obtain ⟨r59, rfl, h⟩ := h
    show kz_Z G (d + 8) mc ms mX11_writer Qr Qx 154 [(0, .ref a0), (1, .int p1), (2, .int p2)] [.int r59, .int p1, .ref a0] M58 (0 + mc3) (0 + ms3)
    obtain ⟨⟨fs64, he⟩, h⟩ := h
    refine kz_callV (pc := 154) (μ' := mX11_wordsInLines) (ci := 10) (q := (RX11, TX11, 10)) (b := a0) (d' := d + 7) (mc' := 0) (ms' := 0) (As := [.int p1, .int r59]) (st := []) (c := 0 + mc3) (sl := 0 + ms3) kmX11_wordsInLines kw_677 (by omega) rfl (Nat.le_of_ble_eq_true rfl) he rfl rfl hc3 hs3 dX11_writer_154 (fun E M9 hx => kz_Tout rfl hc3 hs3 hx) (kz_Cmono (fun v M61 h => ?_) (fun _ _ h => h) h)
    obtain ⟨r62, rfl, h⟩ := h
    show kz_Z G (d + 8) mc ms mX11_writer Qr Qx 157 [(0, .ref a0), (1, .int p1), (2, .int p2)] [.int r62] M61 (0 + mc3) (0 + ms3)
    exact kz_iret (pc := 157) rfl hc3 hs3 dX11_writer_157 h
  replace h := h.2.2.2.2.2.2.2.2.2.2 hk0 hk1 hk2 hk3 hk4 hk5 hk6 hk7 hk8 hk9
  refine kz_tableOut (pc := 6) (tgt := 158) (kz_swout (lo := 0) (n := 10) (by decide) (by decide) (kz_all10 (kz_swne (by decide) hk0) (kz_swne (by decide) hk1) (kz_swne (by decide) hk2) (kz_swne (by decide) hk3) (kz_swne (by decide) hk4) (kz_swne (by decide) hk5) (kz_swne (by decide) hk6) (kz_swne (by decide) hk7) (kz_swne (by decide) hk8) (kz_swne (by decide) hk9))) (by decide) dX11_writer_6 ?_
  exact kz_throwS (pc := 158) (ik := 134) (is := 163) (ic := 138) (j := 1002) (text := "no such number of a writer") hG.1 hG.2.1 hG.2.2.1 (by decide +kernel) kz_xn kw_549 kw_19 (List.mem_of_getElem? (i := 2) rfl) kz_xw_IllegalArgumentException kz_xg_IllegalArgumentException rfl (by show 2 + 3 < _; omega) (by decide) (Nat.le_of_ble_eq_true rfl) h.1 h.2.1 dX11_writer_158 dX11_writer_161 dX11_writer_162 dX11_writer_164 dX11_writer_167 h.2.2
theorem dX11_work_0 : decode cX11_work 0 = .ok (.aload_n 0, 1) := by decide +kernel
theorem dX11_work_1 : decode cX11_work 1 = .ok (.iload_n 1, 1) := by decide +kernel
theorem dX11_work_2 : decode cX11_work 2 = .ok (.invokevirtual 165, 3) := by decide +kernel
theorem dX11_work_5 : decode cX11_work 5 = .ok (.astore_n 3, 1) := by decide +kernel
theorem dX11_work_6 : decode cX11_work 6 = .ok (.iload_n 2, 1) := by decide +kernel
theorem dX11_work_7 : decode cX11_work 7 = .ok (.tableswitch 103 0 7 #[45, 50, 58, 63, 71, 76, 82, 87], 45) := by decide +kernel
theorem dX11_work_52 : decode cX11_work 52 = .ok (.aload_n 3, 1) := by decide +kernel
theorem dX11_work_53 : decode cX11_work 53 = .ok (.getfield 169, 3) := by decide +kernel
theorem dX11_work_56 : decode cX11_work 56 = .ok (.ireturn, 1) := by decide +kernel
theorem dX11_work_57 : decode cX11_work 57 = .ok (.aload_n 3, 1) := by decide +kernel
theorem dX11_work_58 : decode cX11_work 58 = .ok (.getfield 174, 3) := by decide +kernel
theorem dX11_work_61 : decode cX11_work 61 = .ok (.getfield 178, 3) := by decide +kernel
theorem dX11_work_64 : decode cX11_work 64 = .ok (.ireturn, 1) := by decide +kernel
theorem dX11_work_65 : decode cX11_work 65 = .ok (.aload_n 3, 1) := by decide +kernel
theorem dX11_work_66 : decode cX11_work 66 = .ok (.getfield 183, 3) := by decide +kernel
theorem dX11_work_69 : decode cX11_work 69 = .ok (.ireturn, 1) := by decide +kernel
theorem dX11_work_70 : decode cX11_work 70 = .ok (.aload_n 3, 1) := by decide +kernel
theorem dX11_work_71 : decode cX11_work 71 = .ok (.getfield 174, 3) := by decide +kernel
theorem dX11_work_74 : decode cX11_work 74 = .ok (.invokevirtual 184, 3) := by decide +kernel
theorem dX11_work_77 : decode cX11_work 77 = .ok (.ireturn, 1) := by decide +kernel
theorem dX11_work_78 : decode cX11_work 78 = .ok (.aload_n 3, 1) := by decide +kernel
theorem dX11_work_79 : decode cX11_work 79 = .ok (.invokevirtual 186, 3) := by decide +kernel
theorem dX11_work_82 : decode cX11_work 82 = .ok (.ireturn, 1) := by decide +kernel
theorem dX11_work_83 : decode cX11_work 83 = .ok (.aload_n 3, 1) := by decide +kernel
theorem dX11_work_84 : decode cX11_work 84 = .ok (.iconst 1, 1) := by decide +kernel
theorem dX11_work_85 : decode cX11_work 85 = .ok (.invokevirtual 187, 3) := by decide +kernel
theorem dX11_work_88 : decode cX11_work 88 = .ok (.ireturn, 1) := by decide +kernel
theorem dX11_work_89 : decode cX11_work 89 = .ok (.aload_n 3, 1) := by decide +kernel
theorem dX11_work_90 : decode cX11_work 90 = .ok (.invokevirtual 189, 3) := by decide +kernel
theorem dX11_work_93 : decode cX11_work 93 = .ok (.ireturn, 1) := by decide +kernel
theorem dX11_work_94 : decode cX11_work 94 = .ok (.aload_n 3, 1) := by decide +kernel
theorem dX11_work_95 : decode cX11_work 95 = .ok (.getfield 174, 3) := by decide +kernel
theorem dX11_work_98 : decode cX11_work 98 = .ok (.iconst 0, 1) := by decide +kernel
theorem dX11_work_99 : decode cX11_work 99 = .ok (.aload_n 3, 1) := by decide +kernel
theorem dX11_work_100 : decode cX11_work 100 = .ok (.getfield 174, 3) := by decide +kernel
theorem dX11_work_103 : decode cX11_work 103 = .ok (.invokevirtual 184, 3) := by decide +kernel
theorem dX11_work_106 : decode cX11_work 106 = .ok (.invokevirtual 192, 3) := by decide +kernel
theorem dX11_work_109 : decode cX11_work 109 = .ok (.ireturn, 1) := by decide +kernel
theorem dX11_work_110 : decode cX11_work 110 = .ok (.new 134, 3) := by decide +kernel
theorem dX11_work_113 : decode cX11_work 113 = .ok (.dup, 1) := by decide +kernel
theorem dX11_work_114 : decode cX11_work 114 = .ok (.ldc 195, 2) := by decide +kernel
theorem dX11_work_116 : decode cX11_work 116 = .ok (.invokespecial 138, 3) := by decide +kernel
theorem dX11_work_119 : decode cX11_work 119 = .ok (.athrow, 1) := by decide +kernel
theorem rX11_work_0 {G : kz_G} {d : Nat} {mc ms : Nat} {Qr : Option Value → kz_M → Prop} {Qx : String → kz_M → Prop} {a0 : Nat} {p1 : Int32} {p2 : Int32}  {M : kz_M} (hG : kz_stat G) (h : (∃ fs43, (M).1 a0 = some (.inl (10, fs43))) ∧ ∃ mc3 ms3, 0 + mc3 ≤ mc ∧ 0 + ms3 ≤ ms ∧ kz_C G (d + 7) mc3 ms3 mX11_workOrThrow [.ref a0, .int p1] M (fun v M1 => ∃ r2 : Nat, v = some (.ref r2) ∧ ((p2 = 0 → ∃ fs4 v5, (M1).1 r2 = some (.inl (9, fs4)) ∧ fs4[0]? = some (.int v5) ∧ (Qr (some (.int v5)) M1)) ∧ (p2 = 1 → ∃ fs6 v7, (M1).1 r2 = some (.inl (9, fs6)) ∧ fs6[2]? = some (.ref v7) ∧ (∃ fs8 v9, (M1).1 v7 = some (.inl (6, fs8)) ∧ fs8[0]? = some (.int v9) ∧ (Qr (some (.int v9)) M1))) ∧ (p2 = 2 → ∃ fs10 v11, (M1).1 r2 = some (.inl (9, fs10)) ∧ fs10[1]? = some (.int v11) ∧ (Qr (some (.int v11)) M1)) ∧ (p2 = 3 → ∃ fs12 v13, (M1).1 r2 = some (.inl (9, fs12)) ∧ fs12[2]? = some (.ref v13) ∧ ((∃ fs17, (M1).1 v13 = some (.inl (6, fs17))) ∧ kz_C G (d + 7) 0 0 mX6_size [.ref v13] M1 (fun v M14 => ∃ r15 : Int32, v = some (.int r15) ∧ (Qr (some (.int r15)) M14)) Qx)) ∧ (p2 = 4 → (∃ fs21, (M1).1 r2 = some (.inl (9, fs21))) ∧ kz_C G (d + 7) 0 0 mX10_size [.ref r2] M1 (fun v M18 => ∃ r19 : Int32, v = some (.int r19) ∧ (Qr (some (.int r19)) M18)) Qx) ∧ (p2 = 5 → (∃ fs25, (M1).1 r2 = some (.inl (9, fs25))) ∧ kz_C G (d + 7) 0 0 mX10_linesOf [.ref r2, .int 1] M1 (fun v M22 => ∃ r23 : Int32, v = some (.int r23) ∧ (Qr (some (.int r23)) M22)) Qx) ∧ (p2 = 6 → (∃ fs29, (M1).1 r2 = some (.inl (9, fs29))) ∧ kz_C G (d + 7) 0 0 mX10_payOfCounting [.ref r2] M1 (fun v M26 => ∃ r27 : Int32, v = some (.int r27) ∧ (Qr (some (.int r27)) M26)) Qx) ∧ (p2 = 7 → ∃ fs30 v31, (M1).1 r2 = some (.inl (9, fs30)) ∧ fs30[2]? = some (.ref v31) ∧ (∃ fs32 v33, (M1).1 r2 = some (.inl (9, fs32)) ∧ fs32[2]? = some (.ref v33) ∧ ((∃ fs41, (M1).1 v33 = some (.inl (6, fs41))) ∧ kz_C G (d + 7) 0 0 mX6_size [.ref v33] M1 (fun v M34 => ∃ r35 : Int32, v = some (.int r35) ∧ ((∃ fs40, (M34).1 v31 = some (.inl (6, fs40))) ∧ kz_C G (d + 7) 0 0 mX6_differentBetween [.ref v31, .int 0, .int r35] M34 (fun v M37 => ∃ r38 : Int32, v = some (.int r38) ∧ (Qr (some (.int r38)) M37)) Qx)) Qx))) ∧ (¬ p2 = 0 → ¬ p2 = 1 → ¬ p2 = 2 → ¬ p2 = 3 → ¬ p2 = 4 → ¬ p2 = 5 → ¬ p2 = 6 → ¬ p2 = 7 → 0 + mc3 + 1 ≤ mc ∧ 0 + ms3 + 6 ≤ ms ∧ ∀ g42, Qx "java/lang/IllegalArgumentException" ((M1).1, (M1).2 + g42)))) Qx) : kz_C G (d + 8) mc ms mX11_work [.ref a0, .int p1, .int p2] M Qr Qx := by
  refine kz_enter (n := 2) kmX11_work.1 (Nat.le_of_ble_eq_true rfl) (ls := [(0, .ref a0), (1, .int p1), (2, .int p2)]) rfl ?_
  refine kz_aload_n (pc := 0) 0 (v := .ref a0) (i := 0) rfl rfl rfl dX11_work_0 ?_
  refine kz_iload_n (pc := 1) 1 (i := 1) rfl rfl dX11_work_1 ?_
  obtain ⟨⟨fs43, he⟩, h⟩ := h
  obtain ⟨mc3, ms3, hc3, hs3, h⟩ := h
  refine kz_callV (pc := 2) (μ' := mX11_workOrThrow) (ci := 10) (q := (RX11, TX11, 10)) (b := a0) (d' := d + 7) (mc' := mc3) (ms' := ms3) (As := [.int p1]) (st := []) (c := 0) (sl := 0) kmX11_workOrThrow kw_744 (by omega) rfl (Nat.le_of_ble_eq_true rfl) he rfl rfl hc3 hs3 dX11_work_2 (fun E M9 hx => kz_Tout rfl hc3 hs3 hx) (kz_Cmono (fun v M1 h => ?_) (fun _ _ h => h) h)
  obtain ⟨r2, rfl, h⟩ := h
  show kz_Z G (d + 8) mc ms mX11_work Qr Qx 5 [(0, .ref a0), (1, .int p1), (2, .int p2)] [.ref r2] M1 (0 + mc3) (0 + ms3)
  refine kz_astore_n (pc := 5) (i := 3) (v := .ref r2) (ls' := [(0, .ref a0), (1, .int p1), (2, .int p2)]) rfl rfl (by decide) rfl dX11_work_5 ?_
  refine kz_iload_n (pc := 6) 3 (i := 2) rfl rfl dX11_work_6 ?_
  by_cases hk0 : p2 = 0
  · replace h := h.1 hk0
    refine kz_tableIn (pc := 7) (off := 45) (tgt := 52) (by rw [hk0]; decide) (by rw [hk0]; decide) (by rw [hk0]; decide) (by decide) dX11_work_7 ?_
    refine kz_aload_n (pc := 52) 0 (v := .ref r2) (i := 3) rfl rfl rfl dX11_work_52 ?_
    obtain ⟨fs4, v5, hM, hv, h⟩ := h
    refine kz_getf (pc := 53) (k := 0) kcX10 hM hv (by decide) kw_1070 dX11_work_53 ?_
    exact kz_iret (pc := 56) rfl hc3 hs3 dX11_work_56 h
  by_cases hk1 : p2 = 1
  · replace h := h.2.1 hk1
    refine kz_tableIn (pc := 7) (off := 50) (tgt := 57) (by rw [hk1]; decide) (by rw [hk1]; decide) (by rw [hk1]; decide) (by decide) dX11_work_7 ?_
    refine kz_aload_n (pc := 57) 0 (v := .ref r2) (i := 3) rfl rfl rfl dX11_work_57 ?_
    obtain ⟨fs6, v7, hM, hv, h⟩ := h
    refine kz_getf (pc := 58) (k := 2) kcX10 hM hv (by decide) kw_1076 dX11_work_58 ?_
    obtain ⟨fs8, v9, hM, hv, h⟩ := h
    refine kz_getf (pc := 61) (k := 0) kcX6 hM hv (by decide) kw_995 dX11_work_61 ?_
    exact kz_iret (pc := 64) rfl hc3 hs3 dX11_work_64 h
  by_cases hk2 : p2 = 2
  · replace h := h.2.2.1 hk2
    refine kz_tableIn (pc := 7) (off := 58) (tgt := 65) (by rw [hk2]; decide) (by rw [hk2]; decide) (by rw [hk2]; decide) (by decide) dX11_work_7 ?_
    refine kz_aload_n (pc := 65) 0 (v := .ref r2) (i := 3) rfl rfl rfl dX11_work_65 ?_
    obtain ⟨fs10, v11, hM, hv, h⟩ := h
    refine kz_getf (pc := 66) (k := 1) kcX10 hM hv (by decide) kw_1073 dX11_work_66 ?_
    exact kz_iret (pc := 69) rfl hc3 hs3 dX11_work_69 h
  by_cases hk3 : p2 = 3
  · replace h := h.2.2.2.1 hk3
    refine kz_tableIn (pc := 7) (off := 63) (tgt := 70) (by rw [hk3]; decide) (by rw [hk3]; decide) (by rw [hk3]; decide) (by decide) dX11_work_7 ?_
    refine kz_aload_n (pc := 70) 0 (v := .ref r2) (i := 3) rfl rfl rfl dX11_work_70 ?_
    obtain ⟨fs12, v13, hM, hv, h⟩ := h
    refine kz_getf (pc := 71) (k := 2) kcX10 hM hv (by decide) kw_1076 dX11_work_71 ?_
    obtain ⟨⟨fs17, he⟩, h⟩ := h
    refine kz_callV (pc := 74) (μ' := mX6_size) (ci := 6) (q := (RX6, TX6, 3)) (b := v13) (d' := d + 7) (mc' := 0) (ms' := 0) (As := []) (st := []) (c := 0 + mc3) (sl := 0 + ms3) kmX6_size kw_703 (by omega) rfl (Nat.le_of_ble_eq_true rfl) he rfl rfl hc3 hs3 dX11_work_74 (fun E M9 hx => kz_Tout rfl hc3 hs3 hx) (kz_Cmono (fun v M14 h => ?_) (fun _ _ h => h) h)
    obtain ⟨r15, rfl, h⟩ := h
    show kz_Z G (d + 8) mc ms mX11_work Qr Qx 77 [(3, .ref r2), (0, .ref a0), (1, .int p1), (2, .int p2)] [.int r15] M14 (0 + mc3) (0 + ms3)
    exact kz_iret (pc := 77) rfl hc3 hs3 dX11_work_77 h
  by_cases hk4 : p2 = 4
  · replace h := h.2.2.2.2.1 hk4
    refine kz_tableIn (pc := 7) (off := 71) (tgt := 78) (by rw [hk4]; decide) (by rw [hk4]; decide) (by rw [hk4]; decide) (by decide) dX11_work_7 ?_
    refine kz_aload_n (pc := 78) 0 (v := .ref r2) (i := 3) rfl rfl rfl dX11_work_78 ?_
    obtain ⟨⟨fs21, he⟩, h⟩ := h
    refine kz_callV (pc := 79) (μ' := mX10_size) (ci := 9) (q := (RX10, TX10, 4)) (b := r2) (d' := d + 7) (mc' := 0) (ms' := 0) (As := []) (st := []) (c := 0 + mc3) (sl := 0 + ms3) kmX10_size kw_750 (by omega) rfl (Nat.le_of_ble_eq_true rfl) he rfl rfl hc3 hs3 dX11_work_79 (fun E M9 hx => kz_Tout rfl hc3 hs3 hx) (kz_Cmono (fun v M18 h => ?_) (fun _ _ h => h) h)
    obtain ⟨r19, rfl, h⟩ := h
    show kz_Z G (d + 8) mc ms mX11_work Qr Qx 82 [(3, .ref r2), (0, .ref a0), (1, .int p1), (2, .int p2)] [.int r19] M18 (0 + mc3) (0 + ms3)
    exact kz_iret (pc := 82) rfl hc3 hs3 dX11_work_82 h
  by_cases hk5 : p2 = 5
  · replace h := h.2.2.2.2.2.1 hk5
    refine kz_tableIn (pc := 7) (off := 76) (tgt := 83) (by rw [hk5]; decide) (by rw [hk5]; decide) (by rw [hk5]; decide) (by decide) dX11_work_7 ?_
    refine kz_aload_n (pc := 83) 0 (v := .ref r2) (i := 3) rfl rfl rfl dX11_work_83 ?_
    refine kz_iconst (pc := 84) (v := 1) (by decide) dX11_work_84 ?_
    obtain ⟨⟨fs25, he⟩, h⟩ := h
    refine kz_callV (pc := 85) (μ' := mX10_linesOf) (ci := 9) (q := (RX10, TX10, 4)) (b := r2) (d' := d + 7) (mc' := 0) (ms' := 0) (As := [.int 1]) (st := []) (c := 0 + mc3) (sl := 0 + ms3) kmX10_linesOf kw_751 (by omega) rfl (Nat.le_of_ble_eq_true rfl) he rfl rfl hc3 hs3 dX11_work_85 (fun E M9 hx => kz_Tout rfl hc3 hs3 hx) (kz_Cmono (fun v M22 h => ?_) (fun _ _ h => h) h)
    obtain ⟨r23, rfl, h⟩ := h
    show kz_Z G (d + 8) mc ms mX11_work Qr Qx 88 [(3, .ref r2), (0, .ref a0), (1, .int p1), (2, .int p2)] [.int r23] M22 (0 + mc3) (0 + ms3)
    exact kz_iret (pc := 88) rfl hc3 hs3 dX11_work_88 h
  by_cases hk6 : p2 = 6
  · replace h := h.2.2.2.2.2.2.1 hk6
    refine kz_tableIn (pc := 7) (off := 82) (tgt := 89) (by rw [hk6]; decide) (by rw [hk6]; decide) (by rw [hk6]; decide) (by decide) dX11_work_7 ?_
    refine kz_aload_n (pc := 89) 0 (v := .ref r2) (i := 3) rfl rfl rfl dX11_work_89 ?_
    obtain ⟨⟨fs29, he⟩, h⟩ := h
    refine kz_callV (pc := 90) (μ' := mX10_payOfCounting) (ci := 9) (q := (RX10, TX10, 4)) (b := r2) (d' := d + 7) (mc' := 0) (ms' := 0) (As := []) (st := []) (c := 0 + mc3) (sl := 0 + ms3) kmX10_payOfCounting kw_752 (by omega) rfl (Nat.le_of_ble_eq_true rfl) he rfl rfl hc3 hs3 dX11_work_90 (fun E M9 hx => kz_Tout rfl hc3 hs3 hx) (kz_Cmono (fun v M26 h => ?_) (fun _ _ h => h) h)
    obtain ⟨r27, rfl, h⟩ := h
    show kz_Z G (d + 8) mc ms mX11_work Qr Qx 93 [(3, .ref r2), (0, .ref a0), (1, .int p1), (2, .int p2)] [.int r27] M26 (0 + mc3) (0 + ms3)
    exact kz_iret (pc := 93) rfl hc3 hs3 dX11_work_93 h
  by_cases hk7 : p2 = 7
  · replace h := h.2.2.2.2.2.2.2.1 hk7
    refine kz_tableIn (pc := 7) (off := 87) (tgt := 94) (by rw [hk7]; decide) (by rw [hk7]; decide) (by rw [hk7]; decide) (by decide) dX11_work_7 ?_
    refine kz_aload_n (pc := 94) 0 (v := .ref r2) (i := 3) rfl rfl rfl dX11_work_94 ?_
    obtain ⟨fs30, v31, hM, hv, h⟩ := h
    refine kz_getf (pc := 95) (k := 2) kcX10 hM hv (by decide) kw_1076 dX11_work_95 ?_
    refine kz_iconst (pc := 98) (v := 0) (by decide) dX11_work_98 ?_
    refine kz_aload_n (pc := 99) 0 (v := .ref r2) (i := 3) rfl rfl rfl dX11_work_99 ?_
    obtain ⟨fs32, v33, hM, hv, h⟩ := h
    refine kz_getf (pc := 100) (k := 2) kcX10 hM hv (by decide) kw_1076 dX11_work_100 ?_
    obtain ⟨⟨fs41, he⟩, h⟩ := h
    refine kz_callV (pc := 103) (μ' := mX6_size) (ci := 6) (q := (RX6, TX6, 3)) (b := v33) (d' := d + 7) (mc' := 0) (ms' := 0) (As := []) (st := [.int 0, .ref v31]) (c := 0 + mc3) (sl := 0 + ms3) kmX6_size kw_703 (by omega) rfl (Nat.le_of_ble_eq_true rfl) he rfl rfl hc3 hs3 dX11_work_103 (fun E M9 hx => kz_Tout rfl hc3 hs3 hx) (kz_Cmono (fun v M34 h => ?_) (fun _ _ h => h) h)
    obtain ⟨r35, rfl, h⟩ := h
    show kz_Z G (d + 8) mc ms mX11_work Qr Qx 106 [(3, .ref r2), (0, .ref a0), (1, .int p1), (2, .int p2)] [.int r35, .int 0, .ref v31] M34 (0 + mc3) (0 + ms3)
    obtain ⟨⟨fs40, he⟩, h⟩ := h
    refine kz_callV (pc := 106) (μ' := mX6_differentBetween) (ci := 6) (q := (RX6, TX6, 3)) (b := v31) (d' := d + 7) (mc' := 0) (ms' := 0) (As := [.int 0, .int r35]) (st := []) (c := 0 + mc3) (sl := 0 + ms3) kmX6_differentBetween kw_757 (by omega) rfl (Nat.le_of_ble_eq_true rfl) he rfl rfl hc3 hs3 dX11_work_106 (fun E M9 hx => kz_Tout rfl hc3 hs3 hx) (kz_Cmono (fun v M37 h => ?_) (fun _ _ h => h) h)
    obtain ⟨r38, rfl, h⟩ := h
    show kz_Z G (d + 8) mc ms mX11_work Qr Qx 109 [(3, .ref r2), (0, .ref a0), (1, .int p1), (2, .int p2)] [.int r38] M37 (0 + mc3) (0 + ms3)
    exact kz_iret (pc := 109) rfl hc3 hs3 dX11_work_109 h
  replace h := h.2.2.2.2.2.2.2.2 hk0 hk1 hk2 hk3 hk4 hk5 hk6 hk7
  refine kz_tableOut (pc := 7) (tgt := 110) (kz_swout (lo := 0) (n := 8) (by decide) (by decide) (kz_all8 (kz_swne (by decide) hk0) (kz_swne (by decide) hk1) (kz_swne (by decide) hk2) (kz_swne (by decide) hk3) (kz_swne (by decide) hk4) (kz_swne (by decide) hk5) (kz_swne (by decide) hk6) (kz_swne (by decide) hk7))) (by decide) dX11_work_7 ?_
  exact kz_throwS (pc := 110) (ik := 134) (is := 195) (ic := 138) (j := 1003) (text := "no such number of a work") hG.1 hG.2.1 hG.2.2.1 (by decide +kernel) kz_xn kw_549 kw_19 (List.mem_of_getElem? (i := 3) rfl) kz_xw_IllegalArgumentException kz_xg_IllegalArgumentException rfl (by show 2 + 3 < _; omega) (by decide) (Nat.le_of_ble_eq_true rfl) h.1 h.2.1 dX11_work_110 dX11_work_113 dX11_work_114 dX11_work_116 dX11_work_119 h.2.2
theorem dX11_line_0 : decode cX11_line 0 = .ok (.aload_n 0, 1) := by decide +kernel
theorem dX11_line_1 : decode cX11_line 1 = .ok (.iload_n 1, 1) := by decide +kernel
theorem dX11_line_2 : decode cX11_line 2 = .ok (.iload_n 2, 1) := by decide +kernel
theorem dX11_line_3 : decode cX11_line 3 = .ok (.invokevirtual 197, 3) := by decide +kernel
theorem dX11_line_6 : decode cX11_line 6 = .ok (.astore 4, 2) := by decide +kernel
theorem dX11_line_8 : decode cX11_line 8 = .ok (.iload_n 3, 1) := by decide +kernel
theorem dX11_line_9 : decode cX11_line 9 = .ok (.tableswitch 91 0 6 #[43, 49, 61, 67, 73, 79, 85], 43) := by decide +kernel
theorem dX11_line_52 : decode cX11_line 52 = .ok (.aload 4, 2) := by decide +kernel
theorem dX11_line_54 : decode cX11_line 54 = .ok (.getfield 201, 3) := by decide +kernel
theorem dX11_line_57 : decode cX11_line 57 = .ok (.ireturn, 1) := by decide +kernel
theorem dX11_line_58 : decode cX11_line 58 = .ok (.aload 4, 2) := by decide +kernel
theorem dX11_line_60 : decode cX11_line 60 = .ok (.getfield 204, 3) := by decide +kernel
theorem dX11_line_63 : decode cX11_line 63 = .ok (.aload 4, 2) := by decide +kernel
theorem dX11_line_65 : decode cX11_line 65 = .ok (.getfield 201, 3) := by decide +kernel
theorem dX11_line_68 : decode cX11_line 68 = .ok (.isub, 1) := by decide +kernel
theorem dX11_line_69 : decode cX11_line 69 = .ok (.ireturn, 1) := by decide +kernel
theorem dX11_line_70 : decode cX11_line 70 = .ok (.aload 4, 2) := by decide +kernel
theorem dX11_line_72 : decode cX11_line 72 = .ok (.getfield 207, 3) := by decide +kernel
theorem dX11_line_75 : decode cX11_line 75 = .ok (.ireturn, 1) := by decide +kernel
theorem dX11_line_76 : decode cX11_line 76 = .ok (.aload 4, 2) := by decide +kernel
theorem dX11_line_78 : decode cX11_line 78 = .ok (.getfield 210, 3) := by decide +kernel
theorem dX11_line_81 : decode cX11_line 81 = .ok (.ireturn, 1) := by decide +kernel
theorem dX11_line_82 : decode cX11_line 82 = .ok (.aload 4, 2) := by decide +kernel
theorem dX11_line_84 : decode cX11_line 84 = .ok (.getfield 213, 3) := by decide +kernel
theorem dX11_line_87 : decode cX11_line 87 = .ok (.ireturn, 1) := by decide +kernel
theorem dX11_line_88 : decode cX11_line 88 = .ok (.aload 4, 2) := by decide +kernel
theorem dX11_line_90 : decode cX11_line 90 = .ok (.getfield 216, 3) := by decide +kernel
theorem dX11_line_93 : decode cX11_line 93 = .ok (.ireturn, 1) := by decide +kernel
theorem dX11_line_94 : decode cX11_line 94 = .ok (.aload 4, 2) := by decide +kernel
theorem dX11_line_96 : decode cX11_line 96 = .ok (.invokevirtual 219, 3) := by decide +kernel
theorem dX11_line_99 : decode cX11_line 99 = .ok (.ireturn, 1) := by decide +kernel
theorem dX11_line_100 : decode cX11_line 100 = .ok (.new 134, 3) := by decide +kernel
theorem dX11_line_103 : decode cX11_line 103 = .ok (.dup, 1) := by decide +kernel
theorem dX11_line_104 : decode cX11_line 104 = .ok (.ldc 222, 2) := by decide +kernel
theorem dX11_line_106 : decode cX11_line 106 = .ok (.invokespecial 138, 3) := by decide +kernel
theorem dX11_line_109 : decode cX11_line 109 = .ok (.athrow, 1) := by decide +kernel
theorem rX11_line_0 {G : kz_G} {d : Nat} {mc ms : Nat} {Qr : Option Value → kz_M → Prop} {Qx : String → kz_M → Prop} {a0 : Nat} {p1 : Int32} {p2 : Int32} {p3 : Int32}  {M : kz_M} (hG : kz_stat G) (h : (∃ fs23, (M).1 a0 = some (.inl (10, fs23))) ∧ ∃ mc3 ms3, 0 + mc3 ≤ mc ∧ 0 + ms3 ≤ ms ∧ kz_C G (d + 8) mc3 ms3 mX11_lineOrThrow [.ref a0, .int p1, .int p2] M (fun v M1 => ∃ r2 : Nat, v = some (.ref r2) ∧ ((p3 = 0 → ∃ fs4 v5, (M1).1 r2 = some (.inl (3, fs4)) ∧ fs4[1]? = some (.int v5) ∧ (Qr (some (.int v5)) M1)) ∧ (p3 = 1 → ∃ fs6 v7, (M1).1 r2 = some (.inl (3, fs6)) ∧ fs6[2]? = some (.int v7) ∧ (∃ fs8 v9, (M1).1 r2 = some (.inl (3, fs8)) ∧ fs8[1]? = some (.int v9) ∧ (Qr (some (.int (v7 - v9))) M1))) ∧ (p3 = 2 → ∃ fs10 v11, (M1).1 r2 = some (.inl (3, fs10)) ∧ fs10[3]? = some (.int v11) ∧ (Qr (some (.int v11)) M1)) ∧ (p3 = 3 → ∃ fs12 v13, (M1).1 r2 = some (.inl (3, fs12)) ∧ fs12[6]? = some (.int v13) ∧ (Qr (some (.int v13)) M1)) ∧ (p3 = 4 → ∃ fs14 v15, (M1).1 r2 = some (.inl (3, fs14)) ∧ fs14[5]? = some (.int v15) ∧ (Qr (some (.int v15)) M1)) ∧ (p3 = 5 → ∃ fs16 v17, (M1).1 r2 = some (.inl (3, fs16)) ∧ fs16[4]? = some (.int v17) ∧ (Qr (some (.int v17)) M1)) ∧ (p3 = 6 → (∃ fs21, (M1).1 r2 = some (.inl (3, fs21))) ∧ kz_C G (d + 8) 0 0 mX3_different [.ref r2] M1 (fun v M18 => ∃ r19 : Int32, v = some (.int r19) ∧ (Qr (some (.int r19)) M18)) Qx) ∧ (¬ p3 = 0 → ¬ p3 = 1 → ¬ p3 = 2 → ¬ p3 = 3 → ¬ p3 = 4 → ¬ p3 = 5 → ¬ p3 = 6 → 0 + mc3 + 1 ≤ mc ∧ 0 + ms3 + 6 ≤ ms ∧ ∀ g22, Qx "java/lang/IllegalArgumentException" ((M1).1, (M1).2 + g22)))) Qx) : kz_C G (d + 9) mc ms mX11_line [.ref a0, .int p1, .int p2, .int p3] M Qr Qx := by
  refine kz_enter (n := 3) kmX11_line.1 (Nat.le_of_ble_eq_true rfl) (ls := [(0, .ref a0), (1, .int p1), (2, .int p2), (3, .int p3)]) rfl ?_
  refine kz_aload_n (pc := 0) 0 (v := .ref a0) (i := 0) rfl rfl rfl dX11_line_0 ?_
  refine kz_iload_n (pc := 1) 1 (i := 1) rfl rfl dX11_line_1 ?_
  refine kz_iload_n (pc := 2) 2 (i := 2) rfl rfl dX11_line_2 ?_
  obtain ⟨⟨fs23, he⟩, h⟩ := h
  obtain ⟨mc3, ms3, hc3, hs3, h⟩ := h
  refine kz_callV (pc := 3) (μ' := mX11_lineOrThrow) (ci := 10) (q := (RX11, TX11, 10)) (b := a0) (d' := d + 8) (mc' := mc3) (ms' := ms3) (As := [.int p1, .int p2]) (st := []) (c := 0) (sl := 0) kmX11_lineOrThrow kw_770 (by omega) rfl (Nat.le_of_ble_eq_true rfl) he rfl rfl hc3 hs3 dX11_line_3 (fun E M9 hx => kz_Tout rfl hc3 hs3 hx) (kz_Cmono (fun v M1 h => ?_) (fun _ _ h => h) h)
  obtain ⟨r2, rfl, h⟩ := h
  show kz_Z G (d + 9) mc ms mX11_line Qr Qx 6 [(0, .ref a0), (1, .int p1), (2, .int p2), (3, .int p3)] [.ref r2] M1 (0 + mc3) (0 + ms3)
  refine kz_astore (pc := 6) (i := 4) (v := .ref r2) (ls' := [(0, .ref a0), (1, .int p1), (2, .int p2), (3, .int p3)]) rfl (by decide) rfl dX11_line_6 ?_
  refine kz_iload_n (pc := 8) 4 (i := 3) rfl rfl dX11_line_8 ?_
  by_cases hk0 : p3 = 0
  · replace h := h.1 hk0
    refine kz_tableIn (pc := 9) (off := 43) (tgt := 52) (by rw [hk0]; decide) (by rw [hk0]; decide) (by rw [hk0]; decide) (by decide) dX11_line_9 ?_
    refine kz_aload (pc := 52) 0 (v := .ref r2) (i := 4) rfl rfl dX11_line_52 ?_
    obtain ⟨fs4, v5, hM, hv, h⟩ := h
    refine kz_getf (pc := 54) (k := 1) kcX3 hM hv (by decide) kw_1038 dX11_line_54 ?_
    exact kz_iret (pc := 57) rfl hc3 hs3 dX11_line_57 h
  by_cases hk1 : p3 = 1
  · replace h := h.2.1 hk1
    refine kz_tableIn (pc := 9) (off := 49) (tgt := 58) (by rw [hk1]; decide) (by rw [hk1]; decide) (by rw [hk1]; decide) (by decide) dX11_line_9 ?_
    refine kz_aload (pc := 58) 0 (v := .ref r2) (i := 4) rfl rfl dX11_line_58 ?_
    obtain ⟨fs6, v7, hM, hv, h⟩ := h
    refine kz_getf (pc := 60) (k := 2) kcX3 hM hv (by decide) kw_1041 dX11_line_60 ?_
    refine kz_aload (pc := 63) 0 (v := .ref r2) (i := 4) rfl rfl dX11_line_63 ?_
    obtain ⟨fs8, v9, hM, hv, h⟩ := h
    refine kz_getf (pc := 65) (k := 1) kcX3 hM hv (by decide) kw_1038 dX11_line_65 ?_
    refine kz_isub (pc := 68) dX11_line_68 ?_
    exact kz_iret (pc := 69) rfl hc3 hs3 dX11_line_69 h
  by_cases hk2 : p3 = 2
  · replace h := h.2.2.1 hk2
    refine kz_tableIn (pc := 9) (off := 61) (tgt := 70) (by rw [hk2]; decide) (by rw [hk2]; decide) (by rw [hk2]; decide) (by decide) dX11_line_9 ?_
    refine kz_aload (pc := 70) 0 (v := .ref r2) (i := 4) rfl rfl dX11_line_70 ?_
    obtain ⟨fs10, v11, hM, hv, h⟩ := h
    refine kz_getf (pc := 72) (k := 3) kcX3 hM hv (by decide) kw_1044 dX11_line_72 ?_
    exact kz_iret (pc := 75) rfl hc3 hs3 dX11_line_75 h
  by_cases hk3 : p3 = 3
  · replace h := h.2.2.2.1 hk3
    refine kz_tableIn (pc := 9) (off := 67) (tgt := 76) (by rw [hk3]; decide) (by rw [hk3]; decide) (by rw [hk3]; decide) (by decide) dX11_line_9 ?_
    refine kz_aload (pc := 76) 0 (v := .ref r2) (i := 4) rfl rfl dX11_line_76 ?_
    obtain ⟨fs12, v13, hM, hv, h⟩ := h
    refine kz_getf (pc := 78) (k := 6) kcX3 hM hv (by decide) kw_1052 dX11_line_78 ?_
    exact kz_iret (pc := 81) rfl hc3 hs3 dX11_line_81 h
  by_cases hk4 : p3 = 4
  · replace h := h.2.2.2.2.1 hk4
    refine kz_tableIn (pc := 9) (off := 73) (tgt := 82) (by rw [hk4]; decide) (by rw [hk4]; decide) (by rw [hk4]; decide) (by decide) dX11_line_9 ?_
    refine kz_aload (pc := 82) 0 (v := .ref r2) (i := 4) rfl rfl dX11_line_82 ?_
    obtain ⟨fs14, v15, hM, hv, h⟩ := h
    refine kz_getf (pc := 84) (k := 5) kcX3 hM hv (by decide) kw_1049 dX11_line_84 ?_
    exact kz_iret (pc := 87) rfl hc3 hs3 dX11_line_87 h
  by_cases hk5 : p3 = 5
  · replace h := h.2.2.2.2.2.1 hk5
    refine kz_tableIn (pc := 9) (off := 79) (tgt := 88) (by rw [hk5]; decide) (by rw [hk5]; decide) (by rw [hk5]; decide) (by decide) dX11_line_9 ?_
    refine kz_aload (pc := 88) 0 (v := .ref r2) (i := 4) rfl rfl dX11_line_88 ?_
    obtain ⟨fs16, v17, hM, hv, h⟩ := h
    refine kz_getf (pc := 90) (k := 4) kcX3 hM hv (by decide) kw_1047 dX11_line_90 ?_
    exact kz_iret (pc := 93) rfl hc3 hs3 dX11_line_93 h
  by_cases hk6 : p3 = 6
  · replace h := h.2.2.2.2.2.2.1 hk6
    refine kz_tableIn (pc := 9) (off := 85) (tgt := 94) (by rw [hk6]; decide) (by rw [hk6]; decide) (by rw [hk6]; decide) (by decide) dX11_line_9 ?_
    refine kz_aload (pc := 94) 0 (v := .ref r2) (i := 4) rfl rfl dX11_line_94 ?_
    obtain ⟨⟨fs21, he⟩, h⟩ := h
    refine kz_callV (pc := 96) (μ' := mX3_different) (ci := 3) (q := (RX3, TX3, 7)) (b := r2) (d' := d + 8) (mc' := 0) (ms' := 0) (As := []) (st := []) (c := 0 + mc3) (sl := 0 + ms3) kmX3_different kw_776 (by omega) rfl (Nat.le_of_ble_eq_true rfl) he rfl rfl hc3 hs3 dX11_line_96 (fun E M9 hx => kz_Tout rfl hc3 hs3 hx) (kz_Cmono (fun v M18 h => ?_) (fun _ _ h => h) h)
    obtain ⟨r19, rfl, h⟩ := h
    show kz_Z G (d + 9) mc ms mX11_line Qr Qx 99 [(4, .ref r2), (0, .ref a0), (1, .int p1), (2, .int p2), (3, .int p3)] [.int r19] M18 (0 + mc3) (0 + ms3)
    exact kz_iret (pc := 99) rfl hc3 hs3 dX11_line_99 h
  replace h := h.2.2.2.2.2.2.2 hk0 hk1 hk2 hk3 hk4 hk5 hk6
  refine kz_tableOut (pc := 9) (tgt := 100) (kz_swout (lo := 0) (n := 7) (by decide) (by decide) (kz_all7 (kz_swne (by decide) hk0) (kz_swne (by decide) hk1) (kz_swne (by decide) hk2) (kz_swne (by decide) hk3) (kz_swne (by decide) hk4) (kz_swne (by decide) hk5) (kz_swne (by decide) hk6))) (by decide) dX11_line_9 ?_
  exact kz_throwS (pc := 100) (ik := 134) (is := 222) (ic := 138) (j := 1004) (text := "no such number of a line") hG.1 hG.2.1 hG.2.2.1 (by decide +kernel) kz_xn kw_549 kw_19 (List.mem_of_getElem? (i := 4) rfl) kz_xw_IllegalArgumentException kz_xg_IllegalArgumentException rfl (by show 2 + 3 < _; omega) (by decide) (Nat.le_of_ble_eq_true rfl) h.1 h.2.1 dX11_line_100 dX11_line_103 dX11_line_104 dX11_line_106 dX11_line_109 h.2.2
theorem dX11_likeLine_0 : decode cX11_likeLine 0 = .ok (.aload_n 0, 1) := by decide +kernel
theorem dX11_likeLine_1 : decode cX11_likeLine 1 = .ok (.iload_n 1, 1) := by decide +kernel
theorem dX11_likeLine_2 : decode cX11_likeLine 2 = .ok (.iload_n 2, 1) := by decide +kernel
theorem dX11_likeLine_3 : decode cX11_likeLine 3 = .ok (.invokevirtual 197, 3) := by decide +kernel
theorem dX11_likeLine_6 : decode cX11_likeLine 6 = .ok (.astore_n 3, 1) := by decide +kernel
theorem dX11_likeLine_7 : decode cX11_likeLine 7 = .ok (.aload_n 0, 1) := by decide +kernel
theorem dX11_likeLine_8 : decode cX11_likeLine 8 = .ok (.iload_n 1, 1) := by decide +kernel
theorem dX11_likeLine_9 : decode cX11_likeLine 9 = .ok (.invokevirtual 165, 3) := by decide +kernel
theorem dX11_likeLine_12 : decode cX11_likeLine 12 = .ok (.getfield 169, 3) := by decide +kernel
theorem dX11_likeLine_15 : decode cX11_likeLine 15 = .ok (.istore 4, 2) := by decide +kernel
theorem dX11_likeLine_17 : decode cX11_likeLine 17 = .ok (.iconst 0, 1) := by decide +kernel
theorem dX11_likeLine_18 : decode cX11_likeLine 18 = .ok (.istore 5, 2) := by decide +kernel
theorem dX11_likeLine_20 : decode cX11_likeLine 20 = .ok (.iload 5, 2) := by decide +kernel
theorem dX11_likeLine_22 : decode cX11_likeLine 22 = .ok (.iload_n 1, 1) := by decide +kernel
theorem dX11_likeLine_23 : decode cX11_likeLine 23 = .ok (.if_icmp .ge 54, 3) := by decide +kernel
theorem dX11_likeLine_26 : decode cX11_likeLine 26 = .ok (.aload_n 0, 1) := by decide +kernel
theorem dX11_likeLine_27 : decode cX11_likeLine 27 = .ok (.getfield 26, 3) := by decide +kernel
theorem dX11_likeLine_30 : decode cX11_likeLine 30 = .ok (.iload 4, 2) := by decide +kernel
theorem dX11_likeLine_32 : decode cX11_likeLine 32 = .ok (.iload 5, 2) := by decide +kernel
theorem dX11_likeLine_34 : decode cX11_likeLine 34 = .ok (.invokevirtual 224, 3) := by decide +kernel
theorem dX11_likeLine_37 : decode cX11_likeLine 37 = .ok (.astore 6, 2) := by decide +kernel
theorem dX11_likeLine_39 : decode cX11_likeLine 39 = .ok (.aload 6, 2) := by decide +kernel
theorem dX11_likeLine_41 : decode cX11_likeLine 41 = .ok (.ifnonnull 7, 3) := by decide +kernel
theorem dX11_likeLine_44 : decode cX11_likeLine 44 = .ok (.iconst (-1), 1) := by decide +kernel
theorem dX11_likeLine_45 : decode cX11_likeLine 45 = .ok (.goto 9, 3) := by decide +kernel
theorem dX11_likeLine_48 : decode cX11_likeLine 48 = .ok (.aload 6, 2) := by decide +kernel
theorem dX11_likeLine_50 : decode cX11_likeLine 50 = .ok (.aload_n 3, 1) := by decide +kernel
theorem dX11_likeLine_51 : decode cX11_likeLine 51 = .ok (.invokevirtual 228, 3) := by decide +kernel
theorem dX11_likeLine_54 : decode cX11_likeLine 54 = .ok (.istore 7, 2) := by decide +kernel
theorem dX11_likeLine_56 : decode cX11_likeLine 56 = .ok (.iload 7, 2) := by decide +kernel
theorem dX11_likeLine_58 : decode cX11_likeLine 58 = .ok (.iconst (-1), 1) := by decide +kernel
theorem dX11_likeLine_59 : decode cX11_likeLine 59 = .ok (.if_icmp .eq 12, 3) := by decide +kernel
theorem dX11_likeLine_62 : decode cX11_likeLine 62 = .ok (.bipush 100, 2) := by decide +kernel
theorem dX11_likeLine_64 : decode cX11_likeLine 64 = .ok (.iload 5, 2) := by decide +kernel
theorem dX11_likeLine_66 : decode cX11_likeLine 66 = .ok (.imul, 1) := by decide +kernel
theorem dX11_likeLine_67 : decode cX11_likeLine 67 = .ok (.iload 7, 2) := by decide +kernel
theorem dX11_likeLine_69 : decode cX11_likeLine 69 = .ok (.iadd, 1) := by decide +kernel
theorem dX11_likeLine_70 : decode cX11_likeLine 70 = .ok (.ireturn, 1) := by decide +kernel
theorem dX11_likeLine_71 : decode cX11_likeLine 71 = .ok (.iinc 5 1, 3) := by decide +kernel
theorem dX11_likeLine_74 : decode cX11_likeLine 74 = .ok (.goto (-54), 3) := by decide +kernel
theorem dX11_likeLine_77 : decode cX11_likeLine 77 = .ok (.aload_n 0, 1) := by decide +kernel
theorem dX11_likeLine_78 : decode cX11_likeLine 78 = .ok (.iload_n 1, 1) := by decide +kernel
theorem dX11_likeLine_79 : decode cX11_likeLine 79 = .ok (.invokevirtual 165, 3) := by decide +kernel
theorem dX11_likeLine_82 : decode cX11_likeLine 82 = .ok (.aload_n 3, 1) := by decide +kernel
theorem dX11_likeLine_83 : decode cX11_likeLine 83 = .ok (.invokevirtual 228, 3) := by decide +kernel
theorem dX11_likeLine_86 : decode cX11_likeLine 86 = .ok (.istore 5, 2) := by decide +kernel
theorem dX11_likeLine_88 : decode cX11_likeLine 88 = .ok (.iload 5, 2) := by decide +kernel
theorem dX11_likeLine_90 : decode cX11_likeLine 90 = .ok (.iload_n 2, 1) := by decide +kernel
theorem dX11_likeLine_91 : decode cX11_likeLine 91 = .ok (.if_icmp .ne 7, 3) := by decide +kernel
theorem dX11_likeLine_94 : decode cX11_likeLine 94 = .ok (.iconst (-1), 1) := by decide +kernel
theorem dX11_likeLine_95 : decode cX11_likeLine 95 = .ok (.goto 10, 3) := by decide +kernel
theorem dX11_likeLine_98 : decode cX11_likeLine 98 = .ok (.bipush 100, 2) := by decide +kernel
theorem dX11_likeLine_100 : decode cX11_likeLine 100 = .ok (.iload_n 1, 1) := by decide +kernel
theorem dX11_likeLine_101 : decode cX11_likeLine 101 = .ok (.imul, 1) := by decide +kernel
theorem dX11_likeLine_102 : decode cX11_likeLine 102 = .ok (.iload 5, 2) := by decide +kernel
theorem dX11_likeLine_104 : decode cX11_likeLine 104 = .ok (.iadd, 1) := by decide +kernel
theorem dX11_likeLine_105 : decode cX11_likeLine 105 = .ok (.ireturn, 1) := by decide +kernel
def zX11_likeLine_20 (G : kz_G) (d mc ms : Nat) (Qr : Option Value → kz_M → Prop) (Qx : String → kz_M → Prop) (x0 : Nat) (x1 : Int32) (x2 : Int32) (x3 : Nat) (x4 : Int32) (x5 : Int32)  (M : kz_M) (c sl : Nat) : Prop := kz_Z G (d + 9) mc ms mX11_likeLine Qr Qx 20 [(0, .ref x0), (1, .int x1), (2, .int x2), (3, .ref x3), (4, .int x4), (5, .int x5)] [] M c sl
theorem rX11_likeLine_0 {G : kz_G} {d : Nat} {mc ms : Nat} {Qr : Option Value → kz_M → Prop} {Qx : String → kz_M → Prop} {a0 : Nat} {p1 : Int32} {p2 : Int32}  {M : kz_M} (h : (∃ fs10, (M).1 a0 = some (.inl (10, fs10))) ∧ ∃ mc3 ms3, 0 + mc3 ≤ mc ∧ 0 + ms3 ≤ ms ∧ kz_C G (d + 8) mc3 ms3 mX11_lineOrThrow [.ref a0, .int p1, .int p2] M (fun v M1 => ∃ r2 : Nat, v = some (.ref r2) ∧ ((∃ fs9, (M1).1 a0 = some (.inl (10, fs9))) ∧ ∃ mc6 ms6, 0 + mc3 + mc6 ≤ mc ∧ 0 + ms3 + ms6 ≤ ms ∧ kz_C G (d + 8) mc6 ms6 mX11_workOrThrow [.ref a0, .int p1] M1 (fun v M4 => ∃ r5 : Nat, v = some (.ref r5) ∧ (∃ fs7 v8, (M4).1 r5 = some (.inl (9, fs7)) ∧ fs7[0]? = some (.int v8) ∧ (zX11_likeLine_20 G d mc ms Qr Qx a0 p1 p2 r2 v8 0 M4 (0 + mc3 + mc6) (0 + ms3 + ms6)))) Qx)) Qx) : kz_C G (d + 9) mc ms mX11_likeLine [.ref a0, .int p1, .int p2] M Qr Qx := by
  refine kz_enter (n := 2) kmX11_likeLine.1 (Nat.le_of_ble_eq_true rfl) (ls := [(0, .ref a0), (1, .int p1), (2, .int p2)]) rfl ?_
  refine kz_aload_n (pc := 0) 0 (v := .ref a0) (i := 0) rfl rfl rfl dX11_likeLine_0 ?_
  refine kz_iload_n (pc := 1) 1 (i := 1) rfl rfl dX11_likeLine_1 ?_
  refine kz_iload_n (pc := 2) 2 (i := 2) rfl rfl dX11_likeLine_2 ?_
  obtain ⟨⟨fs10, he⟩, h⟩ := h
  obtain ⟨mc3, ms3, hc3, hs3, h⟩ := h
  refine kz_callV (pc := 3) (μ' := mX11_lineOrThrow) (ci := 10) (q := (RX11, TX11, 10)) (b := a0) (d' := d + 8) (mc' := mc3) (ms' := ms3) (As := [.int p1, .int p2]) (st := []) (c := 0) (sl := 0) kmX11_lineOrThrow kw_770 (by omega) rfl (Nat.le_of_ble_eq_true rfl) he rfl rfl hc3 hs3 dX11_likeLine_3 (fun E M9 hx => kz_Tout rfl hc3 hs3 hx) (kz_Cmono (fun v M1 h => ?_) (fun _ _ h => h) h)
  obtain ⟨r2, rfl, h⟩ := h
  show kz_Z G (d + 9) mc ms mX11_likeLine Qr Qx 6 [(0, .ref a0), (1, .int p1), (2, .int p2)] [.ref r2] M1 (0 + mc3) (0 + ms3)
  refine kz_astore_n (pc := 6) (i := 3) (v := .ref r2) (ls' := [(0, .ref a0), (1, .int p1), (2, .int p2)]) rfl rfl (by decide) rfl dX11_likeLine_6 ?_
  refine kz_aload_n (pc := 7) 1 (v := .ref a0) (i := 0) rfl rfl rfl dX11_likeLine_7 ?_
  refine kz_iload_n (pc := 8) 2 (i := 1) rfl rfl dX11_likeLine_8 ?_
  obtain ⟨⟨fs9, he⟩, h⟩ := h
  obtain ⟨mc6, ms6, hc6, hs6, h⟩ := h
  refine kz_callV (pc := 9) (μ' := mX11_workOrThrow) (ci := 10) (q := (RX11, TX11, 10)) (b := a0) (d' := d + 8) (mc' := mc6) (ms' := ms6) (As := [.int p1]) (st := []) (c := 0 + mc3) (sl := 0 + ms3) kmX11_workOrThrow kw_744 (by omega) rfl (Nat.le_of_ble_eq_true rfl) he rfl rfl hc6 hs6 dX11_likeLine_9 (fun E M9 hx => kz_Tout rfl hc6 hs6 hx) (kz_Cmono (fun v M4 h => ?_) (fun _ _ h => h) h)
  obtain ⟨r5, rfl, h⟩ := h
  show kz_Z G (d + 9) mc ms mX11_likeLine Qr Qx 12 [(3, .ref r2), (0, .ref a0), (1, .int p1), (2, .int p2)] [.ref r5] M4 (0 + mc3 + mc6) (0 + ms3 + ms6)
  obtain ⟨fs7, v8, hM, hv, h⟩ := h
  refine kz_getf (pc := 12) (k := 0) kcX10 hM hv (by decide) kw_1070 dX11_likeLine_12 ?_
  refine kz_istore (pc := 15) (i := 4) (ls' := [(3, .ref r2), (0, .ref a0), (1, .int p1), (2, .int p2)]) (by decide) rfl dX11_likeLine_15 ?_
  refine kz_iconst (pc := 17) (v := 0) (by decide) dX11_likeLine_17 ?_
  refine kz_istore (pc := 18) (i := 5) (ls' := [(4, .int v8), (3, .ref r2), (0, .ref a0), (1, .int p1), (2, .int p2)]) (by decide) rfl dX11_likeLine_18 ?_
  refine kz_sub [3, 4, 5, 2, 1, 0] rfl ?_
  exact h
theorem rX11_likeLine_20 {G : kz_G} {d : Nat} {mc ms : Nat} {Qr : Option Value → kz_M → Prop} {Qx : String → kz_M → Prop} {x0 : Nat} {x1 : Int32} {x2 : Int32} {x3 : Nat} {x4 : Int32} {x5 : Int32}  {M : kz_M} {c sl : Nat} (hc : c ≤ mc) (hs : sl ≤ ms) (h : (x1 ≤ x5 → (∃ fs8, (M).1 x0 = some (.inl (10, fs8))) ∧ ∃ mc3 ms3, c + mc3 ≤ mc ∧ sl + ms3 ≤ ms ∧ kz_C G (d + 8) mc3 ms3 mX11_workOrThrow [.ref x0, .int x1] M (fun v M1 => ∃ r2 : Nat, v = some (.ref r2) ∧ ((∃ fs7, (M1).1 r2 = some (.inl (9, fs7))) ∧ kz_C G (d + 8) 0 0 mX10_firstLike [.ref r2, .ref x3] M1 (fun v M4 => ∃ r5 : Int32, v = some (.int r5) ∧ ((¬ r5 = x2 → Qr (some (.int ((100 * x1) + r5))) M4) ∧ (r5 = x2 → Qr (some (.int ((-1)))) M4))) Qx)) Qx) ∧ (¬ x1 ≤ x5 → ∃ fs9 v10, (M).1 x0 = some (.inl (10, fs9)) ∧ fs9[2]? = some (.ref v10) ∧ ((∃ fs19, (M).1 v10 = some (.inl (8, fs19))) ∧ kz_C G (d + 8) 0 0 mX9_workOf [.ref v10, .int x4, .int x5] M (fun v M11 => ∃ r12 : Option Nat, v = some (kz_rf r12) ∧ ((r12 = none → (((-1) : Int32) = ((-1) : Int32) → zX11_likeLine_20 G d mc ms Qr Qx x0 x1 x2 x3 x4 (x5 + 1) M11 c sl) ∧ (¬ ((-1) : Int32) = ((-1) : Int32) → Qr (some (.int ((100 * x5) + ((-1))))) M11)) ∧ (∀ y14, r12 = some y14 → (∃ fs18, (M11).1 y14 = some (.inl (9, fs18))) ∧ kz_C G (d + 8) 0 0 mX10_firstLike [.ref y14, .ref x3] M11 (fun v M15 => ∃ r16 : Int32, v = some (.int r16) ∧ ((r16 = ((-1) : Int32) → zX11_likeLine_20 G d mc ms Qr Qx x0 x1 x2 x3 x4 (x5 + 1) M15 c sl) ∧ (¬ r16 = ((-1) : Int32) → Qr (some (.int ((100 * x5) + r16))) M15))) Qx))) Qx))) : zX11_likeLine_20 G d mc ms Qr Qx x0 x1 x2 x3 x4 x5  M c sl := by
  show kz_Z G (d + 9) mc ms mX11_likeLine Qr Qx 20 [(0, .ref x0), (1, .int x1), (2, .int x2), (3, .ref x3), (4, .int x4), (5, .int x5)] [] M c sl
  refine kz_iload (pc := 20) 5 (i := 5) rfl dX11_likeLine_20 ?_
  refine kz_iload_n (pc := 22) 1 (i := 1) rfl rfl dX11_likeLine_22 ?_
  refine kz_icmp_ge (pc := 23) (tgt := 77) (by decide) dX11_likeLine_23 (fun hb => ?_) (fun hb => ?_)
  · replace h := h.1 hb
    refine kz_aload_n (pc := 77) 0 (v := .ref x0) (i := 0) rfl rfl rfl dX11_likeLine_77 ?_
    refine kz_iload_n (pc := 78) 1 (i := 1) rfl rfl dX11_likeLine_78 ?_
    obtain ⟨⟨fs8, he⟩, h⟩ := h
    obtain ⟨mc3, ms3, hc3, hs3, h⟩ := h
    refine kz_callV (pc := 79) (μ' := mX11_workOrThrow) (ci := 10) (q := (RX11, TX11, 10)) (b := x0) (d' := d + 8) (mc' := mc3) (ms' := ms3) (As := [.int x1]) (st := []) (c := c) (sl := sl) kmX11_workOrThrow kw_744 (by omega) rfl (Nat.le_of_ble_eq_true rfl) he rfl rfl hc3 hs3 dX11_likeLine_79 (fun E M9 hx => kz_Tout rfl hc3 hs3 hx) (kz_Cmono (fun v M1 h => ?_) (fun _ _ h => h) h)
    obtain ⟨r2, rfl, h⟩ := h
    show kz_Z G (d + 9) mc ms mX11_likeLine Qr Qx 82 [(0, .ref x0), (1, .int x1), (2, .int x2), (3, .ref x3), (4, .int x4), (5, .int x5)] [.ref r2] M1 (c + mc3) (sl + ms3)
    refine kz_aload_n (pc := 82) 3 (v := .ref x3) (i := 3) rfl rfl rfl dX11_likeLine_82 ?_
    obtain ⟨⟨fs7, he⟩, h⟩ := h
    refine kz_callV (pc := 83) (μ' := mX10_firstLike) (ci := 9) (q := (RX10, TX10, 4)) (b := r2) (d' := d + 8) (mc' := 0) (ms' := 0) (As := [.ref x3]) (st := []) (c := c + mc3) (sl := sl + ms3) kmX10_firstLike kw_789 (by omega) rfl (Nat.le_of_ble_eq_true rfl) he rfl rfl hc3 hs3 dX11_likeLine_83 (fun E M9 hx => kz_Tout rfl hc3 hs3 hx) (kz_Cmono (fun v M4 h => ?_) (fun _ _ h => h) h)
    obtain ⟨r5, rfl, h⟩ := h
    show kz_Z G (d + 9) mc ms mX11_likeLine Qr Qx 86 [(0, .ref x0), (1, .int x1), (2, .int x2), (3, .ref x3), (4, .int x4), (5, .int x5)] [.int r5] M4 (c + mc3) (sl + ms3)
    refine kz_istore (pc := 86) (i := 5) (ls' := [(0, .ref x0), (1, .int x1), (2, .int x2), (3, .ref x3), (4, .int x4)]) (by decide) rfl dX11_likeLine_86 ?_
    refine kz_iload (pc := 88) 0 (i := 5) rfl dX11_likeLine_88 ?_
    refine kz_iload_n (pc := 90) 3 (i := 2) rfl rfl dX11_likeLine_90 ?_
    refine kz_icmp_ne (pc := 91) (tgt := 98) (by decide) dX11_likeLine_91 (fun hb => ?_) (fun hb => ?_)
    · replace h := h.1 hb
      refine kz_bipush (pc := 98) (v := 100) (by decide) dX11_likeLine_98 ?_
      refine kz_iload_n (pc := 100) 2 (i := 1) rfl rfl dX11_likeLine_100 ?_
      refine kz_imul (pc := 101) dX11_likeLine_101 ?_
      refine kz_iload (pc := 102) 0 (i := 5) rfl dX11_likeLine_102 ?_
      refine kz_iadd (pc := 104) dX11_likeLine_104 ?_
      exact kz_iret (pc := 105) rfl hc3 hs3 dX11_likeLine_105 h
    · replace h := h.2 hb
      refine kz_iconst (pc := 94) (v := (-1)) (by decide) dX11_likeLine_94 ?_
      refine kz_goto (pc := 95) (tgt := 105) (by decide) dX11_likeLine_95 ?_
      exact kz_iret (pc := 105) rfl hc3 hs3 dX11_likeLine_105 h
  · replace h := h.2 hb
    refine kz_aload_n (pc := 26) 0 (v := .ref x0) (i := 0) rfl rfl rfl dX11_likeLine_26 ?_
    obtain ⟨fs9, v10, hM, hv, h⟩ := h
    refine kz_getf (pc := 27) (k := 2) kcX11 hM hv (by decide) kw_277 dX11_likeLine_27 ?_
    refine kz_iload (pc := 30) 4 (i := 4) rfl dX11_likeLine_30 ?_
    refine kz_iload (pc := 32) 5 (i := 5) rfl dX11_likeLine_32 ?_
    obtain ⟨⟨fs19, he⟩, h⟩ := h
    refine kz_callV (pc := 34) (μ' := mX9_workOf) (ci := 8) (q := (RX9, TX9, 10)) (b := v10) (d' := d + 8) (mc' := 0) (ms' := 0) (As := [.int x4, .int x5]) (st := []) (c := c) (sl := sl) kmX9_workOf kw_702 (by omega) rfl (Nat.le_of_ble_eq_true rfl) he rfl rfl hc hs dX11_likeLine_34 (fun E M9 hx => kz_Tout rfl hc hs hx) (kz_Cmono (fun v M11 h => ?_) (fun _ _ h => h) h)
    obtain ⟨r12, rfl, h⟩ := h
    show kz_Z G (d + 9) mc ms mX11_likeLine Qr Qx 37 [(0, .ref x0), (1, .int x1), (2, .int x2), (3, .ref x3), (4, .int x4), (5, .int x5)] [kz_rf r12] M11 c sl
    refine kz_astore (pc := 37) (i := 6) (v := kz_rf r12) (ls' := [(0, .ref x0), (1, .int x1), (2, .int x2), (3, .ref x3), (4, .int x4), (5, .int x5)]) (kz_isr_rf _) (by decide) rfl dX11_likeLine_37 ?_
    refine kz_aload (pc := 39) 0 (v := kz_rf r12) (i := 6) rfl (kz_isr_rf _) dX11_likeLine_39 ?_
    rcases r12 with _ | y14
    · replace h := h.1 rfl
      refine kz_ifnonnull (pc := 41) (tgt := 48) rfl (by decide) dX11_likeLine_41 (fun hn => absurd rfl hn) (fun _ => ?_)
      refine kz_iconst (pc := 44) (v := (-1)) (by decide) dX11_likeLine_44 ?_
      refine kz_goto (pc := 45) (tgt := 54) (by decide) dX11_likeLine_45 ?_
      refine kz_istore (pc := 54) (i := 7) (ls' := [(6, .null), (0, .ref x0), (1, .int x1), (2, .int x2), (3, .ref x3), (4, .int x4), (5, .int x5)]) (by decide) rfl dX11_likeLine_54 ?_
      refine kz_iload (pc := 56) 0 (i := 7) rfl dX11_likeLine_56 ?_
      refine kz_iconst (pc := 58) (v := (-1)) (by decide) dX11_likeLine_58 ?_
      refine kz_icmp_eq (pc := 59) (tgt := 71) (by decide) dX11_likeLine_59 (fun hb => ?_) (fun hb => ?_)
      · replace h := h.1 hb
        refine kz_iinc (pc := 71) 7 (i := 5) (v := x5 + 1) (ls' := [(7, .int ((-1))), (6, .null), (0, .ref x0), (1, .int x1), (2, .int x2), (3, .ref x3), (4, .int x4)]) rfl (congrArg (fun z => x5 + z) (by decide)) (by decide) rfl dX11_likeLine_71 ?_
        refine kz_goto (pc := 74) (tgt := 20) (by decide) dX11_likeLine_74 ?_
        refine kz_sub [3, 4, 5, 6, 7, 0] rfl ?_
        exact h
      · replace h := h.2 hb
        refine kz_bipush (pc := 62) (v := 100) (by decide) dX11_likeLine_62 ?_
        refine kz_iload (pc := 64) 7 (i := 5) rfl dX11_likeLine_64 ?_
        refine kz_imul (pc := 66) dX11_likeLine_66 ?_
        refine kz_iload (pc := 67) 0 (i := 7) rfl dX11_likeLine_67 ?_
        refine kz_iadd (pc := 69) dX11_likeLine_69 ?_
        exact kz_iret (pc := 70) rfl hc hs dX11_likeLine_70 h
    · replace h := h.2 y14 rfl
      refine kz_ifnonnull (pc := 41) (tgt := 48) rfl (by decide) dX11_likeLine_41 (fun _ => ?_) (fun hn => by cases hn)
      refine kz_aload (pc := 48) 0 (v := .ref y14) (i := 6) rfl rfl dX11_likeLine_48 ?_
      refine kz_aload_n (pc := 50) 4 (v := .ref x3) (i := 3) rfl rfl rfl dX11_likeLine_50 ?_
      obtain ⟨⟨fs18, he⟩, h⟩ := h
      refine kz_callV (pc := 51) (μ' := mX10_firstLike) (ci := 9) (q := (RX10, TX10, 4)) (b := y14) (d' := d + 8) (mc' := 0) (ms' := 0) (As := [.ref x3]) (st := []) (c := c) (sl := sl) kmX10_firstLike kw_789 (by omega) rfl (Nat.le_of_ble_eq_true rfl) he rfl rfl hc hs dX11_likeLine_51 (fun E M9 hx => kz_Tout rfl hc hs hx) (kz_Cmono (fun v M15 h => ?_) (fun _ _ h => h) h)
      obtain ⟨r16, rfl, h⟩ := h
      show kz_Z G (d + 9) mc ms mX11_likeLine Qr Qx 54 [(6, .ref y14), (0, .ref x0), (1, .int x1), (2, .int x2), (3, .ref x3), (4, .int x4), (5, .int x5)] [.int r16] M15 c sl
      refine kz_istore (pc := 54) (i := 7) (ls' := [(6, .ref y14), (0, .ref x0), (1, .int x1), (2, .int x2), (3, .ref x3), (4, .int x4), (5, .int x5)]) (by decide) rfl dX11_likeLine_54 ?_
      refine kz_iload (pc := 56) 0 (i := 7) rfl dX11_likeLine_56 ?_
      refine kz_iconst (pc := 58) (v := (-1)) (by decide) dX11_likeLine_58 ?_
      refine kz_icmp_eq (pc := 59) (tgt := 71) (by decide) dX11_likeLine_59 (fun hb => ?_) (fun hb => ?_)
      · replace h := h.1 hb
        refine kz_iinc (pc := 71) 7 (i := 5) (v := x5 + 1) (ls' := [(7, .int r16), (6, .ref y14), (0, .ref x0), (1, .int x1), (2, .int x2), (3, .ref x3), (4, .int x4)]) rfl (congrArg (fun z => x5 + z) (by decide)) (by decide) rfl dX11_likeLine_71 ?_
        refine kz_goto (pc := 74) (tgt := 20) (by decide) dX11_likeLine_74 ?_
        refine kz_sub [3, 4, 5, 6, 7, 0] rfl ?_
        exact h
      · replace h := h.2 hb
        refine kz_bipush (pc := 62) (v := 100) (by decide) dX11_likeLine_62 ?_
        refine kz_iload (pc := 64) 7 (i := 5) rfl dX11_likeLine_64 ?_
        refine kz_imul (pc := 66) dX11_likeLine_66 ?_
        refine kz_iload (pc := 67) 0 (i := 7) rfl dX11_likeLine_67 ?_
        refine kz_iadd (pc := 69) dX11_likeLine_69 ?_
        exact kz_iret (pc := 70) rfl hc hs dX11_likeLine_70 h
theorem dX11_letters_0 : decode cX11_letters 0 = .ok (.aload_n 0, 1) := by decide +kernel
theorem dX11_letters_1 : decode cX11_letters 1 = .ok (.iload_n 1, 1) := by decide +kernel
theorem dX11_letters_2 : decode cX11_letters 2 = .ok (.invokevirtual 165, 3) := by decide +kernel
theorem dX11_letters_5 : decode cX11_letters 5 = .ok (.astore_n 3, 1) := by decide +kernel
theorem dX11_letters_6 : decode cX11_letters 6 = .ok (.iload_n 2, 1) := by decide +kernel
theorem dX11_letters_7 : decode cX11_letters 7 = .ok (.ifCond .lt 14, 3) := by decide +kernel
theorem dX11_letters_10 : decode cX11_letters 10 = .ok (.iload_n 2, 1) := by decide +kernel
theorem dX11_letters_11 : decode cX11_letters 11 = .ok (.aload_n 3, 1) := by decide +kernel
theorem dX11_letters_12 : decode cX11_letters 12 = .ok (.getfield 174, 3) := by decide +kernel
theorem dX11_letters_15 : decode cX11_letters 15 = .ok (.invokevirtual 184, 3) := by decide +kernel
theorem dX11_letters_18 : decode cX11_letters 18 = .ok (.if_icmp .lt 13, 3) := by decide +kernel
theorem dX11_letters_21 : decode cX11_letters 21 = .ok (.new 232, 3) := by decide +kernel
theorem dX11_letters_24 : decode cX11_letters 24 = .ok (.dup, 1) := by decide +kernel
theorem dX11_letters_25 : decode cX11_letters 25 = .ok (.ldc 234, 2) := by decide +kernel
theorem dX11_letters_27 : decode cX11_letters 27 = .ok (.invokespecial 236, 3) := by decide +kernel
theorem dX11_letters_30 : decode cX11_letters 30 = .ok (.athrow, 1) := by decide +kernel
theorem dX11_letters_31 : decode cX11_letters 31 = .ok (.aload_n 3, 1) := by decide +kernel
theorem dX11_letters_32 : decode cX11_letters 32 = .ok (.getfield 174, 3) := by decide +kernel
theorem dX11_letters_35 : decode cX11_letters 35 = .ok (.iload_n 2, 1) := by decide +kernel
theorem dX11_letters_36 : decode cX11_letters 36 = .ok (.invokevirtual 237, 3) := by decide +kernel
theorem dX11_letters_39 : decode cX11_letters 39 = .ok (.invokestatic 241, 3) := by decide +kernel
theorem dX11_letters_42 : decode cX11_letters 42 = .ok (.ireturn, 1) := by decide +kernel
theorem rX11_letters_0 {G : kz_G} {d : Nat} {mc ms : Nat} {Qr : Option Value → kz_M → Prop} {Qx : String → kz_M → Prop} {a0 : Nat} {p1 : Int32} {p2 : Int32}  {M : kz_M} (hG : kz_stat G) (h : (∃ fs22, (M).1 a0 = some (.inl (10, fs22))) ∧ ∃ mc3 ms3, 0 + mc3 ≤ mc ∧ 0 + ms3 ≤ ms ∧ kz_C G (d + 7) mc3 ms3 mX11_workOrThrow [.ref a0, .int p1] M (fun v M1 => ∃ r2 : Nat, v = some (.ref r2) ∧ ((p2 < 0 → 0 + mc3 + 1 ≤ mc ∧ 0 + ms3 + 6 ≤ ms ∧ ∀ g4, Qx "java/lang/IndexOutOfBoundsException" ((M1).1, (M1).2 + g4)) ∧ (¬ p2 < 0 → ∃ fs5 v6, (M1).1 r2 = some (.inl (9, fs5)) ∧ fs5[2]? = some (.ref v6) ∧ ((∃ fs21, (M1).1 v6 = some (.inl (6, fs21))) ∧ kz_C G (d + 7) 0 0 mX6_size [.ref v6] M1 (fun v M7 => ∃ r8 : Int32, v = some (.int r8) ∧ ((p2 < r8 → ∃ fs10 v11, (M7).1 r2 = some (.inl (9, fs10)) ∧ fs10[2]? = some (.ref v11) ∧ ((∃ fs19, (M7).1 v11 = some (.inl (6, fs19))) ∧ kz_C G (d + 7) 0 0 mX6_wordAt [.ref v11, .int p2] M7 (fun v M12 => ∃ r13 : Int64, v = some (.long r13) ∧ (kz_C G (d + 7) 0 0 mX11_lengthOf [.long r13] M12 (fun v M15 => ∃ r16 : Int32, v = some (.int r16) ∧ (Qr (some (.int r16)) M15)) Qx)) Qx)) ∧ (¬ p2 < r8 → 0 + mc3 + 1 ≤ mc ∧ 0 + ms3 + 6 ≤ ms ∧ ∀ g20, Qx "java/lang/IndexOutOfBoundsException" ((M7).1, (M7).2 + g20)))) Qx)))) Qx) : kz_C G (d + 8) mc ms mX11_letters [.ref a0, .int p1, .int p2] M Qr Qx := by
  refine kz_enter (n := 2) kmX11_letters.1 (Nat.le_of_ble_eq_true rfl) (ls := [(0, .ref a0), (1, .int p1), (2, .int p2)]) rfl ?_
  refine kz_aload_n (pc := 0) 0 (v := .ref a0) (i := 0) rfl rfl rfl dX11_letters_0 ?_
  refine kz_iload_n (pc := 1) 1 (i := 1) rfl rfl dX11_letters_1 ?_
  obtain ⟨⟨fs22, he⟩, h⟩ := h
  obtain ⟨mc3, ms3, hc3, hs3, h⟩ := h
  refine kz_callV (pc := 2) (μ' := mX11_workOrThrow) (ci := 10) (q := (RX11, TX11, 10)) (b := a0) (d' := d + 7) (mc' := mc3) (ms' := ms3) (As := [.int p1]) (st := []) (c := 0) (sl := 0) kmX11_workOrThrow kw_744 (by omega) rfl (Nat.le_of_ble_eq_true rfl) he rfl rfl hc3 hs3 dX11_letters_2 (fun E M9 hx => kz_Tout rfl hc3 hs3 hx) (kz_Cmono (fun v M1 h => ?_) (fun _ _ h => h) h)
  obtain ⟨r2, rfl, h⟩ := h
  show kz_Z G (d + 8) mc ms mX11_letters Qr Qx 5 [(0, .ref a0), (1, .int p1), (2, .int p2)] [.ref r2] M1 (0 + mc3) (0 + ms3)
  refine kz_astore_n (pc := 5) (i := 3) (v := .ref r2) (ls' := [(0, .ref a0), (1, .int p1), (2, .int p2)]) rfl rfl (by decide) rfl dX11_letters_5 ?_
  refine kz_iload_n (pc := 6) 3 (i := 2) rfl rfl dX11_letters_6 ?_
  refine kz_if_lt (pc := 7) (tgt := 21) (by decide) dX11_letters_7 (fun hb => ?_) (fun hb => ?_)
  · replace h := h.1 hb
    exact kz_throwS (pc := 21) (ik := 232) (is := 234) (ic := 236) (j := 1005) (text := "no such word") hG.1 hG.2.1 hG.2.2.1 (by decide +kernel) kz_xn kw_649 kw_20 (List.mem_of_getElem? (i := 5) rfl) kz_xw_IndexOutOfBoundsException kz_xg_IndexOutOfBoundsException rfl (by show 2 + 3 < _; omega) (by decide) (Nat.le_of_ble_eq_true rfl) h.1 h.2.1 dX11_letters_21 dX11_letters_24 dX11_letters_25 dX11_letters_27 dX11_letters_30 h.2.2
  · replace h := h.2 hb
    refine kz_iload_n (pc := 10) 3 (i := 2) rfl rfl dX11_letters_10 ?_
    refine kz_aload_n (pc := 11) 0 (v := .ref r2) (i := 3) rfl rfl rfl dX11_letters_11 ?_
    obtain ⟨fs5, v6, hM, hv, h⟩ := h
    refine kz_getf (pc := 12) (k := 2) kcX10 hM hv (by decide) kw_1076 dX11_letters_12 ?_
    obtain ⟨⟨fs21, he⟩, h⟩ := h
    refine kz_callV (pc := 15) (μ' := mX6_size) (ci := 6) (q := (RX6, TX6, 3)) (b := v6) (d' := d + 7) (mc' := 0) (ms' := 0) (As := []) (st := [.int p2]) (c := 0 + mc3) (sl := 0 + ms3) kmX6_size kw_703 (by omega) rfl (Nat.le_of_ble_eq_true rfl) he rfl rfl hc3 hs3 dX11_letters_15 (fun E M9 hx => kz_Tout rfl hc3 hs3 hx) (kz_Cmono (fun v M7 h => ?_) (fun _ _ h => h) h)
    obtain ⟨r8, rfl, h⟩ := h
    show kz_Z G (d + 8) mc ms mX11_letters Qr Qx 18 [(3, .ref r2), (0, .ref a0), (1, .int p1), (2, .int p2)] [.int r8, .int p2] M7 (0 + mc3) (0 + ms3)
    refine kz_icmp_lt (pc := 18) (tgt := 31) (by decide) dX11_letters_18 (fun hb => ?_) (fun hb => ?_)
    · replace h := h.1 hb
      refine kz_aload_n (pc := 31) 0 (v := .ref r2) (i := 3) rfl rfl rfl dX11_letters_31 ?_
      obtain ⟨fs10, v11, hM, hv, h⟩ := h
      refine kz_getf (pc := 32) (k := 2) kcX10 hM hv (by decide) kw_1076 dX11_letters_32 ?_
      refine kz_iload_n (pc := 35) 3 (i := 2) rfl rfl dX11_letters_35 ?_
      obtain ⟨⟨fs19, he⟩, h⟩ := h
      refine kz_callV (pc := 36) (μ' := mX6_wordAt) (ci := 6) (q := (RX6, TX6, 3)) (b := v11) (d' := d + 7) (mc' := 0) (ms' := 0) (As := [.int p2]) (st := []) (c := 0 + mc3) (sl := 0 + ms3) kmX6_wordAt kw_707 (by omega) rfl (Nat.le_of_ble_eq_true rfl) he rfl rfl hc3 hs3 dX11_letters_36 (fun E M9 hx => kz_Tout rfl hc3 hs3 hx) (kz_Cmono (fun v M12 h => ?_) (fun _ _ h => h) h)
      obtain ⟨r13, rfl, h⟩ := h
      show kz_Z G (d + 8) mc ms mX11_letters Qr Qx 39 [(3, .ref r2), (0, .ref a0), (1, .int p1), (2, .int p2)] [.long r13] M12 (0 + mc3) (0 + ms3)
      refine kz_callS (pc := 39) (μ' := mX11_lengthOf) (d' := d + 7) (mc' := 0) (ms' := 0) (As := [.long r13]) (st := []) (c := 0 + mc3) (sl := 0 + ms3) kmX11_lengthOf kw_392 (by omega) rfl (Nat.le_of_ble_eq_true rfl) hc3 hs3 dX11_letters_39 (fun E M9 hx => kz_Tout rfl hc3 hs3 hx) (kz_Cmono (fun v M15 h => ?_) (fun _ _ h => h) h)
      obtain ⟨r16, rfl, h⟩ := h
      show kz_Z G (d + 8) mc ms mX11_letters Qr Qx 42 [(3, .ref r2), (0, .ref a0), (1, .int p1), (2, .int p2)] [.int r16] M15 (0 + mc3) (0 + ms3)
      exact kz_iret (pc := 42) rfl hc3 hs3 dX11_letters_42 h
    · replace h := h.2 hb
      exact kz_throwS (pc := 21) (ik := 232) (is := 234) (ic := 236) (j := 1005) (text := "no such word") hG.1 hG.2.1 hG.2.2.1 (by decide +kernel) kz_xn kw_649 kw_20 (List.mem_of_getElem? (i := 5) rfl) kz_xw_IndexOutOfBoundsException kz_xg_IndexOutOfBoundsException rfl (by show 2 + 3 < _; omega) (by decide) (Nat.le_of_ble_eq_true rfl) h.1 h.2.1 dX11_letters_21 dX11_letters_24 dX11_letters_25 dX11_letters_27 dX11_letters_30 h.2.2
theorem dX11_uses_0 : decode cX11_uses 0 = .ok (.aload_n 0, 1) := by decide +kernel
theorem dX11_uses_1 : decode cX11_uses 1 = .ok (.iload_n 1, 1) := by decide +kernel
theorem dX11_uses_2 : decode cX11_uses 2 = .ok (.invokevirtual 148, 3) := by decide +kernel
theorem dX11_uses_5 : decode cX11_uses 5 = .ok (.aload_n 0, 1) := by decide +kernel
theorem dX11_uses_6 : decode cX11_uses 6 = .ok (.getfield 10, 3) := by decide +kernel
theorem dX11_uses_9 : decode cX11_uses 9 = .ok (.invokevirtual 245, 3) := by decide +kernel
theorem dX11_uses_12 : decode cX11_uses 12 = .ok (.lstore_n 2, 1) := by decide +kernel
theorem dX11_uses_13 : decode cX11_uses 13 = .ok (.aload_n 0, 1) := by decide +kernel
theorem dX11_uses_14 : decode cX11_uses 14 = .ok (.getfield 10, 3) := by decide +kernel
theorem dX11_uses_17 : decode cX11_uses 17 = .ok (.iconst 0, 1) := by decide +kernel
theorem dX11_uses_18 : decode cX11_uses 18 = .ok (.putfield 83, 3) := by decide +kernel
theorem dX11_uses_21 : decode cX11_uses 21 = .ok (.aload_n 0, 1) := by decide +kernel
theorem dX11_uses_22 : decode cX11_uses 22 = .ok (.getfield 26, 3) := by decide +kernel
theorem dX11_uses_25 : decode cX11_uses 25 = .ok (.aload_n 0, 1) := by decide +kernel
theorem dX11_uses_26 : decode cX11_uses 26 = .ok (.getfield 50, 3) := by decide +kernel
theorem dX11_uses_29 : decode cX11_uses 29 = .ok (.iload_n 1, 1) := by decide +kernel
theorem dX11_uses_30 : decode cX11_uses 30 = .ok (.aload_n 0, 1) := by decide +kernel
theorem dX11_uses_31 : decode cX11_uses 31 = .ok (.getfield 26, 3) := by decide +kernel
theorem dX11_uses_34 : decode cX11_uses 34 = .ok (.getfield 105, 3) := by decide +kernel
theorem dX11_uses_37 : decode cX11_uses 37 = .ok (.invokevirtual 249, 3) := by decide +kernel
theorem dX11_uses_40 : decode cX11_uses 40 = .ok (.lload_n 2, 1) := by decide +kernel
theorem dX11_uses_41 : decode cX11_uses 41 = .ok (.lconst 0, 1) := by decide +kernel
theorem dX11_uses_42 : decode cX11_uses 42 = .ok (.lcmp, 1) := by decide +kernel
theorem dX11_uses_43 : decode cX11_uses 43 = .ok (.ifCond .ne 7, 3) := by decide +kernel
theorem dX11_uses_46 : decode cX11_uses 46 = .ok (.iconst 0, 1) := by decide +kernel
theorem dX11_uses_47 : decode cX11_uses 47 = .ok (.goto 11, 3) := by decide +kernel
theorem dX11_uses_50 : decode cX11_uses 50 = .ok (.aload_n 0, 1) := by decide +kernel
theorem dX11_uses_51 : decode cX11_uses 51 = .ok (.getfield 50, 3) := by decide +kernel
theorem dX11_uses_54 : decode cX11_uses 54 = .ok (.lload_n 2, 1) := by decide +kernel
theorem dX11_uses_55 : decode cX11_uses 55 = .ok (.invokevirtual 253, 3) := by decide +kernel
theorem dX11_uses_58 : decode cX11_uses 58 = .ok (.ireturn, 1) := by decide +kernel
theorem rX11_uses_0 {G : kz_G} {d : Nat} {mc ms : Nat} {Qr : Option Value → kz_M → Prop} {Qx : String → kz_M → Prop} {a0 : Nat} {p1 : Int32}  {M : kz_M} (h : (∃ fs31, (M).1 a0 = some (.inl (10, fs31))) ∧ ∃ mc3 ms3, 0 + mc3 ≤ mc ∧ 0 + ms3 ≤ ms ∧ kz_C G (d + 7) mc3 ms3 mX11_checkWriter [.ref a0, .int p1] M (fun v M1 => v = none ∧ (∃ fs4 v5, (M1).1 a0 = some (.inl (10, fs4)) ∧ fs4[0]? = some (.ref v5) ∧ ((∃ fs30, (M1).1 v5 = some (.inl (1, fs30))) ∧ kz_C G (d + 7) 0 0 mX1_wholeWord [.ref v5] M1 (fun v M6 => ∃ r7 : Int64, v = some (.long r7) ∧ (∃ fs9 v10, (M6).1 a0 = some (.inl (10, fs9)) ∧ fs9[0]? = some (.ref v10) ∧ (∃ fs11, (M6).1 v10 = some (.inl (1, fs11)) ∧ 1 < fs11.length ∧ (∃ fs12 v13, ((kz_up M6 v10 (.inl (1, fs11.set 1 (.int 0))))).1 a0 = some (.inl (10, fs12)) ∧ fs12[2]? = some (.ref v13) ∧ (∃ fs14 v15, ((kz_up M6 v10 (.inl (1, fs11.set 1 (.int 0))))).1 a0 = some (.inl (10, fs14)) ∧ fs14[6]? = some (.ref v15) ∧ (∃ fs16 v17, ((kz_up M6 v10 (.inl (1, fs11.set 1 (.int 0))))).1 a0 = some (.inl (10, fs16)) ∧ fs16[2]? = some (.ref v17) ∧ (∃ fs18 v19, ((kz_up M6 v10 (.inl (1, fs11.set 1 (.int 0))))).1 v17 = some (.inl (8, fs18)) ∧ fs18[3]? = some (.int v19) ∧ ((∃ fs29, ((kz_up M6 v10 (.inl (1, fs11.set 1 (.int 0))))).1 v13 = some (.inl (8, fs29))) ∧ kz_C G (d + 7) 0 0 mX9_collect [.ref v13, .ref v15, .int p1, .int v19] (kz_up M6 v10 (.inl (1, fs11.set 1 (.int 0)))) (fun v M20 => v = none ∧ ((¬ r7 = 0 → ∃ fs23 v24, (M20).1 a0 = some (.inl (10, fs23)) ∧ fs23[6]? = some (.ref v24) ∧ ((∃ fs28, (M20).1 v24 = some (.inl (5, fs28))) ∧ kz_C G (d + 7) 0 0 mX5_linesWith [.ref v24, .long r7] M20 (fun v M25 => ∃ r26 : Int32, v = some (.int r26) ∧ (Qr (some (.int r26)) M25)) Qx)) ∧ (r7 = 0 → Qr (some (.int 0)) M20))) Qx)))))))) Qx))) Qx) : kz_C G (d + 8) mc ms mX11_uses [.ref a0, .int p1] M Qr Qx := by
  refine kz_enter (n := 1) kmX11_uses.1 (Nat.le_of_ble_eq_true rfl) (ls := [(0, .ref a0), (1, .int p1)]) rfl ?_
  refine kz_aload_n (pc := 0) 0 (v := .ref a0) (i := 0) rfl rfl rfl dX11_uses_0 ?_
  refine kz_iload_n (pc := 1) 1 (i := 1) rfl rfl dX11_uses_1 ?_
  obtain ⟨⟨fs31, he⟩, h⟩ := h
  obtain ⟨mc3, ms3, hc3, hs3, h⟩ := h
  refine kz_callV (pc := 2) (μ' := mX11_checkWriter) (ci := 10) (q := (RX11, TX11, 10)) (b := a0) (d' := d + 7) (mc' := mc3) (ms' := ms3) (As := [.int p1]) (st := []) (c := 0) (sl := 0) kmX11_checkWriter kw_641 (by omega) rfl (Nat.le_of_ble_eq_true rfl) he rfl rfl hc3 hs3 dX11_uses_2 (fun E M9 hx => kz_Tout rfl hc3 hs3 hx) (kz_Cmono (fun v M1 h => ?_) (fun _ _ h => h) h)
  obtain ⟨rfl, h⟩ := h
  show kz_Z G (d + 8) mc ms mX11_uses Qr Qx 5 [(0, .ref a0), (1, .int p1)] [] M1 (0 + mc3) (0 + ms3)
  refine kz_aload_n (pc := 5) 0 (v := .ref a0) (i := 0) rfl rfl rfl dX11_uses_5 ?_
  obtain ⟨fs4, v5, hM, hv, h⟩ := h
  refine kz_getf (pc := 6) (k := 0) kcX11 hM hv (by decide) kw_275 dX11_uses_6 ?_
  obtain ⟨⟨fs30, he⟩, h⟩ := h
  refine kz_callV (pc := 9) (μ' := mX1_wholeWord) (ci := 1) (q := (RX1, TX1, 2)) (b := v5) (d' := d + 7) (mc' := 0) (ms' := 0) (As := []) (st := []) (c := 0 + mc3) (sl := 0 + ms3) kmX1_wholeWord kw_455 (by omega) rfl (Nat.le_of_ble_eq_true rfl) he rfl rfl hc3 hs3 dX11_uses_9 (fun E M9 hx => kz_Tout rfl hc3 hs3 hx) (kz_Cmono (fun v M6 h => ?_) (fun _ _ h => h) h)
  obtain ⟨r7, rfl, h⟩ := h
  show kz_Z G (d + 8) mc ms mX11_uses Qr Qx 12 [(0, .ref a0), (1, .int p1)] [.long r7] M6 (0 + mc3) (0 + ms3)
  refine kz_lstore_n (pc := 12) (i := 2) (ls' := [(0, .ref a0), (1, .int p1)]) rfl (by decide) rfl dX11_uses_12 ?_
  refine kz_aload_n (pc := 13) 1 (v := .ref a0) (i := 0) rfl rfl rfl dX11_uses_13 ?_
  obtain ⟨fs9, v10, hM, hv, h⟩ := h
  refine kz_getf (pc := 14) (k := 0) kcX11 hM hv (by decide) kw_275 dX11_uses_14 ?_
  refine kz_iconst (pc := 17) (v := 0) (by decide) dX11_uses_17 ?_
  obtain ⟨fs11, hM, hlen, h⟩ := h
  refine kz_putf (pc := 18) (k := 1) kcX1 hM (by decide) hlen kw_45 rfl rfl rfl dX11_uses_18 ?_
  refine kz_aload_n (pc := 21) 1 (v := .ref a0) (i := 0) rfl rfl rfl dX11_uses_21 ?_
  obtain ⟨fs12, v13, hM, hv, h⟩ := h
  refine kz_getf (pc := 22) (k := 2) kcX11 hM hv (by decide) kw_277 dX11_uses_22 ?_
  refine kz_aload_n (pc := 25) 1 (v := .ref a0) (i := 0) rfl rfl rfl dX11_uses_25 ?_
  obtain ⟨fs14, v15, hM, hv, h⟩ := h
  refine kz_getf (pc := 26) (k := 6) kcX11 hM hv (by decide) kw_281 dX11_uses_26 ?_
  refine kz_iload_n (pc := 29) 2 (i := 1) rfl rfl dX11_uses_29 ?_
  refine kz_aload_n (pc := 30) 1 (v := .ref a0) (i := 0) rfl rfl rfl dX11_uses_30 ?_
  obtain ⟨fs16, v17, hM, hv, h⟩ := h
  refine kz_getf (pc := 31) (k := 2) kcX11 hM hv (by decide) kw_277 dX11_uses_31 ?_
  obtain ⟨fs18, v19, hM, hv, h⟩ := h
  refine kz_getf (pc := 34) (k := 3) kcX9 hM hv (by decide) kw_109 dX11_uses_34 ?_
  obtain ⟨⟨fs29, he⟩, h⟩ := h
  refine kz_callV (pc := 37) (μ' := mX9_collect) (ci := 8) (q := (RX9, TX9, 10)) (b := v13) (d' := d + 7) (mc' := 0) (ms' := 0) (As := [.ref v15, .int p1, .int v19]) (st := []) (c := 0 + mc3) (sl := 0 + ms3) kmX9_collect kw_681 (by omega) rfl (Nat.le_of_ble_eq_true rfl) he rfl rfl hc3 hs3 dX11_uses_37 (fun E M9 hx => kz_Tout rfl hc3 hs3 hx) (kz_Cmono (fun v M20 h => ?_) (fun _ _ h => h) h)
  obtain ⟨rfl, h⟩ := h
  show kz_Z G (d + 8) mc ms mX11_uses Qr Qx 40 [(2, .long r7), (0, .ref a0), (1, .int p1)] [] M20 (0 + mc3) (0 + ms3)
  refine kz_lload_n (pc := 40) 0 (i := 2) rfl rfl dX11_uses_40 ?_
  refine kz_lconst (pc := 41) (v := 0) (by decide) dX11_uses_41 ?_
  refine kz_lcmp_ne (pc := 42) (tgt := 50) (by decide) dX11_uses_42 dX11_uses_43 (fun hb => ?_) (fun hb => ?_)
  · replace h := h.1 hb
    refine kz_aload_n (pc := 50) 1 (v := .ref a0) (i := 0) rfl rfl rfl dX11_uses_50 ?_
    obtain ⟨fs23, v24, hM, hv, h⟩ := h
    refine kz_getf (pc := 51) (k := 6) kcX11 hM hv (by decide) kw_281 dX11_uses_51 ?_
    refine kz_lload_n (pc := 54) 0 (i := 2) rfl rfl dX11_uses_54 ?_
    obtain ⟨⟨fs28, he⟩, h⟩ := h
    refine kz_callV (pc := 55) (μ' := mX5_linesWith) (ci := 5) (q := (RX5, TX5, 2)) (b := v24) (d' := d + 7) (mc' := 0) (ms' := 0) (As := [.long r7]) (st := []) (c := 0 + mc3) (sl := 0 + ms3) kmX5_linesWith kw_727 (by omega) rfl (Nat.le_of_ble_eq_true rfl) he rfl rfl hc3 hs3 dX11_uses_55 (fun E M9 hx => kz_Tout rfl hc3 hs3 hx) (kz_Cmono (fun v M25 h => ?_) (fun _ _ h => h) h)
    obtain ⟨r26, rfl, h⟩ := h
    show kz_Z G (d + 8) mc ms mX11_uses Qr Qx 58 [(2, .long r7), (0, .ref a0), (1, .int p1)] [.int r26] M25 (0 + mc3) (0 + ms3)
    exact kz_iret (pc := 58) rfl hc3 hs3 dX11_uses_58 h
  · replace h := h.2 hb
    refine kz_iconst (pc := 46) (v := 0) (by decide) dX11_uses_46 ?_
    refine kz_goto (pc := 47) (tgt := 58) (by decide) dX11_uses_47 ?_
    exact kz_iret (pc := 58) rfl hc3 hs3 dX11_uses_58 h
theorem dX11_favourite_0 : decode cX11_favourite 0 = .ok (.aload_n 0, 1) := by decide +kernel
theorem dX11_favourite_1 : decode cX11_favourite 1 = .ok (.iload_n 1, 1) := by decide +kernel
theorem dX11_favourite_2 : decode cX11_favourite 2 = .ok (.invokevirtual 148, 3) := by decide +kernel
theorem dX11_favourite_5 : decode cX11_favourite 5 = .ok (.aload_n 0, 1) := by decide +kernel
theorem dX11_favourite_6 : decode cX11_favourite 6 = .ok (.getfield 26, 3) := by decide +kernel
theorem dX11_favourite_9 : decode cX11_favourite 9 = .ok (.aload_n 0, 1) := by decide +kernel
theorem dX11_favourite_10 : decode cX11_favourite 10 = .ok (.getfield 50, 3) := by decide +kernel
theorem dX11_favourite_13 : decode cX11_favourite 13 = .ok (.iload_n 1, 1) := by decide +kernel
theorem dX11_favourite_14 : decode cX11_favourite 14 = .ok (.aload_n 0, 1) := by decide +kernel
theorem dX11_favourite_15 : decode cX11_favourite 15 = .ok (.getfield 26, 3) := by decide +kernel
theorem dX11_favourite_18 : decode cX11_favourite 18 = .ok (.getfield 105, 3) := by decide +kernel
theorem dX11_favourite_21 : decode cX11_favourite 21 = .ok (.invokevirtual 249, 3) := by decide +kernel
theorem dX11_favourite_24 : decode cX11_favourite 24 = .ok (.iconst 0, 1) := by decide +kernel
theorem dX11_favourite_25 : decode cX11_favourite 25 = .ok (.istore_n 2, 1) := by decide +kernel
theorem dX11_favourite_26 : decode cX11_favourite 26 = .ok (.iconst (-1), 1) := by decide +kernel
theorem dX11_favourite_27 : decode cX11_favourite 27 = .ok (.istore_n 3, 1) := by decide +kernel
theorem dX11_favourite_28 : decode cX11_favourite 28 = .ok (.iconst 0, 1) := by decide +kernel
theorem dX11_favourite_29 : decode cX11_favourite 29 = .ok (.istore 4, 2) := by decide +kernel
theorem dX11_favourite_31 : decode cX11_favourite 31 = .ok (.iload 4, 2) := by decide +kernel
theorem dX11_favourite_33 : decode cX11_favourite 33 = .ok (.aload_n 0, 1) := by decide +kernel
theorem dX11_favourite_34 : decode cX11_favourite 34 = .ok (.getfield 26, 3) := by decide +kernel
theorem dX11_favourite_37 : decode cX11_favourite 37 = .ok (.getfield 105, 3) := by decide +kernel
theorem dX11_favourite_40 : decode cX11_favourite 40 = .ok (.if_icmp .ge 85, 3) := by decide +kernel
theorem dX11_favourite_43 : decode cX11_favourite 43 = .ok (.aload_n 0, 1) := by decide +kernel
theorem dX11_favourite_44 : decode cX11_favourite 44 = .ok (.getfield 26, 3) := by decide +kernel
theorem dX11_favourite_47 : decode cX11_favourite 47 = .ok (.iload_n 1, 1) := by decide +kernel
theorem dX11_favourite_48 : decode cX11_favourite 48 = .ok (.iload 4, 2) := by decide +kernel
theorem dX11_favourite_50 : decode cX11_favourite 50 = .ok (.invokevirtual 224, 3) := by decide +kernel
theorem dX11_favourite_53 : decode cX11_favourite 53 = .ok (.astore 5, 2) := by decide +kernel
theorem dX11_favourite_55 : decode cX11_favourite 55 = .ok (.iconst 0, 1) := by decide +kernel
theorem dX11_favourite_56 : decode cX11_favourite 56 = .ok (.istore 6, 2) := by decide +kernel
theorem dX11_favourite_58 : decode cX11_favourite 58 = .ok (.aload 5, 2) := by decide +kernel
theorem dX11_favourite_60 : decode cX11_favourite 60 = .ok (.ifnull 59, 3) := by decide +kernel
theorem dX11_favourite_63 : decode cX11_favourite 63 = .ok (.iload 6, 2) := by decide +kernel
theorem dX11_favourite_65 : decode cX11_favourite 65 = .ok (.aload 5, 2) := by decide +kernel
theorem dX11_favourite_67 : decode cX11_favourite 67 = .ok (.getfield 174, 3) := by decide +kernel
theorem dX11_favourite_70 : decode cX11_favourite 70 = .ok (.invokevirtual 184, 3) := by decide +kernel
theorem dX11_favourite_73 : decode cX11_favourite 73 = .ok (.if_icmp .ge 46, 3) := by decide +kernel
theorem dX11_favourite_76 : decode cX11_favourite 76 = .ok (.aload_n 0, 1) := by decide +kernel
theorem dX11_favourite_77 : decode cX11_favourite 77 = .ok (.getfield 50, 3) := by decide +kernel
theorem dX11_favourite_80 : decode cX11_favourite 80 = .ok (.aload 5, 2) := by decide +kernel
theorem dX11_favourite_82 : decode cX11_favourite 82 = .ok (.getfield 174, 3) := by decide +kernel
theorem dX11_favourite_85 : decode cX11_favourite 85 = .ok (.iload 6, 2) := by decide +kernel
theorem dX11_favourite_87 : decode cX11_favourite 87 = .ok (.invokevirtual 237, 3) := by decide +kernel
theorem dX11_favourite_90 : decode cX11_favourite 90 = .ok (.invokevirtual 253, 3) := by decide +kernel
theorem dX11_favourite_93 : decode cX11_favourite 93 = .ok (.istore 7, 2) := by decide +kernel
theorem dX11_favourite_95 : decode cX11_favourite 95 = .ok (.iload 7, 2) := by decide +kernel
theorem dX11_favourite_97 : decode cX11_favourite 97 = .ok (.iload_n 2, 1) := by decide +kernel
theorem dX11_favourite_98 : decode cX11_favourite 98 = .ok (.if_icmp .le 15, 3) := by decide +kernel
theorem dX11_favourite_101 : decode cX11_favourite 101 = .ok (.iload 7, 2) := by decide +kernel
theorem dX11_favourite_103 : decode cX11_favourite 103 = .ok (.istore_n 2, 1) := by decide +kernel
theorem dX11_favourite_104 : decode cX11_favourite 104 = .ok (.bipush 100, 2) := by decide +kernel
theorem dX11_favourite_106 : decode cX11_favourite 106 = .ok (.iload 4, 2) := by decide +kernel
theorem dX11_favourite_108 : decode cX11_favourite 108 = .ok (.imul, 1) := by decide +kernel
theorem dX11_favourite_109 : decode cX11_favourite 109 = .ok (.iload 6, 2) := by decide +kernel
theorem dX11_favourite_111 : decode cX11_favourite 111 = .ok (.iadd, 1) := by decide +kernel
theorem dX11_favourite_112 : decode cX11_favourite 112 = .ok (.istore_n 3, 1) := by decide +kernel
theorem dX11_favourite_113 : decode cX11_favourite 113 = .ok (.iinc 6 1, 3) := by decide +kernel
theorem dX11_favourite_116 : decode cX11_favourite 116 = .ok (.goto (-58), 3) := by decide +kernel
theorem dX11_favourite_119 : decode cX11_favourite 119 = .ok (.iinc 4 1, 3) := by decide +kernel
theorem dX11_favourite_122 : decode cX11_favourite 122 = .ok (.goto (-91), 3) := by decide +kernel
theorem dX11_favourite_125 : decode cX11_favourite 125 = .ok (.iload_n 3, 1) := by decide +kernel
theorem dX11_favourite_126 : decode cX11_favourite 126 = .ok (.ireturn, 1) := by decide +kernel
def zX11_favourite_31 (G : kz_G) (d mc ms : Nat) (Qr : Option Value → kz_M → Prop) (Qx : String → kz_M → Prop) (x0 : Nat) (x1 : Int32) (x2 : Int32) (x3 : Int32) (x4 : Int32)  (M : kz_M) (c sl : Nat) : Prop := kz_Z G (d + 8) mc ms mX11_favourite Qr Qx 31 [(0, .ref x0), (1, .int x1), (2, .int x2), (3, .int x3), (4, .int x4)] [] M c sl
def zX11_favourite_58 (G : kz_G) (d mc ms : Nat) (Qr : Option Value → kz_M → Prop) (Qx : String → kz_M → Prop) (x0 : Nat) (x1 : Int32) (x2 : Int32) (x3 : Int32) (x4 : Int32) (x5 : Option Nat) (x6 : Int32)  (M : kz_M) (c sl : Nat) : Prop := kz_Z G (d + 8) mc ms mX11_favourite Qr Qx 58 [(0, .ref x0), (1, .int x1), (2, .int x2), (3, .int x3), (4, .int x4), (5, kz_rf x5), (6, .int x6)] [] M c sl
theorem rX11_favourite_0 {G : kz_G} {d : Nat} {mc ms : Nat} {Qr : Option Value → kz_M → Prop} {Qx : String → kz_M → Prop} {a0 : Nat} {p1 : Int32}  {M : kz_M} (h : (∃ fs16, (M).1 a0 = some (.inl (10, fs16))) ∧ ∃ mc3 ms3, 0 + mc3 ≤ mc ∧ 0 + ms3 ≤ ms ∧ kz_C G (d + 7) mc3 ms3 mX11_checkWriter [.ref a0, .int p1] M (fun v M1 => v = none ∧ (∃ fs4 v5, (M1).1 a0 = some (.inl (10, fs4)) ∧ fs4[2]? = some (.ref v5) ∧ (∃ fs6 v7, (M1).1 a0 = some (.inl (10, fs6)) ∧ fs6[6]? = some (.ref v7) ∧ (∃ fs8 v9, (M1).1 a0 = some (.inl (10, fs8)) ∧ fs8[2]? = some (.ref v9) ∧ (∃ fs10 v11, (M1).1 v9 = some (.inl (8, fs10)) ∧ fs10[3]? = some (.int v11) ∧ ((∃ fs15, (M1).1 v5 = some (.inl (8, fs15))) ∧ kz_C G (d + 7) 0 0 mX9_collect [.ref v5, .ref v7, .int p1, .int v11] M1 (fun v M12 => v = none ∧ (zX11_favourite_31 G d mc ms Qr Qx a0 p1 0 ((-1)) 0 M12 (0 + mc3) (0 + ms3))) Qx)))))) Qx) : kz_C G (d + 8) mc ms mX11_favourite [.ref a0, .int p1] M Qr Qx := by
  refine kz_enter (n := 1) kmX11_favourite.1 (Nat.le_of_ble_eq_true rfl) (ls := [(0, .ref a0), (1, .int p1)]) rfl ?_
  refine kz_aload_n (pc := 0) 0 (v := .ref a0) (i := 0) rfl rfl rfl dX11_favourite_0 ?_
  refine kz_iload_n (pc := 1) 1 (i := 1) rfl rfl dX11_favourite_1 ?_
  obtain ⟨⟨fs16, he⟩, h⟩ := h
  obtain ⟨mc3, ms3, hc3, hs3, h⟩ := h
  refine kz_callV (pc := 2) (μ' := mX11_checkWriter) (ci := 10) (q := (RX11, TX11, 10)) (b := a0) (d' := d + 7) (mc' := mc3) (ms' := ms3) (As := [.int p1]) (st := []) (c := 0) (sl := 0) kmX11_checkWriter kw_641 (by omega) rfl (Nat.le_of_ble_eq_true rfl) he rfl rfl hc3 hs3 dX11_favourite_2 (fun E M9 hx => kz_Tout rfl hc3 hs3 hx) (kz_Cmono (fun v M1 h => ?_) (fun _ _ h => h) h)
  obtain ⟨rfl, h⟩ := h
  show kz_Z G (d + 8) mc ms mX11_favourite Qr Qx 5 [(0, .ref a0), (1, .int p1)] [] M1 (0 + mc3) (0 + ms3)
  refine kz_aload_n (pc := 5) 0 (v := .ref a0) (i := 0) rfl rfl rfl dX11_favourite_5 ?_
  obtain ⟨fs4, v5, hM, hv, h⟩ := h
  refine kz_getf (pc := 6) (k := 2) kcX11 hM hv (by decide) kw_277 dX11_favourite_6 ?_
  refine kz_aload_n (pc := 9) 0 (v := .ref a0) (i := 0) rfl rfl rfl dX11_favourite_9 ?_
  obtain ⟨fs6, v7, hM, hv, h⟩ := h
  refine kz_getf (pc := 10) (k := 6) kcX11 hM hv (by decide) kw_281 dX11_favourite_10 ?_
  refine kz_iload_n (pc := 13) 1 (i := 1) rfl rfl dX11_favourite_13 ?_
  refine kz_aload_n (pc := 14) 0 (v := .ref a0) (i := 0) rfl rfl rfl dX11_favourite_14 ?_
  obtain ⟨fs8, v9, hM, hv, h⟩ := h
  refine kz_getf (pc := 15) (k := 2) kcX11 hM hv (by decide) kw_277 dX11_favourite_15 ?_
  obtain ⟨fs10, v11, hM, hv, h⟩ := h
  refine kz_getf (pc := 18) (k := 3) kcX9 hM hv (by decide) kw_109 dX11_favourite_18 ?_
  obtain ⟨⟨fs15, he⟩, h⟩ := h
  refine kz_callV (pc := 21) (μ' := mX9_collect) (ci := 8) (q := (RX9, TX9, 10)) (b := v5) (d' := d + 7) (mc' := 0) (ms' := 0) (As := [.ref v7, .int p1, .int v11]) (st := []) (c := 0 + mc3) (sl := 0 + ms3) kmX9_collect kw_681 (by omega) rfl (Nat.le_of_ble_eq_true rfl) he rfl rfl hc3 hs3 dX11_favourite_21 (fun E M9 hx => kz_Tout rfl hc3 hs3 hx) (kz_Cmono (fun v M12 h => ?_) (fun _ _ h => h) h)
  obtain ⟨rfl, h⟩ := h
  show kz_Z G (d + 8) mc ms mX11_favourite Qr Qx 24 [(0, .ref a0), (1, .int p1)] [] M12 (0 + mc3) (0 + ms3)
  refine kz_iconst (pc := 24) (v := 0) (by decide) dX11_favourite_24 ?_
  refine kz_istore_n (pc := 25) (i := 2) (ls' := [(0, .ref a0), (1, .int p1)]) rfl (by decide) rfl dX11_favourite_25 ?_
  refine kz_iconst (pc := 26) (v := (-1)) (by decide) dX11_favourite_26 ?_
  refine kz_istore_n (pc := 27) (i := 3) (ls' := [(2, .int 0), (0, .ref a0), (1, .int p1)]) rfl (by decide) rfl dX11_favourite_27 ?_
  refine kz_iconst (pc := 28) (v := 0) (by decide) dX11_favourite_28 ?_
  refine kz_istore (pc := 29) (i := 4) (ls' := [(3, .int ((-1))), (2, .int 0), (0, .ref a0), (1, .int p1)]) (by decide) rfl dX11_favourite_29 ?_
  refine kz_sub [3, 4, 2, 1, 0] rfl ?_
  exact h
theorem rX11_favourite_31 {G : kz_G} {d : Nat} {mc ms : Nat} {Qr : Option Value → kz_M → Prop} {Qx : String → kz_M → Prop} {x0 : Nat} {x1 : Int32} {x2 : Int32} {x3 : Int32} {x4 : Int32}  {M : kz_M} {c sl : Nat} (hc : c ≤ mc) (hs : sl ≤ ms) (h : ∃ fs1 v2, (M).1 x0 = some (.inl (10, fs1)) ∧ fs1[2]? = some (.ref v2) ∧ (∃ fs3 v4, (M).1 v2 = some (.inl (8, fs3)) ∧ fs3[3]? = some (.int v4) ∧ ((v4 ≤ x4 → Qr (some (.int x3)) M) ∧ (¬ v4 ≤ x4 → ∃ fs5 v6, (M).1 x0 = some (.inl (10, fs5)) ∧ fs5[2]? = some (.ref v6) ∧ ((∃ fs10, (M).1 v6 = some (.inl (8, fs10))) ∧ kz_C G (d + 7) 0 0 mX9_workOf [.ref v6, .int x1, .int x4] M (fun v M7 => ∃ r8 : Option Nat, v = some (kz_rf r8) ∧ (zX11_favourite_58 G d mc ms Qr Qx x0 x1 x2 x3 x4 r8 0 M7 c sl)) Qx))))) : zX11_favourite_31 G d mc ms Qr Qx x0 x1 x2 x3 x4  M c sl := by
  show kz_Z G (d + 8) mc ms mX11_favourite Qr Qx 31 [(0, .ref x0), (1, .int x1), (2, .int x2), (3, .int x3), (4, .int x4)] [] M c sl
  refine kz_iload (pc := 31) 4 (i := 4) rfl dX11_favourite_31 ?_
  refine kz_aload_n (pc := 33) 0 (v := .ref x0) (i := 0) rfl rfl rfl dX11_favourite_33 ?_
  obtain ⟨fs1, v2, hM, hv, h⟩ := h
  refine kz_getf (pc := 34) (k := 2) kcX11 hM hv (by decide) kw_277 dX11_favourite_34 ?_
  obtain ⟨fs3, v4, hM, hv, h⟩ := h
  refine kz_getf (pc := 37) (k := 3) kcX9 hM hv (by decide) kw_109 dX11_favourite_37 ?_
  refine kz_icmp_ge (pc := 40) (tgt := 125) (by decide) dX11_favourite_40 (fun hb => ?_) (fun hb => ?_)
  · replace h := h.1 hb
    refine kz_iload_n (pc := 125) 3 (i := 3) rfl rfl dX11_favourite_125 ?_
    exact kz_iret (pc := 126) rfl hc hs dX11_favourite_126 h
  · replace h := h.2 hb
    refine kz_aload_n (pc := 43) 0 (v := .ref x0) (i := 0) rfl rfl rfl dX11_favourite_43 ?_
    obtain ⟨fs5, v6, hM, hv, h⟩ := h
    refine kz_getf (pc := 44) (k := 2) kcX11 hM hv (by decide) kw_277 dX11_favourite_44 ?_
    refine kz_iload_n (pc := 47) 1 (i := 1) rfl rfl dX11_favourite_47 ?_
    refine kz_iload (pc := 48) 4 (i := 4) rfl dX11_favourite_48 ?_
    obtain ⟨⟨fs10, he⟩, h⟩ := h
    refine kz_callV (pc := 50) (μ' := mX9_workOf) (ci := 8) (q := (RX9, TX9, 10)) (b := v6) (d' := d + 7) (mc' := 0) (ms' := 0) (As := [.int x1, .int x4]) (st := []) (c := c) (sl := sl) kmX9_workOf kw_702 (by omega) rfl (Nat.le_of_ble_eq_true rfl) he rfl rfl hc hs dX11_favourite_50 (fun E M9 hx => kz_Tout rfl hc hs hx) (kz_Cmono (fun v M7 h => ?_) (fun _ _ h => h) h)
    obtain ⟨r8, rfl, h⟩ := h
    show kz_Z G (d + 8) mc ms mX11_favourite Qr Qx 53 [(0, .ref x0), (1, .int x1), (2, .int x2), (3, .int x3), (4, .int x4)] [kz_rf r8] M7 c sl
    refine kz_astore (pc := 53) (i := 5) (v := kz_rf r8) (ls' := [(0, .ref x0), (1, .int x1), (2, .int x2), (3, .int x3), (4, .int x4)]) (kz_isr_rf _) (by decide) rfl dX11_favourite_53 ?_
    refine kz_iconst (pc := 55) (v := 0) (by decide) dX11_favourite_55 ?_
    refine kz_istore (pc := 56) (i := 6) (ls' := [(5, kz_rf r8), (0, .ref x0), (1, .int x1), (2, .int x2), (3, .int x3), (4, .int x4)]) (by decide) (by simp [kz_s1, kz_s2, kz_cat_rf]) dX11_favourite_56 ?_
    refine kz_sub [2, 3, 4, 5, 6, 1, 0] rfl ?_
    exact h
theorem rX11_favourite_58 {G : kz_G} {d : Nat} {mc ms : Nat} {Qr : Option Value → kz_M → Prop} {Qx : String → kz_M → Prop} {x0 : Nat} {x1 : Int32} {x2 : Int32} {x3 : Int32} {x4 : Int32} {x5 : Option Nat} {x6 : Int32}  {M : kz_M} {c sl : Nat} (hc : c ≤ mc) (hs : sl ≤ ms) (h : (x5 = none → zX11_favourite_31 G d mc ms Qr Qx x0 x1 x2 x3 (x4 + 1) M c sl) ∧ (∀ y1, x5 = some y1 → ∃ fs2 v3, (M).1 y1 = some (.inl (9, fs2)) ∧ fs2[2]? = some (.ref v3) ∧ ((∃ fs19, (M).1 v3 = some (.inl (6, fs19))) ∧ kz_C G (d + 7) 0 0 mX6_size [.ref v3] M (fun v M4 => ∃ r5 : Int32, v = some (.int r5) ∧ ((r5 ≤ x6 → zX11_favourite_31 G d mc ms Qr Qx x0 x1 x2 x3 (x4 + 1) M4 c sl) ∧ (¬ r5 ≤ x6 → ∃ fs7 v8, (M4).1 x0 = some (.inl (10, fs7)) ∧ fs7[6]? = some (.ref v8) ∧ (∃ fs9 v10, (M4).1 y1 = some (.inl (9, fs9)) ∧ fs9[2]? = some (.ref v10) ∧ ((∃ fs18, (M4).1 v10 = some (.inl (6, fs18))) ∧ kz_C G (d + 7) 0 0 mX6_wordAt [.ref v10, .int x6] M4 (fun v M11 => ∃ r12 : Int64, v = some (.long r12) ∧ ((∃ fs17, (M11).1 v8 = some (.inl (5, fs17))) ∧ kz_C G (d + 7) 0 0 mX5_linesWith [.ref v8, .long r12] M11 (fun v M14 => ∃ r15 : Int32, v = some (.int r15) ∧ ((r15 ≤ x2 → zX11_favourite_58 G d mc ms Qr Qx x0 x1 x2 x3 x4 (some y1) (x6 + 1) M14 c sl) ∧ (¬ r15 ≤ x2 → zX11_favourite_58 G d mc ms Qr Qx x0 x1 r15 ((100 * x4) + x6) x4 (some y1) (x6 + 1) M14 c sl))) Qx)) Qx))))) Qx))) : zX11_favourite_58 G d mc ms Qr Qx x0 x1 x2 x3 x4 x5 x6  M c sl := by
  show kz_Z G (d + 8) mc ms mX11_favourite Qr Qx 58 [(0, .ref x0), (1, .int x1), (2, .int x2), (3, .int x3), (4, .int x4), (5, kz_rf x5), (6, .int x6)] [] M c sl
  refine kz_aload (pc := 58) 5 (v := kz_rf x5) (i := 5) rfl (kz_isr_rf _) dX11_favourite_58 ?_
  rcases x5 with _ | y1
  · replace h := h.1 rfl
    refine kz_ifnull (pc := 60) (tgt := 119) rfl (by decide) dX11_favourite_60 (fun _ => ?_) (fun hn => absurd rfl hn)
    refine kz_iinc (pc := 119) 4 (i := 4) (v := x4 + 1) (ls' := [(0, .ref x0), (1, .int x1), (2, .int x2), (3, .int x3), (5, .null), (6, .int x6)]) rfl (congrArg (fun z => x4 + z) (by decide)) (by decide) rfl dX11_favourite_119 ?_
    refine kz_goto (pc := 122) (tgt := 31) (by decide) dX11_favourite_122 ?_
    refine kz_sub [1, 2, 3, 4, 0] rfl ?_
    exact h
  · replace h := h.2 y1 rfl
    refine kz_ifnull (pc := 60) (tgt := 119) rfl (by decide) dX11_favourite_60 (fun hn => by cases hn) (fun _ => ?_)
    refine kz_iload (pc := 63) 6 (i := 6) rfl dX11_favourite_63 ?_
    refine kz_aload (pc := 65) 5 (v := .ref y1) (i := 5) rfl rfl dX11_favourite_65 ?_
    obtain ⟨fs2, v3, hM, hv, h⟩ := h
    refine kz_getf (pc := 67) (k := 2) kcX10 hM hv (by decide) kw_1076 dX11_favourite_67 ?_
    obtain ⟨⟨fs19, he⟩, h⟩ := h
    refine kz_callV (pc := 70) (μ' := mX6_size) (ci := 6) (q := (RX6, TX6, 3)) (b := v3) (d' := d + 7) (mc' := 0) (ms' := 0) (As := []) (st := [.int x6]) (c := c) (sl := sl) kmX6_size kw_703 (by omega) rfl (Nat.le_of_ble_eq_true rfl) he rfl rfl hc hs dX11_favourite_70 (fun E M9 hx => kz_Tout rfl hc hs hx) (kz_Cmono (fun v M4 h => ?_) (fun _ _ h => h) h)
    obtain ⟨r5, rfl, h⟩ := h
    show kz_Z G (d + 8) mc ms mX11_favourite Qr Qx 73 [(0, .ref x0), (1, .int x1), (2, .int x2), (3, .int x3), (4, .int x4), (5, .ref y1), (6, .int x6)] [.int r5, .int x6] M4 c sl
    refine kz_icmp_ge (pc := 73) (tgt := 119) (by decide) dX11_favourite_73 (fun hb => ?_) (fun hb => ?_)
    · replace h := h.1 hb
      refine kz_iinc (pc := 119) 4 (i := 4) (v := x4 + 1) (ls' := [(0, .ref x0), (1, .int x1), (2, .int x2), (3, .int x3), (5, .ref y1), (6, .int x6)]) rfl (congrArg (fun z => x4 + z) (by decide)) (by decide) rfl dX11_favourite_119 ?_
      refine kz_goto (pc := 122) (tgt := 31) (by decide) dX11_favourite_122 ?_
      refine kz_sub [1, 2, 3, 4, 0] rfl ?_
      exact h
    · replace h := h.2 hb
      refine kz_aload_n (pc := 76) 0 (v := .ref x0) (i := 0) rfl rfl rfl dX11_favourite_76 ?_
      obtain ⟨fs7, v8, hM, hv, h⟩ := h
      refine kz_getf (pc := 77) (k := 6) kcX11 hM hv (by decide) kw_281 dX11_favourite_77 ?_
      refine kz_aload (pc := 80) 5 (v := .ref y1) (i := 5) rfl rfl dX11_favourite_80 ?_
      obtain ⟨fs9, v10, hM, hv, h⟩ := h
      refine kz_getf (pc := 82) (k := 2) kcX10 hM hv (by decide) kw_1076 dX11_favourite_82 ?_
      refine kz_iload (pc := 85) 6 (i := 6) rfl dX11_favourite_85 ?_
      obtain ⟨⟨fs18, he⟩, h⟩ := h
      refine kz_callV (pc := 87) (μ' := mX6_wordAt) (ci := 6) (q := (RX6, TX6, 3)) (b := v10) (d' := d + 7) (mc' := 0) (ms' := 0) (As := [.int x6]) (st := [.ref v8]) (c := c) (sl := sl) kmX6_wordAt kw_707 (by omega) rfl (Nat.le_of_ble_eq_true rfl) he rfl rfl hc hs dX11_favourite_87 (fun E M9 hx => kz_Tout rfl hc hs hx) (kz_Cmono (fun v M11 h => ?_) (fun _ _ h => h) h)
      obtain ⟨r12, rfl, h⟩ := h
      show kz_Z G (d + 8) mc ms mX11_favourite Qr Qx 90 [(0, .ref x0), (1, .int x1), (2, .int x2), (3, .int x3), (4, .int x4), (5, .ref y1), (6, .int x6)] [.long r12, .ref v8] M11 c sl
      obtain ⟨⟨fs17, he⟩, h⟩ := h
      refine kz_callV (pc := 90) (μ' := mX5_linesWith) (ci := 5) (q := (RX5, TX5, 2)) (b := v8) (d' := d + 7) (mc' := 0) (ms' := 0) (As := [.long r12]) (st := []) (c := c) (sl := sl) kmX5_linesWith kw_727 (by omega) rfl (Nat.le_of_ble_eq_true rfl) he rfl rfl hc hs dX11_favourite_90 (fun E M9 hx => kz_Tout rfl hc hs hx) (kz_Cmono (fun v M14 h => ?_) (fun _ _ h => h) h)
      obtain ⟨r15, rfl, h⟩ := h
      show kz_Z G (d + 8) mc ms mX11_favourite Qr Qx 93 [(0, .ref x0), (1, .int x1), (2, .int x2), (3, .int x3), (4, .int x4), (5, .ref y1), (6, .int x6)] [.int r15] M14 c sl
      refine kz_istore (pc := 93) (i := 7) (ls' := [(0, .ref x0), (1, .int x1), (2, .int x2), (3, .int x3), (4, .int x4), (5, .ref y1), (6, .int x6)]) (by decide) rfl dX11_favourite_93 ?_
      refine kz_iload (pc := 95) 0 (i := 7) rfl dX11_favourite_95 ?_
      refine kz_iload_n (pc := 97) 3 (i := 2) rfl rfl dX11_favourite_97 ?_
      refine kz_icmp_le (pc := 98) (tgt := 113) (by decide) dX11_favourite_98 (fun hb => ?_) (fun hb => ?_)
      · replace h := h.1 hb
        refine kz_iinc (pc := 113) 7 (i := 6) (v := x6 + 1) (ls' := [(7, .int r15), (0, .ref x0), (1, .int x1), (2, .int x2), (3, .int x3), (4, .int x4), (5, .ref y1)]) rfl (congrArg (fun z => x6 + z) (by decide)) (by decide) rfl dX11_favourite_113 ?_
        refine kz_goto (pc := 116) (tgt := 58) (by decide) dX11_favourite_116 ?_
        refine kz_sub [2, 3, 4, 5, 6, 7, 0] rfl ?_
        exact h
      · replace h := h.2 hb
        refine kz_iload (pc := 101) 0 (i := 7) rfl dX11_favourite_101 ?_
        refine kz_istore_n (pc := 103) (i := 2) (ls' := [(7, .int r15), (0, .ref x0), (1, .int x1), (3, .int x3), (4, .int x4), (5, .ref y1), (6, .int x6)]) rfl (by decide) rfl dX11_favourite_103 ?_
        refine kz_bipush (pc := 104) (v := 100) (by decide) dX11_favourite_104 ?_
        refine kz_iload (pc := 106) 5 (i := 4) rfl dX11_favourite_106 ?_
        refine kz_imul (pc := 108) dX11_favourite_108 ?_
        refine kz_iload (pc := 109) 7 (i := 6) rfl dX11_favourite_109 ?_
        refine kz_iadd (pc := 111) dX11_favourite_111 ?_
        refine kz_istore_n (pc := 112) (i := 3) (ls' := [(2, .int r15), (7, .int r15), (0, .ref x0), (1, .int x1), (4, .int x4), (5, .ref y1), (6, .int x6)]) rfl (by decide) rfl dX11_favourite_112 ?_
        refine kz_iinc (pc := 113) 7 (i := 6) (v := x6 + 1) (ls' := [(3, .int ((100 * x4) + x6)), (2, .int r15), (7, .int r15), (0, .ref x0), (1, .int x1), (4, .int x4), (5, .ref y1)]) rfl (congrArg (fun z => x6 + z) (by decide)) (by decide) rfl dX11_favourite_113 ?_
        refine kz_goto (pc := 116) (tgt := 58) (by decide) dX11_favourite_116 ?_
        refine kz_sub [4, 5, 2, 1, 6, 7, 0] rfl ?_
        exact h
theorem dX11_common_0 : decode cX11_common 0 = .ok (.aload_n 0, 1) := by decide +kernel
theorem dX11_common_1 : decode cX11_common 1 = .ok (.iload_n 1, 1) := by decide +kernel
theorem dX11_common_2 : decode cX11_common 2 = .ok (.invokevirtual 165, 3) := by decide +kernel
theorem dX11_common_5 : decode cX11_common 5 = .ok (.getfield 174, 3) := by decide +kernel
theorem dX11_common_8 : decode cX11_common 8 = .ok (.astore_n 3, 1) := by decide +kernel
theorem dX11_common_9 : decode cX11_common 9 = .ok (.aload_n 0, 1) := by decide +kernel
theorem dX11_common_10 : decode cX11_common 10 = .ok (.iload_n 2, 1) := by decide +kernel
theorem dX11_common_11 : decode cX11_common 11 = .ok (.invokevirtual 165, 3) := by decide +kernel
theorem dX11_common_14 : decode cX11_common 14 = .ok (.getfield 174, 3) := by decide +kernel
theorem dX11_common_17 : decode cX11_common 17 = .ok (.astore 4, 2) := by decide +kernel
theorem dX11_common_19 : decode cX11_common 19 = .ok (.iconst 0, 1) := by decide +kernel
theorem dX11_common_20 : decode cX11_common 20 = .ok (.istore 5, 2) := by decide +kernel
theorem dX11_common_22 : decode cX11_common 22 = .ok (.iconst 0, 1) := by decide +kernel
theorem dX11_common_23 : decode cX11_common 23 = .ok (.istore 6, 2) := by decide +kernel
theorem dX11_common_25 : decode cX11_common 25 = .ok (.iload 6, 2) := by decide +kernel
theorem dX11_common_27 : decode cX11_common 27 = .ok (.aload_n 3, 1) := by decide +kernel
theorem dX11_common_28 : decode cX11_common 28 = .ok (.invokevirtual 184, 3) := by decide +kernel
theorem dX11_common_31 : decode cX11_common 31 = .ok (.if_icmp .ge 42, 3) := by decide +kernel
theorem dX11_common_34 : decode cX11_common 34 = .ok (.aload_n 3, 1) := by decide +kernel
theorem dX11_common_35 : decode cX11_common 35 = .ok (.iconst 0, 1) := by decide +kernel
theorem dX11_common_36 : decode cX11_common 36 = .ok (.iload 6, 2) := by decide +kernel
theorem dX11_common_38 : decode cX11_common 38 = .ok (.invokevirtual 256, 3) := by decide +kernel
theorem dX11_common_41 : decode cX11_common 41 = .ok (.ifCond .eq 26, 3) := by decide +kernel
theorem dX11_common_44 : decode cX11_common 44 = .ok (.aload 4, 2) := by decide +kernel
theorem dX11_common_46 : decode cX11_common 46 = .ok (.aload_n 3, 1) := by decide +kernel
theorem dX11_common_47 : decode cX11_common 47 = .ok (.iload 6, 2) := by decide +kernel
theorem dX11_common_49 : decode cX11_common 49 = .ok (.invokevirtual 237, 3) := by decide +kernel
theorem dX11_common_52 : decode cX11_common 52 = .ok (.iconst 0, 1) := by decide +kernel
theorem dX11_common_53 : decode cX11_common 53 = .ok (.aload 4, 2) := by decide +kernel
theorem dX11_common_55 : decode cX11_common 55 = .ok (.invokevirtual 184, 3) := by decide +kernel
theorem dX11_common_58 : decode cX11_common 58 = .ok (.invokevirtual 260, 3) := by decide +kernel
theorem dX11_common_61 : decode cX11_common 61 = .ok (.ifCond .le 6, 3) := by decide +kernel
theorem dX11_common_64 : decode cX11_common 64 = .ok (.iinc 5 1, 3) := by decide +kernel
theorem dX11_common_67 : decode cX11_common 67 = .ok (.iinc 6 1, 3) := by decide +kernel
theorem dX11_common_70 : decode cX11_common 70 = .ok (.goto (-45), 3) := by decide +kernel
theorem dX11_common_73 : decode cX11_common 73 = .ok (.iload 5, 2) := by decide +kernel
theorem dX11_common_75 : decode cX11_common 75 = .ok (.ireturn, 1) := by decide +kernel
def zX11_common_25 (G : kz_G) (d mc ms : Nat) (Qr : Option Value → kz_M → Prop) (Qx : String → kz_M → Prop) (x3 : Nat) (x4 : Nat) (x5 : Int32) (x6 : Int32)  (M : kz_M) (c sl : Nat) : Prop := kz_Z G (d + 8) mc ms mX11_common Qr Qx 25 [(3, .ref x3), (4, .ref x4), (5, .int x5), (6, .int x6)] [] M c sl
theorem rX11_common_0 {G : kz_G} {d : Nat} {mc ms : Nat} {Qr : Option Value → kz_M → Prop} {Qx : String → kz_M → Prop} {a0 : Nat} {p1 : Int32} {p2 : Int32}  {M : kz_M} (h : (∃ fs12, (M).1 a0 = some (.inl (10, fs12))) ∧ ∃ mc3 ms3, 0 + mc3 ≤ mc ∧ 0 + ms3 ≤ ms ∧ kz_C G (d + 7) mc3 ms3 mX11_workOrThrow [.ref a0, .int p1] M (fun v M1 => ∃ r2 : Nat, v = some (.ref r2) ∧ (∃ fs4 v5, (M1).1 r2 = some (.inl (9, fs4)) ∧ fs4[2]? = some (.ref v5) ∧ ((∃ fs11, (M1).1 a0 = some (.inl (10, fs11))) ∧ ∃ mc8 ms8, 0 + mc3 + mc8 ≤ mc ∧ 0 + ms3 + ms8 ≤ ms ∧ kz_C G (d + 7) mc8 ms8 mX11_workOrThrow [.ref a0, .int p2] M1 (fun v M6 => ∃ r7 : Nat, v = some (.ref r7) ∧ (∃ fs9 v10, (M6).1 r7 = some (.inl (9, fs9)) ∧ fs9[2]? = some (.ref v10) ∧ (zX11_common_25 G d mc ms Qr Qx v5 v10 0 0 M6 (0 + mc3 + mc8) (0 + ms3 + ms8)))) Qx))) Qx) : kz_C G (d + 8) mc ms mX11_common [.ref a0, .int p1, .int p2] M Qr Qx := by
  refine kz_enter (n := 2) kmX11_common.1 (Nat.le_of_ble_eq_true rfl) (ls := [(0, .ref a0), (1, .int p1), (2, .int p2)]) rfl ?_
  refine kz_aload_n (pc := 0) 0 (v := .ref a0) (i := 0) rfl rfl rfl dX11_common_0 ?_
  refine kz_iload_n (pc := 1) 1 (i := 1) rfl rfl dX11_common_1 ?_
  obtain ⟨⟨fs12, he⟩, h⟩ := h
  obtain ⟨mc3, ms3, hc3, hs3, h⟩ := h
  refine kz_callV (pc := 2) (μ' := mX11_workOrThrow) (ci := 10) (q := (RX11, TX11, 10)) (b := a0) (d' := d + 7) (mc' := mc3) (ms' := ms3) (As := [.int p1]) (st := []) (c := 0) (sl := 0) kmX11_workOrThrow kw_744 (by omega) rfl (Nat.le_of_ble_eq_true rfl) he rfl rfl hc3 hs3 dX11_common_2 (fun E M9 hx => kz_Tout rfl hc3 hs3 hx) (kz_Cmono (fun v M1 h => ?_) (fun _ _ h => h) h)
  obtain ⟨r2, rfl, h⟩ := h
  show kz_Z G (d + 8) mc ms mX11_common Qr Qx 5 [(0, .ref a0), (1, .int p1), (2, .int p2)] [.ref r2] M1 (0 + mc3) (0 + ms3)
  obtain ⟨fs4, v5, hM, hv, h⟩ := h
  refine kz_getf (pc := 5) (k := 2) kcX10 hM hv (by decide) kw_1076 dX11_common_5 ?_
  refine kz_astore_n (pc := 8) (i := 3) (v := .ref v5) (ls' := [(0, .ref a0), (1, .int p1), (2, .int p2)]) rfl rfl (by decide) rfl dX11_common_8 ?_
  refine kz_aload_n (pc := 9) 1 (v := .ref a0) (i := 0) rfl rfl rfl dX11_common_9 ?_
  refine kz_iload_n (pc := 10) 3 (i := 2) rfl rfl dX11_common_10 ?_
  obtain ⟨⟨fs11, he⟩, h⟩ := h
  obtain ⟨mc8, ms8, hc8, hs8, h⟩ := h
  refine kz_callV (pc := 11) (μ' := mX11_workOrThrow) (ci := 10) (q := (RX11, TX11, 10)) (b := a0) (d' := d + 7) (mc' := mc8) (ms' := ms8) (As := [.int p2]) (st := []) (c := 0 + mc3) (sl := 0 + ms3) kmX11_workOrThrow kw_744 (by omega) rfl (Nat.le_of_ble_eq_true rfl) he rfl rfl hc8 hs8 dX11_common_11 (fun E M9 hx => kz_Tout rfl hc8 hs8 hx) (kz_Cmono (fun v M6 h => ?_) (fun _ _ h => h) h)
  obtain ⟨r7, rfl, h⟩ := h
  show kz_Z G (d + 8) mc ms mX11_common Qr Qx 14 [(3, .ref v5), (0, .ref a0), (1, .int p1), (2, .int p2)] [.ref r7] M6 (0 + mc3 + mc8) (0 + ms3 + ms8)
  obtain ⟨fs9, v10, hM, hv, h⟩ := h
  refine kz_getf (pc := 14) (k := 2) kcX10 hM hv (by decide) kw_1076 dX11_common_14 ?_
  refine kz_astore (pc := 17) (i := 4) (v := .ref v10) (ls' := [(3, .ref v5), (0, .ref a0), (1, .int p1), (2, .int p2)]) rfl (by decide) rfl dX11_common_17 ?_
  refine kz_iconst (pc := 19) (v := 0) (by decide) dX11_common_19 ?_
  refine kz_istore (pc := 20) (i := 5) (ls' := [(4, .ref v10), (3, .ref v5), (0, .ref a0), (1, .int p1), (2, .int p2)]) (by decide) rfl dX11_common_20 ?_
  refine kz_iconst (pc := 22) (v := 0) (by decide) dX11_common_22 ?_
  refine kz_istore (pc := 23) (i := 6) (ls' := [(5, .int 0), (4, .ref v10), (3, .ref v5), (0, .ref a0), (1, .int p1), (2, .int p2)]) (by decide) rfl dX11_common_23 ?_
  refine kz_sub [3, 2, 1, 0] rfl ?_
  exact h
theorem rX11_common_25 {G : kz_G} {d : Nat} {mc ms : Nat} {Qr : Option Value → kz_M → Prop} {Qx : String → kz_M → Prop} {x3 : Nat} {x4 : Nat} {x5 : Int32} {x6 : Int32}  {M : kz_M} {c sl : Nat} (hc : c ≤ mc) (hs : sl ≤ ms) (h : (∃ fs20, (M).1 x3 = some (.inl (6, fs20))) ∧ kz_C G (d + 7) 0 0 mX6_size [.ref x3] M (fun v M1 => ∃ r2 : Int32, v = some (.int r2) ∧ ((r2 ≤ x6 → Qr (some (.int x5)) M1) ∧ (¬ r2 ≤ x6 → (∃ fs19, (M1).1 x3 = some (.inl (6, fs19))) ∧ kz_C G (d + 7) 0 0 mX6_isNewAt [.ref x3, .int 0, .int x6] M1 (fun v M4 => ∃ r5 : Int32, v = some (.int r5) ∧ ((r5 = 0 → zX11_common_25 G d mc ms Qr Qx x3 x4 x5 (x6 + 1) M4 c sl) ∧ (¬ r5 = 0 → (∃ fs18, (M4).1 x3 = some (.inl (6, fs18))) ∧ kz_C G (d + 7) 0 0 mX6_wordAt [.ref x3, .int x6] M4 (fun v M7 => ∃ r8 : Int64, v = some (.long r8) ∧ ((∃ fs17, (M7).1 x4 = some (.inl (6, fs17))) ∧ kz_C G (d + 7) 0 0 mX6_size [.ref x4] M7 (fun v M10 => ∃ r11 : Int32, v = some (.int r11) ∧ ((∃ fs16, (M10).1 x4 = some (.inl (6, fs16))) ∧ kz_C G (d + 7) 0 0 mX6_times [.ref x4, .long r8, .int 0, .int r11] M10 (fun v M13 => ∃ r14 : Int32, v = some (.int r14) ∧ ((r14 ≤ 0 → zX11_common_25 G d mc ms Qr Qx x3 x4 x5 (x6 + 1) M13 c sl) ∧ (¬ r14 ≤ 0 → zX11_common_25 G d mc ms Qr Qx x3 x4 (x5 + 1) (x6 + 1) M13 c sl))) Qx)) Qx)) Qx))) Qx))) Qx) : zX11_common_25 G d mc ms Qr Qx x3 x4 x5 x6  M c sl := by
  show kz_Z G (d + 8) mc ms mX11_common Qr Qx 25 [(3, .ref x3), (4, .ref x4), (5, .int x5), (6, .int x6)] [] M c sl
  refine kz_iload (pc := 25) 3 (i := 6) rfl dX11_common_25 ?_
  refine kz_aload_n (pc := 27) 0 (v := .ref x3) (i := 3) rfl rfl rfl dX11_common_27 ?_
  obtain ⟨⟨fs20, he⟩, h⟩ := h
  refine kz_callV (pc := 28) (μ' := mX6_size) (ci := 6) (q := (RX6, TX6, 3)) (b := x3) (d' := d + 7) (mc' := 0) (ms' := 0) (As := []) (st := [.int x6]) (c := c) (sl := sl) kmX6_size kw_703 (by omega) rfl (Nat.le_of_ble_eq_true rfl) he rfl rfl hc hs dX11_common_28 (fun E M9 hx => kz_Tout rfl hc hs hx) (kz_Cmono (fun v M1 h => ?_) (fun _ _ h => h) h)
  obtain ⟨r2, rfl, h⟩ := h
  show kz_Z G (d + 8) mc ms mX11_common Qr Qx 31 [(3, .ref x3), (4, .ref x4), (5, .int x5), (6, .int x6)] [.int r2, .int x6] M1 c sl
  refine kz_icmp_ge (pc := 31) (tgt := 73) (by decide) dX11_common_31 (fun hb => ?_) (fun hb => ?_)
  · replace h := h.1 hb
    refine kz_iload (pc := 73) 2 (i := 5) rfl dX11_common_73 ?_
    exact kz_iret (pc := 75) rfl hc hs dX11_common_75 h
  · replace h := h.2 hb
    refine kz_aload_n (pc := 34) 0 (v := .ref x3) (i := 3) rfl rfl rfl dX11_common_34 ?_
    refine kz_iconst (pc := 35) (v := 0) (by decide) dX11_common_35 ?_
    refine kz_iload (pc := 36) 3 (i := 6) rfl dX11_common_36 ?_
    obtain ⟨⟨fs19, he⟩, h⟩ := h
    refine kz_callV (pc := 38) (μ' := mX6_isNewAt) (ci := 6) (q := (RX6, TX6, 3)) (b := x3) (d' := d + 7) (mc' := 0) (ms' := 0) (As := [.int 0, .int x6]) (st := []) (c := c) (sl := sl) kmX6_isNewAt kw_711 (by omega) rfl (Nat.le_of_ble_eq_true rfl) he rfl rfl hc hs dX11_common_38 (fun E M9 hx => kz_Tout rfl hc hs hx) (kz_Cmono (fun v M4 h => ?_) (fun _ _ h => h) h)
    obtain ⟨r5, rfl, h⟩ := h
    show kz_Z G (d + 8) mc ms mX11_common Qr Qx 41 [(3, .ref x3), (4, .ref x4), (5, .int x5), (6, .int x6)] [.int r5] M4 c sl
    refine kz_if_eq (pc := 41) (tgt := 67) (by decide) dX11_common_41 (fun hb => ?_) (fun hb => ?_)
    · replace h := h.1 hb
      refine kz_iinc (pc := 67) 3 (i := 6) (v := x6 + 1) (ls' := [(3, .ref x3), (4, .ref x4), (5, .int x5)]) rfl (congrArg (fun z => x6 + z) (by decide)) (by decide) rfl dX11_common_67 ?_
      refine kz_goto (pc := 70) (tgt := 25) (by decide) dX11_common_70 ?_
      refine kz_sub [1, 2, 3, 0] rfl ?_
      exact h
    · replace h := h.2 hb
      refine kz_aload (pc := 44) 1 (v := .ref x4) (i := 4) rfl rfl dX11_common_44 ?_
      refine kz_aload_n (pc := 46) 0 (v := .ref x3) (i := 3) rfl rfl rfl dX11_common_46 ?_
      refine kz_iload (pc := 47) 3 (i := 6) rfl dX11_common_47 ?_
      obtain ⟨⟨fs18, he⟩, h⟩ := h
      refine kz_callV (pc := 49) (μ' := mX6_wordAt) (ci := 6) (q := (RX6, TX6, 3)) (b := x3) (d' := d + 7) (mc' := 0) (ms' := 0) (As := [.int x6]) (st := [.ref x4]) (c := c) (sl := sl) kmX6_wordAt kw_707 (by omega) rfl (Nat.le_of_ble_eq_true rfl) he rfl rfl hc hs dX11_common_49 (fun E M9 hx => kz_Tout rfl hc hs hx) (kz_Cmono (fun v M7 h => ?_) (fun _ _ h => h) h)
      obtain ⟨r8, rfl, h⟩ := h
      show kz_Z G (d + 8) mc ms mX11_common Qr Qx 52 [(3, .ref x3), (4, .ref x4), (5, .int x5), (6, .int x6)] [.long r8, .ref x4] M7 c sl
      refine kz_iconst (pc := 52) (v := 0) (by decide) dX11_common_52 ?_
      refine kz_aload (pc := 53) 1 (v := .ref x4) (i := 4) rfl rfl dX11_common_53 ?_
      obtain ⟨⟨fs17, he⟩, h⟩ := h
      refine kz_callV (pc := 55) (μ' := mX6_size) (ci := 6) (q := (RX6, TX6, 3)) (b := x4) (d' := d + 7) (mc' := 0) (ms' := 0) (As := []) (st := [.int 0, .long r8, .ref x4]) (c := c) (sl := sl) kmX6_size kw_703 (by omega) rfl (Nat.le_of_ble_eq_true rfl) he rfl rfl hc hs dX11_common_55 (fun E M9 hx => kz_Tout rfl hc hs hx) (kz_Cmono (fun v M10 h => ?_) (fun _ _ h => h) h)
      obtain ⟨r11, rfl, h⟩ := h
      show kz_Z G (d + 8) mc ms mX11_common Qr Qx 58 [(3, .ref x3), (4, .ref x4), (5, .int x5), (6, .int x6)] [.int r11, .int 0, .long r8, .ref x4] M10 c sl
      obtain ⟨⟨fs16, he⟩, h⟩ := h
      refine kz_callV (pc := 58) (μ' := mX6_times) (ci := 6) (q := (RX6, TX6, 3)) (b := x4) (d' := d + 7) (mc' := 0) (ms' := 0) (As := [.long r8, .int 0, .int r11]) (st := []) (c := c) (sl := sl) kmX6_times kw_827 (by omega) rfl (Nat.le_of_ble_eq_true rfl) he rfl rfl hc hs dX11_common_58 (fun E M9 hx => kz_Tout rfl hc hs hx) (kz_Cmono (fun v M13 h => ?_) (fun _ _ h => h) h)
      obtain ⟨r14, rfl, h⟩ := h
      show kz_Z G (d + 8) mc ms mX11_common Qr Qx 61 [(3, .ref x3), (4, .ref x4), (5, .int x5), (6, .int x6)] [.int r14] M13 c sl
      refine kz_if_le (pc := 61) (tgt := 67) (by decide) dX11_common_61 (fun hb => ?_) (fun hb => ?_)
      · replace h := h.1 hb
        refine kz_iinc (pc := 67) 3 (i := 6) (v := x6 + 1) (ls' := [(3, .ref x3), (4, .ref x4), (5, .int x5)]) rfl (congrArg (fun z => x6 + z) (by decide)) (by decide) rfl dX11_common_67 ?_
        refine kz_goto (pc := 70) (tgt := 25) (by decide) dX11_common_70 ?_
        refine kz_sub [1, 2, 3, 0] rfl ?_
        exact h
      · replace h := h.2 hb
        refine kz_iinc (pc := 64) 2 (i := 5) (v := x5 + 1) (ls' := [(3, .ref x3), (4, .ref x4), (6, .int x6)]) rfl (congrArg (fun z => x5 + z) (by decide)) (by decide) rfl dX11_common_64 ?_
        refine kz_iinc (pc := 67) 3 (i := 6) (v := x6 + 1) (ls' := [(5, .int (x5 + 1)), (3, .ref x3), (4, .ref x4)]) rfl (congrArg (fun z => x6 + z) (by decide)) (by decide) rfl dX11_common_67 ?_
        refine kz_goto (pc := 70) (tgt := 25) (by decide) dX11_common_70 ?_
        refine kz_sub [2, 3, 1, 0] rfl ?_
        exact h
theorem dX11_newWords_0 : decode cX11_newWords 0 = .ok (.aload_n 0, 1) := by decide +kernel
theorem dX11_newWords_1 : decode cX11_newWords 1 = .ok (.iload_n 1, 1) := by decide +kernel
theorem dX11_newWords_2 : decode cX11_newWords 2 = .ok (.invokevirtual 165, 3) := by decide +kernel
theorem dX11_newWords_5 : decode cX11_newWords 5 = .ok (.astore_n 2, 1) := by decide +kernel
theorem dX11_newWords_6 : decode cX11_newWords 6 = .ok (.iconst 0, 1) := by decide +kernel
theorem dX11_newWords_7 : decode cX11_newWords 7 = .ok (.istore_n 3, 1) := by decide +kernel
theorem dX11_newWords_8 : decode cX11_newWords 8 = .ok (.iconst 0, 1) := by decide +kernel
theorem dX11_newWords_9 : decode cX11_newWords 9 = .ok (.istore 4, 2) := by decide +kernel
theorem dX11_newWords_11 : decode cX11_newWords 11 = .ok (.iload 4, 2) := by decide +kernel
theorem dX11_newWords_13 : decode cX11_newWords 13 = .ok (.aload_n 2, 1) := by decide +kernel
theorem dX11_newWords_14 : decode cX11_newWords 14 = .ok (.getfield 174, 3) := by decide +kernel
theorem dX11_newWords_17 : decode cX11_newWords 17 = .ok (.invokevirtual 184, 3) := by decide +kernel
theorem dX11_newWords_20 : decode cX11_newWords 20 = .ok (.if_icmp .ge 49, 3) := by decide +kernel
theorem dX11_newWords_23 : decode cX11_newWords 23 = .ok (.aload_n 2, 1) := by decide +kernel
theorem dX11_newWords_24 : decode cX11_newWords 24 = .ok (.getfield 174, 3) := by decide +kernel
theorem dX11_newWords_27 : decode cX11_newWords 27 = .ok (.iconst 0, 1) := by decide +kernel
theorem dX11_newWords_28 : decode cX11_newWords 28 = .ok (.iload 4, 2) := by decide +kernel
theorem dX11_newWords_30 : decode cX11_newWords 30 = .ok (.invokevirtual 256, 3) := by decide +kernel
theorem dX11_newWords_33 : decode cX11_newWords 33 = .ok (.ifCond .eq 30, 3) := by decide +kernel
theorem dX11_newWords_36 : decode cX11_newWords 36 = .ok (.aload_n 0, 1) := by decide +kernel
theorem dX11_newWords_37 : decode cX11_newWords 37 = .ok (.getfield 26, 3) := by decide +kernel
theorem dX11_newWords_40 : decode cX11_newWords 40 = .ok (.aload_n 2, 1) := by decide +kernel
theorem dX11_newWords_41 : decode cX11_newWords 41 = .ok (.getfield 174, 3) := by decide +kernel
theorem dX11_newWords_44 : decode cX11_newWords 44 = .ok (.iload 4, 2) := by decide +kernel
theorem dX11_newWords_46 : decode cX11_newWords 46 = .ok (.invokevirtual 237, 3) := by decide +kernel
theorem dX11_newWords_49 : decode cX11_newWords 49 = .ok (.aload_n 2, 1) := by decide +kernel
theorem dX11_newWords_50 : decode cX11_newWords 50 = .ok (.getfield 169, 3) := by decide +kernel
theorem dX11_newWords_53 : decode cX11_newWords 53 = .ok (.iload_n 1, 1) := by decide +kernel
theorem dX11_newWords_54 : decode cX11_newWords 54 = .ok (.invokevirtual 264, 3) := by decide +kernel
theorem dX11_newWords_57 : decode cX11_newWords 57 = .ok (.ifCond .ne 6, 3) := by decide +kernel
theorem dX11_newWords_60 : decode cX11_newWords 60 = .ok (.iinc 3 1, 3) := by decide +kernel
theorem dX11_newWords_63 : decode cX11_newWords 63 = .ok (.iinc 4 1, 3) := by decide +kernel
theorem dX11_newWords_66 : decode cX11_newWords 66 = .ok (.goto (-55), 3) := by decide +kernel
theorem dX11_newWords_69 : decode cX11_newWords 69 = .ok (.iload_n 3, 1) := by decide +kernel
theorem dX11_newWords_70 : decode cX11_newWords 70 = .ok (.ireturn, 1) := by decide +kernel
def zX11_newWords_11 (G : kz_G) (d mc ms : Nat) (Qr : Option Value → kz_M → Prop) (Qx : String → kz_M → Prop) (x0 : Nat) (x1 : Int32) (x2 : Nat) (x3 : Int32) (x4 : Int32)  (M : kz_M) (c sl : Nat) : Prop := kz_Z G (d + 8) mc ms mX11_newWords Qr Qx 11 [(0, .ref x0), (1, .int x1), (2, .ref x2), (3, .int x3), (4, .int x4)] [] M c sl
theorem rX11_newWords_0 {G : kz_G} {d : Nat} {mc ms : Nat} {Qr : Option Value → kz_M → Prop} {Qx : String → kz_M → Prop} {a0 : Nat} {p1 : Int32}  {M : kz_M} (h : (∃ fs4, (M).1 a0 = some (.inl (10, fs4))) ∧ ∃ mc3 ms3, 0 + mc3 ≤ mc ∧ 0 + ms3 ≤ ms ∧ kz_C G (d + 7) mc3 ms3 mX11_workOrThrow [.ref a0, .int p1] M (fun v M1 => ∃ r2 : Nat, v = some (.ref r2) ∧ (zX11_newWords_11 G d mc ms Qr Qx a0 p1 r2 0 0 M1 (0 + mc3) (0 + ms3))) Qx) : kz_C G (d + 8) mc ms mX11_newWords [.ref a0, .int p1] M Qr Qx := by
  refine kz_enter (n := 1) kmX11_newWords.1 (Nat.le_of_ble_eq_true rfl) (ls := [(0, .ref a0), (1, .int p1)]) rfl ?_
  refine kz_aload_n (pc := 0) 0 (v := .ref a0) (i := 0) rfl rfl rfl dX11_newWords_0 ?_
  refine kz_iload_n (pc := 1) 1 (i := 1) rfl rfl dX11_newWords_1 ?_
  obtain ⟨⟨fs4, he⟩, h⟩ := h
  obtain ⟨mc3, ms3, hc3, hs3, h⟩ := h
  refine kz_callV (pc := 2) (μ' := mX11_workOrThrow) (ci := 10) (q := (RX11, TX11, 10)) (b := a0) (d' := d + 7) (mc' := mc3) (ms' := ms3) (As := [.int p1]) (st := []) (c := 0) (sl := 0) kmX11_workOrThrow kw_744 (by omega) rfl (Nat.le_of_ble_eq_true rfl) he rfl rfl hc3 hs3 dX11_newWords_2 (fun E M9 hx => kz_Tout rfl hc3 hs3 hx) (kz_Cmono (fun v M1 h => ?_) (fun _ _ h => h) h)
  obtain ⟨r2, rfl, h⟩ := h
  show kz_Z G (d + 8) mc ms mX11_newWords Qr Qx 5 [(0, .ref a0), (1, .int p1)] [.ref r2] M1 (0 + mc3) (0 + ms3)
  refine kz_astore_n (pc := 5) (i := 2) (v := .ref r2) (ls' := [(0, .ref a0), (1, .int p1)]) rfl rfl (by decide) rfl dX11_newWords_5 ?_
  refine kz_iconst (pc := 6) (v := 0) (by decide) dX11_newWords_6 ?_
  refine kz_istore_n (pc := 7) (i := 3) (ls' := [(2, .ref r2), (0, .ref a0), (1, .int p1)]) rfl (by decide) rfl dX11_newWords_7 ?_
  refine kz_iconst (pc := 8) (v := 0) (by decide) dX11_newWords_8 ?_
  refine kz_istore (pc := 9) (i := 4) (ls' := [(3, .int 0), (2, .ref r2), (0, .ref a0), (1, .int p1)]) (by decide) rfl dX11_newWords_9 ?_
  refine kz_sub [3, 4, 2, 1, 0] rfl ?_
  exact h
theorem rX11_newWords_11 {G : kz_G} {d : Nat} {mc ms : Nat} {Qr : Option Value → kz_M → Prop} {Qx : String → kz_M → Prop} {x0 : Nat} {x1 : Int32} {x2 : Nat} {x3 : Int32} {x4 : Int32}  {M : kz_M} {c sl : Nat} (hc : c ≤ mc) (hs : sl ≤ ms) (h : ∃ fs1 v2, (M).1 x2 = some (.inl (9, fs1)) ∧ fs1[2]? = some (.ref v2) ∧ ((∃ fs26, (M).1 v2 = some (.inl (6, fs26))) ∧ kz_C G (d + 7) 0 0 mX6_size [.ref v2] M (fun v M3 => ∃ r4 : Int32, v = some (.int r4) ∧ ((r4 ≤ x4 → Qr (some (.int x3)) M3) ∧ (¬ r4 ≤ x4 → ∃ fs6 v7, (M3).1 x2 = some (.inl (9, fs6)) ∧ fs6[2]? = some (.ref v7) ∧ ((∃ fs25, (M3).1 v7 = some (.inl (6, fs25))) ∧ kz_C G (d + 7) 0 0 mX6_isNewAt [.ref v7, .int 0, .int x4] M3 (fun v M8 => ∃ r9 : Int32, v = some (.int r9) ∧ ((r9 = 0 → zX11_newWords_11 G d mc ms Qr Qx x0 x1 x2 x3 (x4 + 1) M8 c sl) ∧ (¬ r9 = 0 → ∃ fs11 v12, (M8).1 x0 = some (.inl (10, fs11)) ∧ fs11[2]? = some (.ref v12) ∧ (∃ fs13 v14, (M8).1 x2 = some (.inl (9, fs13)) ∧ fs13[2]? = some (.ref v14) ∧ ((∃ fs24, (M8).1 v14 = some (.inl (6, fs24))) ∧ kz_C G (d + 7) 0 0 mX6_wordAt [.ref v14, .int x4] M8 (fun v M15 => ∃ r16 : Int64, v = some (.long r16) ∧ (∃ fs18 v19, (M15).1 x2 = some (.inl (9, fs18)) ∧ fs18[0]? = some (.int v19) ∧ ((∃ fs23, (M15).1 v12 = some (.inl (8, fs23))) ∧ kz_C G (d + 7) 0 0 mX9_usedBefore [.ref v12, .long r16, .int v19, .int x1] M15 (fun v M20 => ∃ r21 : Int32, v = some (.int r21) ∧ ((¬ r21 = 0 → zX11_newWords_11 G d mc ms Qr Qx x0 x1 x2 x3 (x4 + 1) M20 c sl) ∧ (r21 = 0 → zX11_newWords_11 G d mc ms Qr Qx x0 x1 x2 (x3 + 1) (x4 + 1) M20 c sl))) Qx))) Qx))))) Qx)))) Qx)) : zX11_newWords_11 G d mc ms Qr Qx x0 x1 x2 x3 x4  M c sl := by
  show kz_Z G (d + 8) mc ms mX11_newWords Qr Qx 11 [(0, .ref x0), (1, .int x1), (2, .ref x2), (3, .int x3), (4, .int x4)] [] M c sl
  refine kz_iload (pc := 11) 4 (i := 4) rfl dX11_newWords_11 ?_
  refine kz_aload_n (pc := 13) 2 (v := .ref x2) (i := 2) rfl rfl rfl dX11_newWords_13 ?_
  obtain ⟨fs1, v2, hM, hv, h⟩ := h
  refine kz_getf (pc := 14) (k := 2) kcX10 hM hv (by decide) kw_1076 dX11_newWords_14 ?_
  obtain ⟨⟨fs26, he⟩, h⟩ := h
  refine kz_callV (pc := 17) (μ' := mX6_size) (ci := 6) (q := (RX6, TX6, 3)) (b := v2) (d' := d + 7) (mc' := 0) (ms' := 0) (As := []) (st := [.int x4]) (c := c) (sl := sl) kmX6_size kw_703 (by omega) rfl (Nat.le_of_ble_eq_true rfl) he rfl rfl hc hs dX11_newWords_17 (fun E M9 hx => kz_Tout rfl hc hs hx) (kz_Cmono (fun v M3 h => ?_) (fun _ _ h => h) h)
  obtain ⟨r4, rfl, h⟩ := h
  show kz_Z G (d + 8) mc ms mX11_newWords Qr Qx 20 [(0, .ref x0), (1, .int x1), (2, .ref x2), (3, .int x3), (4, .int x4)] [.int r4, .int x4] M3 c sl
  refine kz_icmp_ge (pc := 20) (tgt := 69) (by decide) dX11_newWords_20 (fun hb => ?_) (fun hb => ?_)
  · replace h := h.1 hb
    refine kz_iload_n (pc := 69) 3 (i := 3) rfl rfl dX11_newWords_69 ?_
    exact kz_iret (pc := 70) rfl hc hs dX11_newWords_70 h
  · replace h := h.2 hb
    refine kz_aload_n (pc := 23) 2 (v := .ref x2) (i := 2) rfl rfl rfl dX11_newWords_23 ?_
    obtain ⟨fs6, v7, hM, hv, h⟩ := h
    refine kz_getf (pc := 24) (k := 2) kcX10 hM hv (by decide) kw_1076 dX11_newWords_24 ?_
    refine kz_iconst (pc := 27) (v := 0) (by decide) dX11_newWords_27 ?_
    refine kz_iload (pc := 28) 4 (i := 4) rfl dX11_newWords_28 ?_
    obtain ⟨⟨fs25, he⟩, h⟩ := h
    refine kz_callV (pc := 30) (μ' := mX6_isNewAt) (ci := 6) (q := (RX6, TX6, 3)) (b := v7) (d' := d + 7) (mc' := 0) (ms' := 0) (As := [.int 0, .int x4]) (st := []) (c := c) (sl := sl) kmX6_isNewAt kw_711 (by omega) rfl (Nat.le_of_ble_eq_true rfl) he rfl rfl hc hs dX11_newWords_30 (fun E M9 hx => kz_Tout rfl hc hs hx) (kz_Cmono (fun v M8 h => ?_) (fun _ _ h => h) h)
    obtain ⟨r9, rfl, h⟩ := h
    show kz_Z G (d + 8) mc ms mX11_newWords Qr Qx 33 [(0, .ref x0), (1, .int x1), (2, .ref x2), (3, .int x3), (4, .int x4)] [.int r9] M8 c sl
    refine kz_if_eq (pc := 33) (tgt := 63) (by decide) dX11_newWords_33 (fun hb => ?_) (fun hb => ?_)
    · replace h := h.1 hb
      refine kz_iinc (pc := 63) 4 (i := 4) (v := x4 + 1) (ls' := [(0, .ref x0), (1, .int x1), (2, .ref x2), (3, .int x3)]) rfl (congrArg (fun z => x4 + z) (by decide)) (by decide) rfl dX11_newWords_63 ?_
      refine kz_goto (pc := 66) (tgt := 11) (by decide) dX11_newWords_66 ?_
      refine kz_sub [1, 2, 3, 4, 0] rfl ?_
      exact h
    · replace h := h.2 hb
      refine kz_aload_n (pc := 36) 0 (v := .ref x0) (i := 0) rfl rfl rfl dX11_newWords_36 ?_
      obtain ⟨fs11, v12, hM, hv, h⟩ := h
      refine kz_getf (pc := 37) (k := 2) kcX11 hM hv (by decide) kw_277 dX11_newWords_37 ?_
      refine kz_aload_n (pc := 40) 2 (v := .ref x2) (i := 2) rfl rfl rfl dX11_newWords_40 ?_
      obtain ⟨fs13, v14, hM, hv, h⟩ := h
      refine kz_getf (pc := 41) (k := 2) kcX10 hM hv (by decide) kw_1076 dX11_newWords_41 ?_
      refine kz_iload (pc := 44) 4 (i := 4) rfl dX11_newWords_44 ?_
      obtain ⟨⟨fs24, he⟩, h⟩ := h
      refine kz_callV (pc := 46) (μ' := mX6_wordAt) (ci := 6) (q := (RX6, TX6, 3)) (b := v14) (d' := d + 7) (mc' := 0) (ms' := 0) (As := [.int x4]) (st := [.ref v12]) (c := c) (sl := sl) kmX6_wordAt kw_707 (by omega) rfl (Nat.le_of_ble_eq_true rfl) he rfl rfl hc hs dX11_newWords_46 (fun E M9 hx => kz_Tout rfl hc hs hx) (kz_Cmono (fun v M15 h => ?_) (fun _ _ h => h) h)
      obtain ⟨r16, rfl, h⟩ := h
      show kz_Z G (d + 8) mc ms mX11_newWords Qr Qx 49 [(0, .ref x0), (1, .int x1), (2, .ref x2), (3, .int x3), (4, .int x4)] [.long r16, .ref v12] M15 c sl
      refine kz_aload_n (pc := 49) 2 (v := .ref x2) (i := 2) rfl rfl rfl dX11_newWords_49 ?_
      obtain ⟨fs18, v19, hM, hv, h⟩ := h
      refine kz_getf (pc := 50) (k := 0) kcX10 hM hv (by decide) kw_1070 dX11_newWords_50 ?_
      refine kz_iload_n (pc := 53) 1 (i := 1) rfl rfl dX11_newWords_53 ?_
      obtain ⟨⟨fs23, he⟩, h⟩ := h
      refine kz_callV (pc := 54) (μ' := mX9_usedBefore) (ci := 8) (q := (RX9, TX9, 10)) (b := v12) (d' := d + 7) (mc' := 0) (ms' := 0) (As := [.long r16, .int v19, .int x1]) (st := []) (c := c) (sl := sl) kmX9_usedBefore kw_721 (by omega) rfl (Nat.le_of_ble_eq_true rfl) he rfl rfl hc hs dX11_newWords_54 (fun E M9 hx => kz_Tout rfl hc hs hx) (kz_Cmono (fun v M20 h => ?_) (fun _ _ h => h) h)
      obtain ⟨r21, rfl, h⟩ := h
      show kz_Z G (d + 8) mc ms mX11_newWords Qr Qx 57 [(0, .ref x0), (1, .int x1), (2, .ref x2), (3, .int x3), (4, .int x4)] [.int r21] M20 c sl
      refine kz_if_ne (pc := 57) (tgt := 63) (by decide) dX11_newWords_57 (fun hb => ?_) (fun hb => ?_)
      · replace h := h.1 hb
        refine kz_iinc (pc := 63) 4 (i := 4) (v := x4 + 1) (ls' := [(0, .ref x0), (1, .int x1), (2, .ref x2), (3, .int x3)]) rfl (congrArg (fun z => x4 + z) (by decide)) (by decide) rfl dX11_newWords_63 ?_
        refine kz_goto (pc := 66) (tgt := 11) (by decide) dX11_newWords_66 ?_
        refine kz_sub [1, 2, 3, 4, 0] rfl ?_
        exact h
      · replace h := h.2 hb
        refine kz_iinc (pc := 60) 3 (i := 3) (v := x3 + 1) (ls' := [(0, .ref x0), (1, .int x1), (2, .ref x2), (4, .int x4)]) rfl (congrArg (fun z => x3 + z) (by decide)) (by decide) rfl dX11_newWords_60 ?_
        refine kz_iinc (pc := 63) 4 (i := 4) (v := x4 + 1) (ls' := [(3, .int (x3 + 1)), (0, .ref x0), (1, .int x1), (2, .ref x2)]) rfl (congrArg (fun z => x4 + z) (by decide)) (by decide) rfl dX11_newWords_63 ?_
        refine kz_goto (pc := 66) (tgt := 11) (by decide) dX11_newWords_66 ?_
        refine kz_sub [2, 3, 4, 1, 0] rfl ?_
        exact h
theorem dX11_widest_0 : decode cX11_widest 0 = .ok (.aload_n 0, 1) := by decide +kernel
theorem dX11_widest_1 : decode cX11_widest 1 = .ok (.iload_n 1, 1) := by decide +kernel
theorem dX11_widest_2 : decode cX11_widest 2 = .ok (.invokevirtual 165, 3) := by decide +kernel
theorem dX11_widest_5 : decode cX11_widest 5 = .ok (.astore_n 2, 1) := by decide +kernel
theorem dX11_widest_6 : decode cX11_widest 6 = .ok (.iconst 0, 1) := by decide +kernel
theorem dX11_widest_7 : decode cX11_widest 7 = .ok (.istore_n 3, 1) := by decide +kernel
theorem dX11_widest_8 : decode cX11_widest 8 = .ok (.iconst 1, 1) := by decide +kernel
theorem dX11_widest_9 : decode cX11_widest 9 = .ok (.istore 4, 2) := by decide +kernel
theorem dX11_widest_11 : decode cX11_widest 11 = .ok (.iload 4, 2) := by decide +kernel
theorem dX11_widest_13 : decode cX11_widest 13 = .ok (.aload_n 2, 1) := by decide +kernel
theorem dX11_widest_14 : decode cX11_widest 14 = .ok (.invokevirtual 186, 3) := by decide +kernel
theorem dX11_widest_17 : decode cX11_widest 17 = .ok (.if_icmp .ge 26, 3) := by decide +kernel
theorem dX11_widest_20 : decode cX11_widest 20 = .ok (.aload_n 2, 1) := by decide +kernel
theorem dX11_widest_21 : decode cX11_widest 21 = .ok (.iload 4, 2) := by decide +kernel
theorem dX11_widest_23 : decode cX11_widest 23 = .ok (.invokevirtual 268, 3) := by decide +kernel
theorem dX11_widest_26 : decode cX11_widest 26 = .ok (.aload_n 2, 1) := by decide +kernel
theorem dX11_widest_27 : decode cX11_widest 27 = .ok (.iload_n 3, 1) := by decide +kernel
theorem dX11_widest_28 : decode cX11_widest 28 = .ok (.invokevirtual 268, 3) := by decide +kernel
theorem dX11_widest_31 : decode cX11_widest 31 = .ok (.if_icmp .le 6, 3) := by decide +kernel
theorem dX11_widest_34 : decode cX11_widest 34 = .ok (.iload 4, 2) := by decide +kernel
theorem dX11_widest_36 : decode cX11_widest 36 = .ok (.istore_n 3, 1) := by decide +kernel
theorem dX11_widest_37 : decode cX11_widest 37 = .ok (.iinc 4 1, 3) := by decide +kernel
theorem dX11_widest_40 : decode cX11_widest 40 = .ok (.goto (-29), 3) := by decide +kernel
theorem dX11_widest_43 : decode cX11_widest 43 = .ok (.iload_n 3, 1) := by decide +kernel
theorem dX11_widest_44 : decode cX11_widest 44 = .ok (.ireturn, 1) := by decide +kernel
def zX11_widest_11 (G : kz_G) (d mc ms : Nat) (Qr : Option Value → kz_M → Prop) (Qx : String → kz_M → Prop) (x2 : Nat) (x3 : Int32) (x4 : Int32)  (M : kz_M) (c sl : Nat) : Prop := kz_Z G (d + 8) mc ms mX11_widest Qr Qx 11 [(2, .ref x2), (3, .int x3), (4, .int x4)] [] M c sl
theorem rX11_widest_0 {G : kz_G} {d : Nat} {mc ms : Nat} {Qr : Option Value → kz_M → Prop} {Qx : String → kz_M → Prop} {a0 : Nat} {p1 : Int32}  {M : kz_M} (h : (∃ fs4, (M).1 a0 = some (.inl (10, fs4))) ∧ ∃ mc3 ms3, 0 + mc3 ≤ mc ∧ 0 + ms3 ≤ ms ∧ kz_C G (d + 7) mc3 ms3 mX11_workOrThrow [.ref a0, .int p1] M (fun v M1 => ∃ r2 : Nat, v = some (.ref r2) ∧ (zX11_widest_11 G d mc ms Qr Qx r2 0 1 M1 (0 + mc3) (0 + ms3))) Qx) : kz_C G (d + 8) mc ms mX11_widest [.ref a0, .int p1] M Qr Qx := by
  refine kz_enter (n := 1) kmX11_widest.1 (Nat.le_of_ble_eq_true rfl) (ls := [(0, .ref a0), (1, .int p1)]) rfl ?_
  refine kz_aload_n (pc := 0) 0 (v := .ref a0) (i := 0) rfl rfl rfl dX11_widest_0 ?_
  refine kz_iload_n (pc := 1) 1 (i := 1) rfl rfl dX11_widest_1 ?_
  obtain ⟨⟨fs4, he⟩, h⟩ := h
  obtain ⟨mc3, ms3, hc3, hs3, h⟩ := h
  refine kz_callV (pc := 2) (μ' := mX11_workOrThrow) (ci := 10) (q := (RX11, TX11, 10)) (b := a0) (d' := d + 7) (mc' := mc3) (ms' := ms3) (As := [.int p1]) (st := []) (c := 0) (sl := 0) kmX11_workOrThrow kw_744 (by omega) rfl (Nat.le_of_ble_eq_true rfl) he rfl rfl hc3 hs3 dX11_widest_2 (fun E M9 hx => kz_Tout rfl hc3 hs3 hx) (kz_Cmono (fun v M1 h => ?_) (fun _ _ h => h) h)
  obtain ⟨r2, rfl, h⟩ := h
  show kz_Z G (d + 8) mc ms mX11_widest Qr Qx 5 [(0, .ref a0), (1, .int p1)] [.ref r2] M1 (0 + mc3) (0 + ms3)
  refine kz_astore_n (pc := 5) (i := 2) (v := .ref r2) (ls' := [(0, .ref a0), (1, .int p1)]) rfl rfl (by decide) rfl dX11_widest_5 ?_
  refine kz_iconst (pc := 6) (v := 0) (by decide) dX11_widest_6 ?_
  refine kz_istore_n (pc := 7) (i := 3) (ls' := [(2, .ref r2), (0, .ref a0), (1, .int p1)]) rfl (by decide) rfl dX11_widest_7 ?_
  refine kz_iconst (pc := 8) (v := 1) (by decide) dX11_widest_8 ?_
  refine kz_istore (pc := 9) (i := 4) (ls' := [(3, .int 0), (2, .ref r2), (0, .ref a0), (1, .int p1)]) (by decide) rfl dX11_widest_9 ?_
  refine kz_sub [2, 1, 0] rfl ?_
  exact h
theorem rX11_widest_11 {G : kz_G} {d : Nat} {mc ms : Nat} {Qr : Option Value → kz_M → Prop} {Qx : String → kz_M → Prop} {x2 : Nat} {x3 : Int32} {x4 : Int32}  {M : kz_M} {c sl : Nat} (hc : c ≤ mc) (hs : sl ≤ ms) (h : (∃ fs12, (M).1 x2 = some (.inl (9, fs12))) ∧ kz_C G (d + 7) 0 0 mX10_size [.ref x2] M (fun v M1 => ∃ r2 : Int32, v = some (.int r2) ∧ ((r2 ≤ x4 → Qr (some (.int x3)) M1) ∧ (¬ r2 ≤ x4 → (∃ fs11, (M1).1 x2 = some (.inl (9, fs11))) ∧ kz_C G (d + 7) 0 0 mX10_widthOf [.ref x2, .int x4] M1 (fun v M4 => ∃ r5 : Int32, v = some (.int r5) ∧ ((∃ fs10, (M4).1 x2 = some (.inl (9, fs10))) ∧ kz_C G (d + 7) 0 0 mX10_widthOf [.ref x2, .int x3] M4 (fun v M7 => ∃ r8 : Int32, v = some (.int r8) ∧ ((r5 ≤ r8 → zX11_widest_11 G d mc ms Qr Qx x2 x3 (x4 + 1) M7 c sl) ∧ (¬ r5 ≤ r8 → zX11_widest_11 G d mc ms Qr Qx x2 x4 (x4 + 1) M7 c sl))) Qx)) Qx))) Qx) : zX11_widest_11 G d mc ms Qr Qx x2 x3 x4  M c sl := by
  show kz_Z G (d + 8) mc ms mX11_widest Qr Qx 11 [(2, .ref x2), (3, .int x3), (4, .int x4)] [] M c sl
  refine kz_iload (pc := 11) 2 (i := 4) rfl dX11_widest_11 ?_
  refine kz_aload_n (pc := 13) 0 (v := .ref x2) (i := 2) rfl rfl rfl dX11_widest_13 ?_
  obtain ⟨⟨fs12, he⟩, h⟩ := h
  refine kz_callV (pc := 14) (μ' := mX10_size) (ci := 9) (q := (RX10, TX10, 4)) (b := x2) (d' := d + 7) (mc' := 0) (ms' := 0) (As := []) (st := [.int x4]) (c := c) (sl := sl) kmX10_size kw_750 (by omega) rfl (Nat.le_of_ble_eq_true rfl) he rfl rfl hc hs dX11_widest_14 (fun E M9 hx => kz_Tout rfl hc hs hx) (kz_Cmono (fun v M1 h => ?_) (fun _ _ h => h) h)
  obtain ⟨r2, rfl, h⟩ := h
  show kz_Z G (d + 8) mc ms mX11_widest Qr Qx 17 [(2, .ref x2), (3, .int x3), (4, .int x4)] [.int r2, .int x4] M1 c sl
  refine kz_icmp_ge (pc := 17) (tgt := 43) (by decide) dX11_widest_17 (fun hb => ?_) (fun hb => ?_)
  · replace h := h.1 hb
    refine kz_iload_n (pc := 43) 1 (i := 3) rfl rfl dX11_widest_43 ?_
    exact kz_iret (pc := 44) rfl hc hs dX11_widest_44 h
  · replace h := h.2 hb
    refine kz_aload_n (pc := 20) 0 (v := .ref x2) (i := 2) rfl rfl rfl dX11_widest_20 ?_
    refine kz_iload (pc := 21) 2 (i := 4) rfl dX11_widest_21 ?_
    obtain ⟨⟨fs11, he⟩, h⟩ := h
    refine kz_callV (pc := 23) (μ' := mX10_widthOf) (ci := 9) (q := (RX10, TX10, 4)) (b := x2) (d' := d + 7) (mc' := 0) (ms' := 0) (As := [.int x4]) (st := []) (c := c) (sl := sl) kmX10_widthOf kw_842 (by omega) rfl (Nat.le_of_ble_eq_true rfl) he rfl rfl hc hs dX11_widest_23 (fun E M9 hx => kz_Tout rfl hc hs hx) (kz_Cmono (fun v M4 h => ?_) (fun _ _ h => h) h)
    obtain ⟨r5, rfl, h⟩ := h
    show kz_Z G (d + 8) mc ms mX11_widest Qr Qx 26 [(2, .ref x2), (3, .int x3), (4, .int x4)] [.int r5] M4 c sl
    refine kz_aload_n (pc := 26) 0 (v := .ref x2) (i := 2) rfl rfl rfl dX11_widest_26 ?_
    refine kz_iload_n (pc := 27) 1 (i := 3) rfl rfl dX11_widest_27 ?_
    obtain ⟨⟨fs10, he⟩, h⟩ := h
    refine kz_callV (pc := 28) (μ' := mX10_widthOf) (ci := 9) (q := (RX10, TX10, 4)) (b := x2) (d' := d + 7) (mc' := 0) (ms' := 0) (As := [.int x3]) (st := [.int r5]) (c := c) (sl := sl) kmX10_widthOf kw_842 (by omega) rfl (Nat.le_of_ble_eq_true rfl) he rfl rfl hc hs dX11_widest_28 (fun E M9 hx => kz_Tout rfl hc hs hx) (kz_Cmono (fun v M7 h => ?_) (fun _ _ h => h) h)
    obtain ⟨r8, rfl, h⟩ := h
    show kz_Z G (d + 8) mc ms mX11_widest Qr Qx 31 [(2, .ref x2), (3, .int x3), (4, .int x4)] [.int r8, .int r5] M7 c sl
    refine kz_icmp_le (pc := 31) (tgt := 37) (by decide) dX11_widest_31 (fun hb => ?_) (fun hb => ?_)
    · replace h := h.1 hb
      refine kz_iinc (pc := 37) 2 (i := 4) (v := x4 + 1) (ls' := [(2, .ref x2), (3, .int x3)]) rfl (congrArg (fun z => x4 + z) (by decide)) (by decide) rfl dX11_widest_37 ?_
      refine kz_goto (pc := 40) (tgt := 11) (by decide) dX11_widest_40 ?_
      refine kz_sub [1, 2, 0] rfl ?_
      exact h
    · replace h := h.2 hb
      refine kz_iload (pc := 34) 2 (i := 4) rfl dX11_widest_34 ?_
      refine kz_istore_n (pc := 36) (i := 3) (ls' := [(2, .ref x2), (4, .int x4)]) rfl (by decide) rfl dX11_widest_36 ?_
      refine kz_iinc (pc := 37) 2 (i := 4) (v := x4 + 1) (ls' := [(3, .int x4), (2, .ref x2)]) rfl (congrArg (fun z => x4 + z) (by decide)) (by decide) rfl dX11_widest_37 ?_
      refine kz_goto (pc := 40) (tgt := 11) (by decide) dX11_widest_40 ?_
      refine kz_sub [2, 1, 0] rfl ?_
      exact h
theorem dX11_copiedFrom_0 : decode cX11_copiedFrom 0 = .ok (.aload_n 0, 1) := by decide +kernel
theorem dX11_copiedFrom_1 : decode cX11_copiedFrom 1 = .ok (.iload_n 1, 1) := by decide +kernel
theorem dX11_copiedFrom_2 : decode cX11_copiedFrom 2 = .ok (.invokevirtual 165, 3) := by decide +kernel
theorem dX11_copiedFrom_5 : decode cX11_copiedFrom 5 = .ok (.astore_n 2, 1) := by decide +kernel
theorem dX11_copiedFrom_6 : decode cX11_copiedFrom 6 = .ok (.iconst 0, 1) := by decide +kernel
theorem dX11_copiedFrom_7 : decode cX11_copiedFrom 7 = .ok (.istore_n 3, 1) := by decide +kernel
theorem dX11_copiedFrom_8 : decode cX11_copiedFrom 8 = .ok (.iconst (-1), 1) := by decide +kernel
theorem dX11_copiedFrom_9 : decode cX11_copiedFrom 9 = .ok (.istore 4, 2) := by decide +kernel
theorem dX11_copiedFrom_11 : decode cX11_copiedFrom 11 = .ok (.iconst 0, 1) := by decide +kernel
theorem dX11_copiedFrom_12 : decode cX11_copiedFrom 12 = .ok (.istore 5, 2) := by decide +kernel
theorem dX11_copiedFrom_14 : decode cX11_copiedFrom 14 = .ok (.iload 5, 2) := by decide +kernel
theorem dX11_copiedFrom_16 : decode cX11_copiedFrom 16 = .ok (.aload_n 0, 1) := by decide +kernel
theorem dX11_copiedFrom_17 : decode cX11_copiedFrom 17 = .ok (.getfield 26, 3) := by decide +kernel
theorem dX11_copiedFrom_20 : decode cX11_copiedFrom 20 = .ok (.getfield 105, 3) := by decide +kernel
theorem dX11_copiedFrom_23 : decode cX11_copiedFrom 23 = .ok (.if_icmp .ge 58, 3) := by decide +kernel
theorem dX11_copiedFrom_26 : decode cX11_copiedFrom 26 = .ok (.aload_n 0, 1) := by decide +kernel
theorem dX11_copiedFrom_27 : decode cX11_copiedFrom 27 = .ok (.getfield 26, 3) := by decide +kernel
theorem dX11_copiedFrom_30 : decode cX11_copiedFrom 30 = .ok (.iload 5, 2) := by decide +kernel
theorem dX11_copiedFrom_32 : decode cX11_copiedFrom 32 = .ok (.invokevirtual 271, 3) := by decide +kernel
theorem dX11_copiedFrom_35 : decode cX11_copiedFrom 35 = .ok (.astore 6, 2) := by decide +kernel
theorem dX11_copiedFrom_37 : decode cX11_copiedFrom 37 = .ok (.aload 6, 2) := by decide +kernel
theorem dX11_copiedFrom_39 : decode cX11_copiedFrom 39 = .ok (.ifnull 36, 3) := by decide +kernel
theorem dX11_copiedFrom_42 : decode cX11_copiedFrom 42 = .ok (.aload 6, 2) := by decide +kernel
theorem dX11_copiedFrom_44 : decode cX11_copiedFrom 44 = .ok (.getfield 169, 3) := by decide +kernel
theorem dX11_copiedFrom_47 : decode cX11_copiedFrom 47 = .ok (.aload_n 2, 1) := by decide +kernel
theorem dX11_copiedFrom_48 : decode cX11_copiedFrom 48 = .ok (.getfield 169, 3) := by decide +kernel
theorem dX11_copiedFrom_51 : decode cX11_copiedFrom 51 = .ok (.if_icmp .eq 24, 3) := by decide +kernel
theorem dX11_copiedFrom_54 : decode cX11_copiedFrom 54 = .ok (.aload_n 2, 1) := by decide +kernel
theorem dX11_copiedFrom_55 : decode cX11_copiedFrom 55 = .ok (.aload 6, 2) := by decide +kernel
theorem dX11_copiedFrom_57 : decode cX11_copiedFrom 57 = .ok (.invokevirtual 274, 3) := by decide +kernel
theorem dX11_copiedFrom_60 : decode cX11_copiedFrom 60 = .ok (.istore 7, 2) := by decide +kernel
theorem dX11_copiedFrom_62 : decode cX11_copiedFrom 62 = .ok (.iload 7, 2) := by decide +kernel
theorem dX11_copiedFrom_64 : decode cX11_copiedFrom 64 = .ok (.iload_n 3, 1) := by decide +kernel
theorem dX11_copiedFrom_65 : decode cX11_copiedFrom 65 = .ok (.if_icmp .le 10, 3) := by decide +kernel
theorem dX11_copiedFrom_68 : decode cX11_copiedFrom 68 = .ok (.iload 7, 2) := by decide +kernel
theorem dX11_copiedFrom_70 : decode cX11_copiedFrom 70 = .ok (.istore_n 3, 1) := by decide +kernel
theorem dX11_copiedFrom_71 : decode cX11_copiedFrom 71 = .ok (.iload 5, 2) := by decide +kernel
theorem dX11_copiedFrom_73 : decode cX11_copiedFrom 73 = .ok (.istore 4, 2) := by decide +kernel
theorem dX11_copiedFrom_75 : decode cX11_copiedFrom 75 = .ok (.iinc 5 1, 3) := by decide +kernel
theorem dX11_copiedFrom_78 : decode cX11_copiedFrom 78 = .ok (.goto (-64), 3) := by decide +kernel
theorem dX11_copiedFrom_81 : decode cX11_copiedFrom 81 = .ok (.iload 4, 2) := by decide +kernel
theorem dX11_copiedFrom_83 : decode cX11_copiedFrom 83 = .ok (.ireturn, 1) := by decide +kernel
def zX11_copiedFrom_14 (G : kz_G) (d mc ms : Nat) (Qr : Option Value → kz_M → Prop) (Qx : String → kz_M → Prop) (x0 : Nat) (x2 : Nat) (x3 : Int32) (x4 : Int32) (x5 : Int32)  (M : kz_M) (c sl : Nat) : Prop := kz_Z G (d + 8) mc ms mX11_copiedFrom Qr Qx 14 [(0, .ref x0), (2, .ref x2), (3, .int x3), (4, .int x4), (5, .int x5)] [] M c sl
theorem rX11_copiedFrom_0 {G : kz_G} {d : Nat} {mc ms : Nat} {Qr : Option Value → kz_M → Prop} {Qx : String → kz_M → Prop} {a0 : Nat} {p1 : Int32}  {M : kz_M} (h : (∃ fs4, (M).1 a0 = some (.inl (10, fs4))) ∧ ∃ mc3 ms3, 0 + mc3 ≤ mc ∧ 0 + ms3 ≤ ms ∧ kz_C G (d + 7) mc3 ms3 mX11_workOrThrow [.ref a0, .int p1] M (fun v M1 => ∃ r2 : Nat, v = some (.ref r2) ∧ (zX11_copiedFrom_14 G d mc ms Qr Qx a0 r2 0 ((-1)) 0 M1 (0 + mc3) (0 + ms3))) Qx) : kz_C G (d + 8) mc ms mX11_copiedFrom [.ref a0, .int p1] M Qr Qx := by
  refine kz_enter (n := 1) kmX11_copiedFrom.1 (Nat.le_of_ble_eq_true rfl) (ls := [(0, .ref a0), (1, .int p1)]) rfl ?_
  refine kz_aload_n (pc := 0) 0 (v := .ref a0) (i := 0) rfl rfl rfl dX11_copiedFrom_0 ?_
  refine kz_iload_n (pc := 1) 1 (i := 1) rfl rfl dX11_copiedFrom_1 ?_
  obtain ⟨⟨fs4, he⟩, h⟩ := h
  obtain ⟨mc3, ms3, hc3, hs3, h⟩ := h
  refine kz_callV (pc := 2) (μ' := mX11_workOrThrow) (ci := 10) (q := (RX11, TX11, 10)) (b := a0) (d' := d + 7) (mc' := mc3) (ms' := ms3) (As := [.int p1]) (st := []) (c := 0) (sl := 0) kmX11_workOrThrow kw_744 (by omega) rfl (Nat.le_of_ble_eq_true rfl) he rfl rfl hc3 hs3 dX11_copiedFrom_2 (fun E M9 hx => kz_Tout rfl hc3 hs3 hx) (kz_Cmono (fun v M1 h => ?_) (fun _ _ h => h) h)
  obtain ⟨r2, rfl, h⟩ := h
  show kz_Z G (d + 8) mc ms mX11_copiedFrom Qr Qx 5 [(0, .ref a0), (1, .int p1)] [.ref r2] M1 (0 + mc3) (0 + ms3)
  refine kz_astore_n (pc := 5) (i := 2) (v := .ref r2) (ls' := [(0, .ref a0), (1, .int p1)]) rfl rfl (by decide) rfl dX11_copiedFrom_5 ?_
  refine kz_iconst (pc := 6) (v := 0) (by decide) dX11_copiedFrom_6 ?_
  refine kz_istore_n (pc := 7) (i := 3) (ls' := [(2, .ref r2), (0, .ref a0), (1, .int p1)]) rfl (by decide) rfl dX11_copiedFrom_7 ?_
  refine kz_iconst (pc := 8) (v := (-1)) (by decide) dX11_copiedFrom_8 ?_
  refine kz_istore (pc := 9) (i := 4) (ls' := [(3, .int 0), (2, .ref r2), (0, .ref a0), (1, .int p1)]) (by decide) rfl dX11_copiedFrom_9 ?_
  refine kz_iconst (pc := 11) (v := 0) (by decide) dX11_copiedFrom_11 ?_
  refine kz_istore (pc := 12) (i := 5) (ls' := [(4, .int ((-1))), (3, .int 0), (2, .ref r2), (0, .ref a0), (1, .int p1)]) (by decide) rfl dX11_copiedFrom_12 ?_
  refine kz_sub [4, 3, 2, 1, 0] rfl ?_
  exact h
theorem rX11_copiedFrom_14 {G : kz_G} {d : Nat} {mc ms : Nat} {Qr : Option Value → kz_M → Prop} {Qx : String → kz_M → Prop} {x0 : Nat} {x2 : Nat} {x3 : Int32} {x4 : Int32} {x5 : Int32}  {M : kz_M} {c sl : Nat} (hc : c ≤ mc) (hs : sl ≤ ms) (h : ∃ fs1 v2, (M).1 x0 = some (.inl (10, fs1)) ∧ fs1[2]? = some (.ref v2) ∧ (∃ fs3 v4, (M).1 v2 = some (.inl (8, fs3)) ∧ fs3[3]? = some (.int v4) ∧ ((v4 ≤ x5 → Qr (some (.int x4)) M) ∧ (¬ v4 ≤ x5 → ∃ fs5 v6, (M).1 x0 = some (.inl (10, fs5)) ∧ fs5[2]? = some (.ref v6) ∧ ((∃ fs19, (M).1 v6 = some (.inl (8, fs19))) ∧ kz_C G (d + 7) 0 0 mX9_workAt [.ref v6, .int x5] M (fun v M7 => ∃ r8 : Option Nat, v = some (kz_rf r8) ∧ ((r8 = none → zX11_copiedFrom_14 G d mc ms Qr Qx x0 x2 x3 x4 (x5 + 1) M7 c sl) ∧ (∀ y10, r8 = some y10 → ∃ fs11 v12, (M7).1 y10 = some (.inl (9, fs11)) ∧ fs11[0]? = some (.int v12) ∧ (∃ fs13 v14, (M7).1 x2 = some (.inl (9, fs13)) ∧ fs13[0]? = some (.int v14) ∧ ((v12 = v14 → zX11_copiedFrom_14 G d mc ms Qr Qx x0 x2 x3 x4 (x5 + 1) M7 c sl) ∧ (¬ v12 = v14 → (∃ fs18, (M7).1 x2 = some (.inl (9, fs18))) ∧ kz_C G (d + 7) 0 0 mX10_linesStandingIn [.ref x2, .ref y10] M7 (fun v M15 => ∃ r16 : Int32, v = some (.int r16) ∧ ((r16 ≤ x3 → zX11_copiedFrom_14 G d mc ms Qr Qx x0 x2 x3 x4 (x5 + 1) M15 c sl) ∧ (¬ r16 ≤ x3 → zX11_copiedFrom_14 G d mc ms Qr Qx x0 x2 r16 x5 (x5 + 1) M15 c sl))) Qx)))))) Qx))))) : zX11_copiedFrom_14 G d mc ms Qr Qx x0 x2 x3 x4 x5  M c sl := by
  show kz_Z G (d + 8) mc ms mX11_copiedFrom Qr Qx 14 [(0, .ref x0), (2, .ref x2), (3, .int x3), (4, .int x4), (5, .int x5)] [] M c sl
  refine kz_iload (pc := 14) 4 (i := 5) rfl dX11_copiedFrom_14 ?_
  refine kz_aload_n (pc := 16) 0 (v := .ref x0) (i := 0) rfl rfl rfl dX11_copiedFrom_16 ?_
  obtain ⟨fs1, v2, hM, hv, h⟩ := h
  refine kz_getf (pc := 17) (k := 2) kcX11 hM hv (by decide) kw_277 dX11_copiedFrom_17 ?_
  obtain ⟨fs3, v4, hM, hv, h⟩ := h
  refine kz_getf (pc := 20) (k := 3) kcX9 hM hv (by decide) kw_109 dX11_copiedFrom_20 ?_
  refine kz_icmp_ge (pc := 23) (tgt := 81) (by decide) dX11_copiedFrom_23 (fun hb => ?_) (fun hb => ?_)
  · replace h := h.1 hb
    refine kz_iload (pc := 81) 3 (i := 4) rfl dX11_copiedFrom_81 ?_
    exact kz_iret (pc := 83) rfl hc hs dX11_copiedFrom_83 h
  · replace h := h.2 hb
    refine kz_aload_n (pc := 26) 0 (v := .ref x0) (i := 0) rfl rfl rfl dX11_copiedFrom_26 ?_
    obtain ⟨fs5, v6, hM, hv, h⟩ := h
    refine kz_getf (pc := 27) (k := 2) kcX11 hM hv (by decide) kw_277 dX11_copiedFrom_27 ?_
    refine kz_iload (pc := 30) 4 (i := 5) rfl dX11_copiedFrom_30 ?_
    obtain ⟨⟨fs19, he⟩, h⟩ := h
    refine kz_callV (pc := 32) (μ' := mX9_workAt) (ci := 8) (q := (RX9, TX9, 10)) (b := v6) (d' := d + 7) (mc' := 0) (ms' := 0) (As := [.int x5]) (st := []) (c := c) (sl := sl) kmX9_workAt kw_748 (by omega) rfl (Nat.le_of_ble_eq_true rfl) he rfl rfl hc hs dX11_copiedFrom_32 (fun E M9 hx => kz_Tout rfl hc hs hx) (kz_Cmono (fun v M7 h => ?_) (fun _ _ h => h) h)
    obtain ⟨r8, rfl, h⟩ := h
    show kz_Z G (d + 8) mc ms mX11_copiedFrom Qr Qx 35 [(0, .ref x0), (2, .ref x2), (3, .int x3), (4, .int x4), (5, .int x5)] [kz_rf r8] M7 c sl
    refine kz_astore (pc := 35) (i := 6) (v := kz_rf r8) (ls' := [(0, .ref x0), (2, .ref x2), (3, .int x3), (4, .int x4), (5, .int x5)]) (kz_isr_rf _) (by decide) rfl dX11_copiedFrom_35 ?_
    refine kz_aload (pc := 37) 0 (v := kz_rf r8) (i := 6) rfl (kz_isr_rf _) dX11_copiedFrom_37 ?_
    rcases r8 with _ | y10
    · replace h := h.1 rfl
      refine kz_ifnull (pc := 39) (tgt := 75) rfl (by decide) dX11_copiedFrom_39 (fun _ => ?_) (fun hn => absurd rfl hn)
      refine kz_iinc (pc := 75) 5 (i := 5) (v := x5 + 1) (ls' := [(6, .null), (0, .ref x0), (2, .ref x2), (3, .int x3), (4, .int x4)]) rfl (congrArg (fun z => x5 + z) (by decide)) (by decide) rfl dX11_copiedFrom_75 ?_
      refine kz_goto (pc := 78) (tgt := 14) (by decide) dX11_copiedFrom_78 ?_
      refine kz_sub [2, 3, 4, 5, 0] rfl ?_
      exact h
    · replace h := h.2 y10 rfl
      refine kz_ifnull (pc := 39) (tgt := 75) rfl (by decide) dX11_copiedFrom_39 (fun hn => by cases hn) (fun _ => ?_)
      refine kz_aload (pc := 42) 0 (v := .ref y10) (i := 6) rfl rfl dX11_copiedFrom_42 ?_
      obtain ⟨fs11, v12, hM, hv, h⟩ := h
      refine kz_getf (pc := 44) (k := 0) kcX10 hM hv (by decide) kw_1070 dX11_copiedFrom_44 ?_
      refine kz_aload_n (pc := 47) 2 (v := .ref x2) (i := 2) rfl rfl rfl dX11_copiedFrom_47 ?_
      obtain ⟨fs13, v14, hM, hv, h⟩ := h
      refine kz_getf (pc := 48) (k := 0) kcX10 hM hv (by decide) kw_1070 dX11_copiedFrom_48 ?_
      refine kz_icmp_eq (pc := 51) (tgt := 75) (by decide) dX11_copiedFrom_51 (fun hb => ?_) (fun hb => ?_)
      · replace h := h.1 hb
        refine kz_iinc (pc := 75) 5 (i := 5) (v := x5 + 1) (ls' := [(6, .ref y10), (0, .ref x0), (2, .ref x2), (3, .int x3), (4, .int x4)]) rfl (congrArg (fun z => x5 + z) (by decide)) (by decide) rfl dX11_copiedFrom_75 ?_
        refine kz_goto (pc := 78) (tgt := 14) (by decide) dX11_copiedFrom_78 ?_
        refine kz_sub [2, 3, 4, 5, 0] rfl ?_
        exact h
      · replace h := h.2 hb
        refine kz_aload_n (pc := 54) 2 (v := .ref x2) (i := 2) rfl rfl rfl dX11_copiedFrom_54 ?_
        refine kz_aload (pc := 55) 0 (v := .ref y10) (i := 6) rfl rfl dX11_copiedFrom_55 ?_
        obtain ⟨⟨fs18, he⟩, h⟩ := h
        refine kz_callV (pc := 57) (μ' := mX10_linesStandingIn) (ci := 9) (q := (RX10, TX10, 4)) (b := x2) (d' := d + 7) (mc' := 0) (ms' := 0) (As := [.ref y10]) (st := []) (c := c) (sl := sl) kmX10_linesStandingIn kw_854 (by omega) rfl (Nat.le_of_ble_eq_true rfl) he rfl rfl hc hs dX11_copiedFrom_57 (fun E M9 hx => kz_Tout rfl hc hs hx) (kz_Cmono (fun v M15 h => ?_) (fun _ _ h => h) h)
        obtain ⟨r16, rfl, h⟩ := h
        show kz_Z G (d + 8) mc ms mX11_copiedFrom Qr Qx 60 [(6, .ref y10), (0, .ref x0), (2, .ref x2), (3, .int x3), (4, .int x4), (5, .int x5)] [.int r16] M15 c sl
        refine kz_istore (pc := 60) (i := 7) (ls' := [(6, .ref y10), (0, .ref x0), (2, .ref x2), (3, .int x3), (4, .int x4), (5, .int x5)]) (by decide) rfl dX11_copiedFrom_60 ?_
        refine kz_iload (pc := 62) 0 (i := 7) rfl dX11_copiedFrom_62 ?_
        refine kz_iload_n (pc := 64) 4 (i := 3) rfl rfl dX11_copiedFrom_64 ?_
        refine kz_icmp_le (pc := 65) (tgt := 75) (by decide) dX11_copiedFrom_65 (fun hb => ?_) (fun hb => ?_)
        · replace h := h.1 hb
          refine kz_iinc (pc := 75) 6 (i := 5) (v := x5 + 1) (ls' := [(7, .int r16), (6, .ref y10), (0, .ref x0), (2, .ref x2), (3, .int x3), (4, .int x4)]) rfl (congrArg (fun z => x5 + z) (by decide)) (by decide) rfl dX11_copiedFrom_75 ?_
          refine kz_goto (pc := 78) (tgt := 14) (by decide) dX11_copiedFrom_78 ?_
          refine kz_sub [3, 4, 5, 6, 0] rfl ?_
          exact h
        · replace h := h.2 hb
          refine kz_iload (pc := 68) 0 (i := 7) rfl dX11_copiedFrom_68 ?_
          refine kz_istore_n (pc := 70) (i := 3) (ls' := [(7, .int r16), (6, .ref y10), (0, .ref x0), (2, .ref x2), (4, .int x4), (5, .int x5)]) rfl (by decide) rfl dX11_copiedFrom_70 ?_
          refine kz_iload (pc := 71) 6 (i := 5) rfl dX11_copiedFrom_71 ?_
          refine kz_istore (pc := 73) (i := 4) (ls' := [(3, .int r16), (7, .int r16), (6, .ref y10), (0, .ref x0), (2, .ref x2), (5, .int x5)]) (by decide) rfl dX11_copiedFrom_73 ?_
          refine kz_iinc (pc := 75) 6 (i := 5) (v := x5 + 1) (ls' := [(4, .int x5), (3, .int r16), (7, .int r16), (6, .ref y10), (0, .ref x0), (2, .ref x2)]) rfl (congrArg (fun z => x5 + z) (by decide)) (by decide) rfl dX11_copiedFrom_75 ?_
          refine kz_goto (pc := 78) (tgt := 14) (by decide) dX11_copiedFrom_78 ?_
          refine kz_sub [5, 6, 2, 1, 0] rfl ?_
          exact h
theorem dX11_entry_0 : decode cX11_entry 0 = .ok (.iload_n 1, 1) := by decide +kernel
theorem dX11_entry_1 : decode cX11_entry 1 = .ok (.ifCond .lt 17, 3) := by decide +kernel
theorem dX11_entry_4 : decode cX11_entry 4 = .ok (.iload_n 1, 1) := by decide +kernel
theorem dX11_entry_5 : decode cX11_entry 5 = .ok (.aload_n 0, 1) := by decide +kernel
theorem dX11_entry_6 : decode cX11_entry 6 = .ok (.getfield 26, 3) := by decide +kernel
theorem dX11_entry_9 : decode cX11_entry 9 = .ok (.getfield 120, 3) := by decide +kernel
theorem dX11_entry_12 : decode cX11_entry 12 = .ok (.getfield 124, 3) := by decide +kernel
theorem dX11_entry_15 : decode cX11_entry 15 = .ok (.if_icmp .lt 14, 3) := by decide +kernel
theorem dX11_entry_18 : decode cX11_entry 18 = .ok (.new 232, 3) := by decide +kernel
theorem dX11_entry_21 : decode cX11_entry 21 = .ok (.dup, 1) := by decide +kernel
theorem dX11_entry_22 : decode cX11_entry 22 = .ok (.ldc_w 278, 3) := by decide +kernel
theorem dX11_entry_25 : decode cX11_entry 25 = .ok (.invokespecial 236, 3) := by decide +kernel
theorem dX11_entry_28 : decode cX11_entry 28 = .ok (.athrow, 1) := by decide +kernel
theorem dX11_entry_29 : decode cX11_entry 29 = .ok (.iload_n 2, 1) := by decide +kernel
theorem dX11_entry_30 : decode cX11_entry 30 = .ok (.ifCond .lt 8, 3) := by decide +kernel
theorem dX11_entry_33 : decode cX11_entry 33 = .ok (.iload_n 2, 1) := by decide +kernel
theorem dX11_entry_34 : decode cX11_entry 34 = .ok (.iconst 4, 1) := by decide +kernel
theorem dX11_entry_35 : decode cX11_entry 35 = .ok (.if_icmp .lt 14, 3) := by decide +kernel
theorem dX11_entry_38 : decode cX11_entry 38 = .ok (.new 134, 3) := by decide +kernel
theorem dX11_entry_41 : decode cX11_entry 41 = .ok (.dup, 1) := by decide +kernel
theorem dX11_entry_42 : decode cX11_entry 42 = .ok (.ldc_w 280, 3) := by decide +kernel
theorem dX11_entry_45 : decode cX11_entry 45 = .ok (.invokespecial 138, 3) := by decide +kernel
theorem dX11_entry_48 : decode cX11_entry 48 = .ok (.athrow, 1) := by decide +kernel
theorem dX11_entry_49 : decode cX11_entry 49 = .ok (.aload_n 0, 1) := by decide +kernel
theorem dX11_entry_50 : decode cX11_entry 50 = .ok (.getfield 26, 3) := by decide +kernel
theorem dX11_entry_53 : decode cX11_entry 53 = .ok (.getfield 120, 3) := by decide +kernel
theorem dX11_entry_56 : decode cX11_entry 56 = .ok (.iload_n 1, 1) := by decide +kernel
theorem dX11_entry_57 : decode cX11_entry 57 = .ok (.iload_n 2, 1) := by decide +kernel
theorem dX11_entry_58 : decode cX11_entry 58 = .ok (.invokevirtual 282, 3) := by decide +kernel
theorem dX11_entry_61 : decode cX11_entry 61 = .ok (.ireturn, 1) := by decide +kernel
theorem rX11_entry_0 {G : kz_G} {d : Nat} {mc ms : Nat} {Qr : Option Value → kz_M → Prop} {Qx : String → kz_M → Prop} {a0 : Nat} {p1 : Int32} {p2 : Int32}  {M : kz_M} (hG : kz_stat G) (h : (p1 < 0 → 0 + 1 ≤ mc ∧ 0 + 6 ≤ ms ∧ ∀ g1, Qx "java/lang/IndexOutOfBoundsException" ((M).1, (M).2 + g1)) ∧ (¬ p1 < 0 → ∃ fs2 v3, (M).1 a0 = some (.inl (10, fs2)) ∧ fs2[2]? = some (.ref v3) ∧ (∃ fs4 v5, (M).1 v3 = some (.inl (8, fs4)) ∧ fs4[9]? = some (.ref v5) ∧ (∃ fs6 v7, (M).1 v5 = some (.inl (2, fs6)) ∧ fs6[1]? = some (.int v7) ∧ ((p1 < v7 → (p2 < 0 → 0 + 1 ≤ mc ∧ 0 + 6 ≤ ms ∧ ∀ g8, Qx "java/lang/IllegalArgumentException" ((M).1, (M).2 + g8)) ∧ (¬ p2 < 0 → (p2 < (4 : Int32) → ∃ fs9 v10, (M).1 a0 = some (.inl (10, fs9)) ∧ fs9[2]? = some (.ref v10) ∧ (∃ fs11 v12, (M).1 v10 = some (.inl (8, fs11)) ∧ fs11[9]? = some (.ref v12) ∧ ((∃ fs16, (M).1 v12 = some (.inl (2, fs16))) ∧ kz_C G (d + 6) 0 0 mX2_partOf [.ref v12, .int p1, .int p2] M (fun v M13 => ∃ r14 : Int32, v = some (.int r14) ∧ (Qr (some (.int r14)) M13)) Qx))) ∧ (¬ p2 < (4 : Int32) → 0 + 1 ≤ mc ∧ 0 + 6 ≤ ms ∧ ∀ g17, Qx "java/lang/IllegalArgumentException" ((M).1, (M).2 + g17)))) ∧ (¬ p1 < v7 → 0 + 1 ≤ mc ∧ 0 + 6 ≤ ms ∧ ∀ g18, Qx "java/lang/IndexOutOfBoundsException" ((M).1, (M).2 + g18))))))) : kz_C G (d + 7) mc ms mX11_entry [.ref a0, .int p1, .int p2] M Qr Qx := by
  refine kz_enter (n := 2) kmX11_entry.1 (Nat.le_of_ble_eq_true rfl) (ls := [(0, .ref a0), (1, .int p1), (2, .int p2)]) rfl ?_
  refine kz_iload_n (pc := 0) 1 (i := 1) rfl rfl dX11_entry_0 ?_
  refine kz_if_lt (pc := 1) (tgt := 18) (by decide) dX11_entry_1 (fun hb => ?_) (fun hb => ?_)
  · replace h := h.1 hb
    exact kz_throwSW (pc := 18) (ik := 232) (is := 278) (ic := 236) (j := 1006) (text := "no such entry") hG.1 hG.2.1 hG.2.2.1 (by decide +kernel) kz_xn kw_649 kw_20 (List.mem_of_getElem? (i := 6) rfl) kz_xw_IndexOutOfBoundsException kz_xg_IndexOutOfBoundsException rfl (by show 2 + 3 < _; omega) (by decide) (Nat.le_of_ble_eq_true rfl) h.1 h.2.1 dX11_entry_18 dX11_entry_21 dX11_entry_22 dX11_entry_25 dX11_entry_28 h.2.2
  · replace h := h.2 hb
    refine kz_iload_n (pc := 4) 1 (i := 1) rfl rfl dX11_entry_4 ?_
    refine kz_aload_n (pc := 5) 0 (v := .ref a0) (i := 0) rfl rfl rfl dX11_entry_5 ?_
    obtain ⟨fs2, v3, hM, hv, h⟩ := h
    refine kz_getf (pc := 6) (k := 2) kcX11 hM hv (by decide) kw_277 dX11_entry_6 ?_
    obtain ⟨fs4, v5, hM, hv, h⟩ := h
    refine kz_getf (pc := 9) (k := 9) kcX9 hM hv (by decide) kw_118 dX11_entry_9 ?_
    obtain ⟨fs6, v7, hM, hv, h⟩ := h
    refine kz_getf (pc := 12) (k := 1) kcX2 hM hv (by decide) kw_85 dX11_entry_12 ?_
    refine kz_icmp_lt (pc := 15) (tgt := 29) (by decide) dX11_entry_15 (fun hb => ?_) (fun hb => ?_)
    · replace h := h.1 hb
      refine kz_iload_n (pc := 29) 2 (i := 2) rfl rfl dX11_entry_29 ?_
      refine kz_if_lt (pc := 30) (tgt := 38) (by decide) dX11_entry_30 (fun hb => ?_) (fun hb => ?_)
      · replace h := h.1 hb
        exact kz_throwSW (pc := 38) (ik := 134) (is := 280) (ic := 138) (j := 1007) (text := "no such part of an entry") hG.1 hG.2.1 hG.2.2.1 (by decide +kernel) kz_xn kw_549 kw_19 (List.mem_of_getElem? (i := 7) rfl) kz_xw_IllegalArgumentException kz_xg_IllegalArgumentException rfl (by show 2 + 3 < _; omega) (by decide) (Nat.le_of_ble_eq_true rfl) h.1 h.2.1 dX11_entry_38 dX11_entry_41 dX11_entry_42 dX11_entry_45 dX11_entry_48 h.2.2
      · replace h := h.2 hb
        refine kz_iload_n (pc := 33) 2 (i := 2) rfl rfl dX11_entry_33 ?_
        refine kz_iconst (pc := 34) (v := 4) (by decide) dX11_entry_34 ?_
        refine kz_icmp_lt (pc := 35) (tgt := 49) (by decide) dX11_entry_35 (fun hb => ?_) (fun hb => ?_)
        · replace h := h.1 hb
          refine kz_aload_n (pc := 49) 0 (v := .ref a0) (i := 0) rfl rfl rfl dX11_entry_49 ?_
          obtain ⟨fs9, v10, hM, hv, h⟩ := h
          refine kz_getf (pc := 50) (k := 2) kcX11 hM hv (by decide) kw_277 dX11_entry_50 ?_
          obtain ⟨fs11, v12, hM, hv, h⟩ := h
          refine kz_getf (pc := 53) (k := 9) kcX9 hM hv (by decide) kw_118 dX11_entry_53 ?_
          refine kz_iload_n (pc := 56) 1 (i := 1) rfl rfl dX11_entry_56 ?_
          refine kz_iload_n (pc := 57) 2 (i := 2) rfl rfl dX11_entry_57 ?_
          obtain ⟨⟨fs16, he⟩, h⟩ := h
          refine kz_callV (pc := 58) (μ' := mX2_partOf) (ci := 2) (q := (RX2, TX2, 2)) (b := v12) (d' := d + 6) (mc' := 0) (ms' := 0) (As := [.int p1, .int p2]) (st := []) (c := 0) (sl := 0) kmX2_partOf kw_868 (by omega) rfl (Nat.le_of_ble_eq_true rfl) he rfl rfl (Nat.zero_le _) (Nat.zero_le _) dX11_entry_58 (fun E M9 hx => kz_Tout rfl (Nat.zero_le _) (Nat.zero_le _) hx) (kz_Cmono (fun v M13 h => ?_) (fun _ _ h => h) h)
          obtain ⟨r14, rfl, h⟩ := h
          show kz_Z G (d + 7) mc ms mX11_entry Qr Qx 61 [(0, .ref a0), (1, .int p1), (2, .int p2)] [.int r14] M13 0 0
          exact kz_iret (pc := 61) rfl (Nat.zero_le _) (Nat.zero_le _) dX11_entry_61 h
        · replace h := h.2 hb
          exact kz_throwSW (pc := 38) (ik := 134) (is := 280) (ic := 138) (j := 1007) (text := "no such part of an entry") hG.1 hG.2.1 hG.2.2.1 (by decide +kernel) kz_xn kw_549 kw_19 (List.mem_of_getElem? (i := 7) rfl) kz_xw_IllegalArgumentException kz_xg_IllegalArgumentException rfl (by show 2 + 3 < _; omega) (by decide) (Nat.le_of_ble_eq_true rfl) h.1 h.2.1 dX11_entry_38 dX11_entry_41 dX11_entry_42 dX11_entry_45 dX11_entry_48 h.2.2
    · replace h := h.2 hb
      exact kz_throwSW (pc := 18) (ik := 232) (is := 278) (ic := 236) (j := 1006) (text := "no such entry") hG.1 hG.2.1 hG.2.2.1 (by decide +kernel) kz_xn kw_649 kw_20 (List.mem_of_getElem? (i := 6) rfl) kz_xw_IndexOutOfBoundsException kz_xg_IndexOutOfBoundsException rfl (by show 2 + 3 < _; omega) (by decide) (Nat.le_of_ble_eq_true rfl) h.1 h.2.1 dX11_entry_18 dX11_entry_21 dX11_entry_22 dX11_entry_25 dX11_entry_28 h.2.2
theorem dX11_booked_0 : decode cX11_booked 0 = .ok (.aload_n 0, 1) := by decide +kernel
theorem dX11_booked_1 : decode cX11_booked 1 = .ok (.iload_n 1, 1) := by decide +kernel
theorem dX11_booked_2 : decode cX11_booked 2 = .ok (.invokevirtual 148, 3) := by decide +kernel
theorem dX11_booked_5 : decode cX11_booked 5 = .ok (.aload_n 0, 1) := by decide +kernel
theorem dX11_booked_6 : decode cX11_booked 6 = .ok (.getfield 26, 3) := by decide +kernel
theorem dX11_booked_9 : decode cX11_booked 9 = .ok (.getfield 120, 3) := by decide +kernel
theorem dX11_booked_12 : decode cX11_booked 12 = .ok (.iload_n 1, 1) := by decide +kernel
theorem dX11_booked_13 : decode cX11_booked 13 = .ok (.iload_n 2, 1) := by decide +kernel
theorem dX11_booked_14 : decode cX11_booked 14 = .ok (.iload_n 3, 1) := by decide +kernel
theorem dX11_booked_15 : decode cX11_booked 15 = .ok (.invokevirtual 285, 3) := by decide +kernel
theorem dX11_booked_18 : decode cX11_booked 18 = .ok (.ireturn, 1) := by decide +kernel
theorem rX11_booked_0 {G : kz_G} {d : Nat} {mc ms : Nat} {Qr : Option Value → kz_M → Prop} {Qx : String → kz_M → Prop} {a0 : Nat} {p1 : Int32} {p2 : Int32} {p3 : Int32}  {M : kz_M} (h : (∃ fs12, (M).1 a0 = some (.inl (10, fs12))) ∧ ∃ mc3 ms3, 0 + mc3 ≤ mc ∧ 0 + ms3 ≤ ms ∧ kz_C G (d + 7) mc3 ms3 mX11_checkWriter [.ref a0, .int p1] M (fun v M1 => v = none ∧ (∃ fs4 v5, (M1).1 a0 = some (.inl (10, fs4)) ∧ fs4[2]? = some (.ref v5) ∧ (∃ fs6 v7, (M1).1 v5 = some (.inl (8, fs6)) ∧ fs6[9]? = some (.ref v7) ∧ ((∃ fs11, (M1).1 v7 = some (.inl (2, fs11))) ∧ kz_C G (d + 7) 0 0 mX2_sumOf [.ref v7, .int p1, .int p2, .int p3] M1 (fun v M8 => ∃ r9 : Int32, v = some (.int r9) ∧ (Qr (some (.int r9)) M8)) Qx)))) Qx) : kz_C G (d + 8) mc ms mX11_booked [.ref a0, .int p1, .int p2, .int p3] M Qr Qx := by
  refine kz_enter (n := 3) kmX11_booked.1 (Nat.le_of_ble_eq_true rfl) (ls := [(0, .ref a0), (1, .int p1), (2, .int p2), (3, .int p3)]) rfl ?_
  refine kz_aload_n (pc := 0) 0 (v := .ref a0) (i := 0) rfl rfl rfl dX11_booked_0 ?_
  refine kz_iload_n (pc := 1) 1 (i := 1) rfl rfl dX11_booked_1 ?_
  obtain ⟨⟨fs12, he⟩, h⟩ := h
  obtain ⟨mc3, ms3, hc3, hs3, h⟩ := h
  refine kz_callV (pc := 2) (μ' := mX11_checkWriter) (ci := 10) (q := (RX11, TX11, 10)) (b := a0) (d' := d + 7) (mc' := mc3) (ms' := ms3) (As := [.int p1]) (st := []) (c := 0) (sl := 0) kmX11_checkWriter kw_641 (by omega) rfl (Nat.le_of_ble_eq_true rfl) he rfl rfl hc3 hs3 dX11_booked_2 (fun E M9 hx => kz_Tout rfl hc3 hs3 hx) (kz_Cmono (fun v M1 h => ?_) (fun _ _ h => h) h)
  obtain ⟨rfl, h⟩ := h
  show kz_Z G (d + 8) mc ms mX11_booked Qr Qx 5 [(0, .ref a0), (1, .int p1), (2, .int p2), (3, .int p3)] [] M1 (0 + mc3) (0 + ms3)
  refine kz_aload_n (pc := 5) 0 (v := .ref a0) (i := 0) rfl rfl rfl dX11_booked_5 ?_
  obtain ⟨fs4, v5, hM, hv, h⟩ := h
  refine kz_getf (pc := 6) (k := 2) kcX11 hM hv (by decide) kw_277 dX11_booked_6 ?_
  obtain ⟨fs6, v7, hM, hv, h⟩ := h
  refine kz_getf (pc := 9) (k := 9) kcX9 hM hv (by decide) kw_118 dX11_booked_9 ?_
  refine kz_iload_n (pc := 12) 1 (i := 1) rfl rfl dX11_booked_12 ?_
  refine kz_iload_n (pc := 13) 2 (i := 2) rfl rfl dX11_booked_13 ?_
  refine kz_iload_n (pc := 14) 3 (i := 3) rfl rfl dX11_booked_14 ?_
  obtain ⟨⟨fs11, he⟩, h⟩ := h
  refine kz_callV (pc := 15) (μ' := mX2_sumOf) (ci := 2) (q := (RX2, TX2, 2)) (b := v7) (d' := d + 7) (mc' := 0) (ms' := 0) (As := [.int p1, .int p2, .int p3]) (st := []) (c := 0 + mc3) (sl := 0 + ms3) kmX2_sumOf kw_880 (by omega) rfl (Nat.le_of_ble_eq_true rfl) he rfl rfl hc3 hs3 dX11_booked_15 (fun E M9 hx => kz_Tout rfl hc3 hs3 hx) (kz_Cmono (fun v M8 h => ?_) (fun _ _ h => h) h)
  obtain ⟨r9, rfl, h⟩ := h
  show kz_Z G (d + 8) mc ms mX11_booked Qr Qx 18 [(0, .ref a0), (1, .int p1), (2, .int p2), (3, .int p3)] [.int r9] M8 (0 + mc3) (0 + ms3)
  exact kz_iret (pc := 18) rfl hc3 hs3 dX11_booked_18 h
theorem dX11_richest_0 : decode cX11_richest 0 = .ok (.iconst 0, 1) := by decide +kernel
theorem dX11_richest_1 : decode cX11_richest 1 = .ok (.istore_n 1, 1) := by decide +kernel
theorem dX11_richest_2 : decode cX11_richest 2 = .ok (.iconst 1, 1) := by decide +kernel
theorem dX11_richest_3 : decode cX11_richest 3 = .ok (.istore_n 2, 1) := by decide +kernel
theorem dX11_richest_4 : decode cX11_richest 4 = .ok (.iload_n 2, 1) := by decide +kernel
theorem dX11_richest_5 : decode cX11_richest 5 = .ok (.aload_n 0, 1) := by decide +kernel
theorem dX11_richest_6 : decode cX11_richest 6 = .ok (.getfield 26, 3) := by decide +kernel
theorem dX11_richest_9 : decode cX11_richest 9 = .ok (.getfield 102, 3) := by decide +kernel
theorem dX11_richest_12 : decode cX11_richest 12 = .ok (.if_icmp .ge 30, 3) := by decide +kernel
theorem dX11_richest_15 : decode cX11_richest 15 = .ok (.aload_n 0, 1) := by decide +kernel
theorem dX11_richest_16 : decode cX11_richest 16 = .ok (.getfield 26, 3) := by decide +kernel
theorem dX11_richest_19 : decode cX11_richest 19 = .ok (.iload_n 2, 1) := by decide +kernel
theorem dX11_richest_20 : decode cX11_richest 20 = .ok (.invokevirtual 151, 3) := by decide +kernel
theorem dX11_richest_23 : decode cX11_richest 23 = .ok (.aload_n 0, 1) := by decide +kernel
theorem dX11_richest_24 : decode cX11_richest 24 = .ok (.getfield 26, 3) := by decide +kernel
theorem dX11_richest_27 : decode cX11_richest 27 = .ok (.iload_n 1, 1) := by decide +kernel
theorem dX11_richest_28 : decode cX11_richest 28 = .ok (.invokevirtual 151, 3) := by decide +kernel
theorem dX11_richest_31 : decode cX11_richest 31 = .ok (.if_icmp .le 5, 3) := by decide +kernel
theorem dX11_richest_34 : decode cX11_richest 34 = .ok (.iload_n 2, 1) := by decide +kernel
theorem dX11_richest_35 : decode cX11_richest 35 = .ok (.istore_n 1, 1) := by decide +kernel
theorem dX11_richest_36 : decode cX11_richest 36 = .ok (.iinc 2 1, 3) := by decide +kernel
theorem dX11_richest_39 : decode cX11_richest 39 = .ok (.goto (-35), 3) := by decide +kernel
theorem dX11_richest_42 : decode cX11_richest 42 = .ok (.iload_n 1, 1) := by decide +kernel
theorem dX11_richest_43 : decode cX11_richest 43 = .ok (.ireturn, 1) := by decide +kernel
def zX11_richest_4 (G : kz_G) (d : Nat) (Qr : Option Value → kz_M → Prop) (Qx : String → kz_M → Prop) (x0 : Nat) (x1 : Int32) (x2 : Int32)  (M : kz_M) : Prop := kz_Z G (d + 2) 0 0 mX11_richest Qr Qx 4 [(0, .ref x0), (1, .int x1), (2, .int x2)] [] M 0 0
theorem rX11_richest_0 {G : kz_G} {d : Nat} {Qr : Option Value → kz_M → Prop} {Qx : String → kz_M → Prop} {a0 : Nat}  {M : kz_M} (h : zX11_richest_4 G d Qr Qx a0 0 1 M) : kz_C G (d + 2) 0 0 mX11_richest [.ref a0] M Qr Qx := by
  refine kz_enter (n := 0) kmX11_richest.1 (Nat.le_of_ble_eq_true rfl) (ls := [(0, .ref a0)]) rfl ?_
  refine kz_iconst (pc := 0) (v := 0) (by decide) dX11_richest_0 ?_
  refine kz_istore_n (pc := 1) (i := 1) (ls' := [(0, .ref a0)]) rfl (by decide) rfl dX11_richest_1 ?_
  refine kz_iconst (pc := 2) (v := 1) (by decide) dX11_richest_2 ?_
  refine kz_istore_n (pc := 3) (i := 2) (ls' := [(1, .int 0), (0, .ref a0)]) rfl (by decide) rfl dX11_richest_3 ?_
  refine kz_sub [2, 1, 0] rfl ?_
  exact h
theorem rX11_richest_4 {G : kz_G} {d : Nat} {Qr : Option Value → kz_M → Prop} {Qx : String → kz_M → Prop} {x0 : Nat} {x1 : Int32} {x2 : Int32}  {M : kz_M} (h : ∃ fs1 v2, (M).1 x0 = some (.inl (10, fs1)) ∧ fs1[2]? = some (.ref v2) ∧ (∃ fs3 v4, (M).1 v2 = some (.inl (8, fs3)) ∧ fs3[2]? = some (.int v4) ∧ ((v4 ≤ x2 → Qr (some (.int x1)) M) ∧ (¬ v4 ≤ x2 → ∃ fs5 v6, (M).1 x0 = some (.inl (10, fs5)) ∧ fs5[2]? = some (.ref v6) ∧ ((∃ fs16, (M).1 v6 = some (.inl (8, fs16))) ∧ kz_C G (d + 1) 0 0 mX9_balanceOf [.ref v6, .int x2] M (fun v M7 => ∃ r8 : Int32, v = some (.int r8) ∧ (∃ fs10 v11, (M7).1 x0 = some (.inl (10, fs10)) ∧ fs10[2]? = some (.ref v11) ∧ ((∃ fs15, (M7).1 v11 = some (.inl (8, fs15))) ∧ kz_C G (d + 1) 0 0 mX9_balanceOf [.ref v11, .int x1] M7 (fun v M12 => ∃ r13 : Int32, v = some (.int r13) ∧ ((r8 ≤ r13 → zX11_richest_4 G d Qr Qx x0 x1 (x2 + 1) M12) ∧ (¬ r8 ≤ r13 → zX11_richest_4 G d Qr Qx x0 x2 (x2 + 1) M12))) Qx))) Qx))))) : zX11_richest_4 G d Qr Qx x0 x1 x2  M := by
  show kz_Z G (d + 2) 0 0 mX11_richest Qr Qx 4 [(0, .ref x0), (1, .int x1), (2, .int x2)] [] M 0 0
  refine kz_iload_n (pc := 4) 2 (i := 2) rfl rfl dX11_richest_4 ?_
  refine kz_aload_n (pc := 5) 0 (v := .ref x0) (i := 0) rfl rfl rfl dX11_richest_5 ?_
  obtain ⟨fs1, v2, hM, hv, h⟩ := h
  refine kz_getf (pc := 6) (k := 2) kcX11 hM hv (by decide) kw_277 dX11_richest_6 ?_
  obtain ⟨fs3, v4, hM, hv, h⟩ := h
  refine kz_getf (pc := 9) (k := 2) kcX9 hM hv (by decide) kw_107 dX11_richest_9 ?_
  refine kz_icmp_ge (pc := 12) (tgt := 42) (by decide) dX11_richest_12 (fun hb => ?_) (fun hb => ?_)
  · replace h := h.1 hb
    refine kz_iload_n (pc := 42) 1 (i := 1) rfl rfl dX11_richest_42 ?_
    exact kz_iret (pc := 43) rfl (Nat.le_refl _) (Nat.le_refl _) dX11_richest_43 h
  · replace h := h.2 hb
    refine kz_aload_n (pc := 15) 0 (v := .ref x0) (i := 0) rfl rfl rfl dX11_richest_15 ?_
    obtain ⟨fs5, v6, hM, hv, h⟩ := h
    refine kz_getf (pc := 16) (k := 2) kcX11 hM hv (by decide) kw_277 dX11_richest_16 ?_
    refine kz_iload_n (pc := 19) 2 (i := 2) rfl rfl dX11_richest_19 ?_
    obtain ⟨⟨fs16, he⟩, h⟩ := h
    refine kz_callV (pc := 20) (μ' := mX9_balanceOf) (ci := 8) (q := (RX9, TX9, 10)) (b := v6) (d' := d + 1) (mc' := 0) (ms' := 0) (As := [.int x2]) (st := []) (c := 0) (sl := 0) kmX9_balanceOf kw_444 (by omega) rfl (Nat.le_of_ble_eq_true rfl) he rfl rfl (Nat.le_refl _) (Nat.le_refl _) dX11_richest_20 (fun E M9 hx => kz_Tout rfl (Nat.le_refl _) (Nat.le_refl _) hx) (kz_Cmono (fun v M7 h => ?_) (fun _ _ h => h) h)
    obtain ⟨r8, rfl, h⟩ := h
    show kz_Z G (d + 2) 0 0 mX11_richest Qr Qx 23 [(0, .ref x0), (1, .int x1), (2, .int x2)] [.int r8] M7 0 0
    refine kz_aload_n (pc := 23) 0 (v := .ref x0) (i := 0) rfl rfl rfl dX11_richest_23 ?_
    obtain ⟨fs10, v11, hM, hv, h⟩ := h
    refine kz_getf (pc := 24) (k := 2) kcX11 hM hv (by decide) kw_277 dX11_richest_24 ?_
    refine kz_iload_n (pc := 27) 1 (i := 1) rfl rfl dX11_richest_27 ?_
    obtain ⟨⟨fs15, he⟩, h⟩ := h
    refine kz_callV (pc := 28) (μ' := mX9_balanceOf) (ci := 8) (q := (RX9, TX9, 10)) (b := v11) (d' := d + 1) (mc' := 0) (ms' := 0) (As := [.int x1]) (st := [.int r8]) (c := 0) (sl := 0) kmX9_balanceOf kw_444 (by omega) rfl (Nat.le_of_ble_eq_true rfl) he rfl rfl (Nat.le_refl _) (Nat.le_refl _) dX11_richest_28 (fun E M9 hx => kz_Tout rfl (Nat.le_refl _) (Nat.le_refl _) hx) (kz_Cmono (fun v M12 h => ?_) (fun _ _ h => h) h)
    obtain ⟨r13, rfl, h⟩ := h
    show kz_Z G (d + 2) 0 0 mX11_richest Qr Qx 31 [(0, .ref x0), (1, .int x1), (2, .int x2)] [.int r13, .int r8] M12 0 0
    refine kz_icmp_le (pc := 31) (tgt := 36) (by decide) dX11_richest_31 (fun hb => ?_) (fun hb => ?_)
    · replace h := h.1 hb
      refine kz_iinc (pc := 36) 2 (i := 2) (v := x2 + 1) (ls' := [(0, .ref x0), (1, .int x1)]) rfl (congrArg (fun z => x2 + z) (by decide)) (by decide) rfl dX11_richest_36 ?_
      refine kz_goto (pc := 39) (tgt := 4) (by decide) dX11_richest_39 ?_
      refine kz_sub [1, 2, 0] rfl ?_
      exact h
    · replace h := h.2 hb
      refine kz_iload_n (pc := 34) 2 (i := 2) rfl rfl dX11_richest_34 ?_
      refine kz_istore_n (pc := 35) (i := 1) (ls' := [(0, .ref x0), (2, .int x2)]) rfl (by decide) rfl dX11_richest_35 ?_
      refine kz_iinc (pc := 36) 2 (i := 2) (v := x2 + 1) (ls' := [(1, .int x2), (0, .ref x0)]) rfl (congrArg (fun z => x2 + z) (by decide)) (by decide) rfl dX11_richest_36 ?_
      refine kz_goto (pc := 39) (tgt := 4) (by decide) dX11_richest_39 ?_
      refine kz_sub [2, 1, 0] rfl ?_
      exact h
theorem dX11_rank_0 : decode cX11_rank 0 = .ok (.aload_n 0, 1) := by decide +kernel
theorem dX11_rank_1 : decode cX11_rank 1 = .ok (.iload_n 1, 1) := by decide +kernel
theorem dX11_rank_2 : decode cX11_rank 2 = .ok (.invokevirtual 148, 3) := by decide +kernel
theorem dX11_rank_5 : decode cX11_rank 5 = .ok (.iconst 0, 1) := by decide +kernel
theorem dX11_rank_6 : decode cX11_rank 6 = .ok (.istore_n 2, 1) := by decide +kernel
theorem dX11_rank_7 : decode cX11_rank 7 = .ok (.iconst 0, 1) := by decide +kernel
theorem dX11_rank_8 : decode cX11_rank 8 = .ok (.istore_n 3, 1) := by decide +kernel
theorem dX11_rank_9 : decode cX11_rank 9 = .ok (.iload_n 3, 1) := by decide +kernel
theorem dX11_rank_10 : decode cX11_rank 10 = .ok (.aload_n 0, 1) := by decide +kernel
theorem dX11_rank_11 : decode cX11_rank 11 = .ok (.getfield 26, 3) := by decide +kernel
theorem dX11_rank_14 : decode cX11_rank 14 = .ok (.getfield 102, 3) := by decide +kernel
theorem dX11_rank_17 : decode cX11_rank 17 = .ok (.if_icmp .ge 79, 3) := by decide +kernel
theorem dX11_rank_20 : decode cX11_rank 20 = .ok (.aload_n 0, 1) := by decide +kernel
theorem dX11_rank_21 : decode cX11_rank 21 = .ok (.getfield 26, 3) := by decide +kernel
theorem dX11_rank_24 : decode cX11_rank 24 = .ok (.iload_n 3, 1) := by decide +kernel
theorem dX11_rank_25 : decode cX11_rank 25 = .ok (.invokevirtual 151, 3) := by decide +kernel
theorem dX11_rank_28 : decode cX11_rank 28 = .ok (.aload_n 0, 1) := by decide +kernel
theorem dX11_rank_29 : decode cX11_rank 29 = .ok (.getfield 26, 3) := by decide +kernel
theorem dX11_rank_32 : decode cX11_rank 32 = .ok (.iload_n 1, 1) := by decide +kernel
theorem dX11_rank_33 : decode cX11_rank 33 = .ok (.invokevirtual 151, 3) := by decide +kernel
theorem dX11_rank_36 : decode cX11_rank 36 = .ok (.if_icmp .le 7, 3) := by decide +kernel
theorem dX11_rank_39 : decode cX11_rank 39 = .ok (.iconst 1, 1) := by decide +kernel
theorem dX11_rank_40 : decode cX11_rank 40 = .ok (.goto 4, 3) := by decide +kernel
theorem dX11_rank_43 : decode cX11_rank 43 = .ok (.iconst 0, 1) := by decide +kernel
theorem dX11_rank_44 : decode cX11_rank 44 = .ok (.istore 4, 2) := by decide +kernel
theorem dX11_rank_46 : decode cX11_rank 46 = .ok (.aload_n 0, 1) := by decide +kernel
theorem dX11_rank_47 : decode cX11_rank 47 = .ok (.getfield 26, 3) := by decide +kernel
theorem dX11_rank_50 : decode cX11_rank 50 = .ok (.iload_n 3, 1) := by decide +kernel
theorem dX11_rank_51 : decode cX11_rank 51 = .ok (.invokevirtual 151, 3) := by decide +kernel
theorem dX11_rank_54 : decode cX11_rank 54 = .ok (.aload_n 0, 1) := by decide +kernel
theorem dX11_rank_55 : decode cX11_rank 55 = .ok (.getfield 26, 3) := by decide +kernel
theorem dX11_rank_58 : decode cX11_rank 58 = .ok (.iload_n 1, 1) := by decide +kernel
theorem dX11_rank_59 : decode cX11_rank 59 = .ok (.invokevirtual 151, 3) := by decide +kernel
theorem dX11_rank_62 : decode cX11_rank 62 = .ok (.if_icmp .ne 12, 3) := by decide +kernel
theorem dX11_rank_65 : decode cX11_rank 65 = .ok (.iload_n 3, 1) := by decide +kernel
theorem dX11_rank_66 : decode cX11_rank 66 = .ok (.iload_n 1, 1) := by decide +kernel
theorem dX11_rank_67 : decode cX11_rank 67 = .ok (.if_icmp .ge 7, 3) := by decide +kernel
theorem dX11_rank_70 : decode cX11_rank 70 = .ok (.iconst 1, 1) := by decide +kernel
theorem dX11_rank_71 : decode cX11_rank 71 = .ok (.goto 4, 3) := by decide +kernel
theorem dX11_rank_74 : decode cX11_rank 74 = .ok (.iconst 0, 1) := by decide +kernel
theorem dX11_rank_75 : decode cX11_rank 75 = .ok (.istore 5, 2) := by decide +kernel
theorem dX11_rank_77 : decode cX11_rank 77 = .ok (.iload 4, 2) := by decide +kernel
theorem dX11_rank_79 : decode cX11_rank 79 = .ok (.ifCond .ne 8, 3) := by decide +kernel
theorem dX11_rank_82 : decode cX11_rank 82 = .ok (.iload 5, 2) := by decide +kernel
theorem dX11_rank_84 : decode cX11_rank 84 = .ok (.ifCond .eq 6, 3) := by decide +kernel
theorem dX11_rank_87 : decode cX11_rank 87 = .ok (.iinc 2 1, 3) := by decide +kernel
theorem dX11_rank_90 : decode cX11_rank 90 = .ok (.iinc 3 1, 3) := by decide +kernel
theorem dX11_rank_93 : decode cX11_rank 93 = .ok (.goto (-84), 3) := by decide +kernel
theorem dX11_rank_96 : decode cX11_rank 96 = .ok (.iload_n 2, 1) := by decide +kernel
theorem dX11_rank_97 : decode cX11_rank 97 = .ok (.ireturn, 1) := by decide +kernel
def zX11_rank_9 (G : kz_G) (d mc ms : Nat) (Qr : Option Value → kz_M → Prop) (Qx : String → kz_M → Prop) (x0 : Nat) (x1 : Int32) (x2 : Int32) (x3 : Int32)  (M : kz_M) (c sl : Nat) : Prop := kz_Z G (d + 8) mc ms mX11_rank Qr Qx 9 [(0, .ref x0), (1, .int x1), (2, .int x2), (3, .int x3)] [] M c sl
theorem rX11_rank_0 {G : kz_G} {d : Nat} {mc ms : Nat} {Qr : Option Value → kz_M → Prop} {Qx : String → kz_M → Prop} {a0 : Nat} {p1 : Int32}  {M : kz_M} (h : (∃ fs4, (M).1 a0 = some (.inl (10, fs4))) ∧ ∃ mc3 ms3, 0 + mc3 ≤ mc ∧ 0 + ms3 ≤ ms ∧ kz_C G (d + 7) mc3 ms3 mX11_checkWriter [.ref a0, .int p1] M (fun v M1 => v = none ∧ (zX11_rank_9 G d mc ms Qr Qx a0 p1 0 0 M1 (0 + mc3) (0 + ms3))) Qx) : kz_C G (d + 8) mc ms mX11_rank [.ref a0, .int p1] M Qr Qx := by
  refine kz_enter (n := 1) kmX11_rank.1 (Nat.le_of_ble_eq_true rfl) (ls := [(0, .ref a0), (1, .int p1)]) rfl ?_
  refine kz_aload_n (pc := 0) 0 (v := .ref a0) (i := 0) rfl rfl rfl dX11_rank_0 ?_
  refine kz_iload_n (pc := 1) 1 (i := 1) rfl rfl dX11_rank_1 ?_
  obtain ⟨⟨fs4, he⟩, h⟩ := h
  obtain ⟨mc3, ms3, hc3, hs3, h⟩ := h
  refine kz_callV (pc := 2) (μ' := mX11_checkWriter) (ci := 10) (q := (RX11, TX11, 10)) (b := a0) (d' := d + 7) (mc' := mc3) (ms' := ms3) (As := [.int p1]) (st := []) (c := 0) (sl := 0) kmX11_checkWriter kw_641 (by omega) rfl (Nat.le_of_ble_eq_true rfl) he rfl rfl hc3 hs3 dX11_rank_2 (fun E M9 hx => kz_Tout rfl hc3 hs3 hx) (kz_Cmono (fun v M1 h => ?_) (fun _ _ h => h) h)
  obtain ⟨rfl, h⟩ := h
  show kz_Z G (d + 8) mc ms mX11_rank Qr Qx 5 [(0, .ref a0), (1, .int p1)] [] M1 (0 + mc3) (0 + ms3)
  refine kz_iconst (pc := 5) (v := 0) (by decide) dX11_rank_5 ?_
  refine kz_istore_n (pc := 6) (i := 2) (ls' := [(0, .ref a0), (1, .int p1)]) rfl (by decide) rfl dX11_rank_6 ?_
  refine kz_iconst (pc := 7) (v := 0) (by decide) dX11_rank_7 ?_
  refine kz_istore_n (pc := 8) (i := 3) (ls' := [(2, .int 0), (0, .ref a0), (1, .int p1)]) rfl (by decide) rfl dX11_rank_8 ?_
  refine kz_sub [2, 3, 1, 0] rfl ?_
  exact h
theorem rX11_rank_9 {G : kz_G} {d : Nat} {mc ms : Nat} {Qr : Option Value → kz_M → Prop} {Qx : String → kz_M → Prop} {x0 : Nat} {x1 : Int32} {x2 : Int32} {x3 : Int32}  {M : kz_M} {c sl : Nat} (hc : c ≤ mc) (hs : sl ≤ ms) (h : ∃ fs1 v2, (M).1 x0 = some (.inl (10, fs1)) ∧ fs1[2]? = some (.ref v2) ∧ (∃ fs3 v4, (M).1 v2 = some (.inl (8, fs3)) ∧ fs3[2]? = some (.int v4) ∧ ((v4 ≤ x3 → Qr (some (.int x2)) M) ∧ (¬ v4 ≤ x3 → ∃ fs5 v6, (M).1 x0 = some (.inl (10, fs5)) ∧ fs5[2]? = some (.ref v6) ∧ ((∃ fs40, (M).1 v6 = some (.inl (8, fs40))) ∧ kz_C G (d + 7) 0 0 mX9_balanceOf [.ref v6, .int x3] M (fun v M7 => ∃ r8 : Int32, v = some (.int r8) ∧ (∃ fs10 v11, (M7).1 x0 = some (.inl (10, fs10)) ∧ fs10[2]? = some (.ref v11) ∧ ((∃ fs39, (M7).1 v11 = some (.inl (8, fs39))) ∧ kz_C G (d + 7) 0 0 mX9_balanceOf [.ref v11, .int x1] M7 (fun v M12 => ∃ r13 : Int32, v = some (.int r13) ∧ ((r8 ≤ r13 → ∃ fs15 v16, (M12).1 x0 = some (.inl (10, fs15)) ∧ fs15[2]? = some (.ref v16) ∧ ((∃ fs26, (M12).1 v16 = some (.inl (8, fs26))) ∧ kz_C G (d + 7) 0 0 mX9_balanceOf [.ref v16, .int x3] M12 (fun v M17 => ∃ r18 : Int32, v = some (.int r18) ∧ (∃ fs20 v21, (M17).1 x0 = some (.inl (10, fs20)) ∧ fs20[2]? = some (.ref v21) ∧ ((∃ fs25, (M17).1 v21 = some (.inl (8, fs25))) ∧ kz_C G (d + 7) 0 0 mX9_balanceOf [.ref v21, .int x1] M17 (fun v M22 => ∃ r23 : Int32, v = some (.int r23) ∧ ((¬ r18 = r23 → (¬ (0 : Int32) = 0 → zX11_rank_9 G d mc ms Qr Qx x0 x1 (x2 + 1) (x3 + 1) M22 c sl) ∧ ((0 : Int32) = 0 → ((0 : Int32) = 0 → zX11_rank_9 G d mc ms Qr Qx x0 x1 x2 (x3 + 1) M22 c sl) ∧ (¬ (0 : Int32) = 0 → zX11_rank_9 G d mc ms Qr Qx x0 x1 (x2 + 1) (x3 + 1) M22 c sl))) ∧ (r18 = r23 → (x1 ≤ x3 → (¬ (0 : Int32) = 0 → zX11_rank_9 G d mc ms Qr Qx x0 x1 (x2 + 1) (x3 + 1) M22 c sl) ∧ ((0 : Int32) = 0 → ((0 : Int32) = 0 → zX11_rank_9 G d mc ms Qr Qx x0 x1 x2 (x3 + 1) M22 c sl) ∧ (¬ (0 : Int32) = 0 → zX11_rank_9 G d mc ms Qr Qx x0 x1 (x2 + 1) (x3 + 1) M22 c sl))) ∧ (¬ x1 ≤ x3 → (¬ (0 : Int32) = 0 → zX11_rank_9 G d mc ms Qr Qx x0 x1 (x2 + 1) (x3 + 1) M22 c sl) ∧ ((0 : Int32) = 0 → ((1 : Int32) = 0 → zX11_rank_9 G d mc ms Qr Qx x0 x1 x2 (x3 + 1) M22 c sl) ∧ (¬ (1 : Int32) = 0 → zX11_rank_9 G d mc ms Qr Qx x0 x1 (x2 + 1) (x3 + 1) M22 c sl)))))) Qx))) Qx)) ∧ (¬ r8 ≤ r13 → ∃ fs27 v28, (M12).1 x0 = some (.inl (10, fs27)) ∧ fs27[2]? = some (.ref v28) ∧ ((∃ fs38, (M12).1 v28 = some (.inl (8, fs38))) ∧ kz_C G (d + 7) 0 0 mX9_balanceOf [.ref v28, .int x3] M12 (fun v M29 => ∃ r30 : Int32, v = some (.int r30) ∧ (∃ fs32 v33, (M29).1 x0 = some (.inl (10, fs32)) ∧ fs32[2]? = some (.ref v33) ∧ ((∃ fs37, (M29).1 v33 = some (.inl (8, fs37))) ∧ kz_C G (d + 7) 0 0 mX9_balanceOf [.ref v33, .int x1] M29 (fun v M34 => ∃ r35 : Int32, v = some (.int r35) ∧ ((¬ r30 = r35 → (¬ (1 : Int32) = 0 → zX11_rank_9 G d mc ms Qr Qx x0 x1 (x2 + 1) (x3 + 1) M34 c sl) ∧ ((1 : Int32) = 0 → ((0 : Int32) = 0 → zX11_rank_9 G d mc ms Qr Qx x0 x1 x2 (x3 + 1) M34 c sl) ∧ (¬ (0 : Int32) = 0 → zX11_rank_9 G d mc ms Qr Qx x0 x1 (x2 + 1) (x3 + 1) M34 c sl))) ∧ (r30 = r35 → (x1 ≤ x3 → (¬ (1 : Int32) = 0 → zX11_rank_9 G d mc ms Qr Qx x0 x1 (x2 + 1) (x3 + 1) M34 c sl) ∧ ((1 : Int32) = 0 → ((0 : Int32) = 0 → zX11_rank_9 G d mc ms Qr Qx x0 x1 x2 (x3 + 1) M34 c sl) ∧ (¬ (0 : Int32) = 0 → zX11_rank_9 G d mc ms Qr Qx x0 x1 (x2 + 1) (x3 + 1) M34 c sl))) ∧ (¬ x1 ≤ x3 → (¬ (1 : Int32) = 0 → zX11_rank_9 G d mc ms Qr Qx x0 x1 (x2 + 1) (x3 + 1) M34 c sl) ∧ ((1 : Int32) = 0 → ((1 : Int32) = 0 → zX11_rank_9 G d mc ms Qr Qx x0 x1 x2 (x3 + 1) M34 c sl) ∧ (¬ (1 : Int32) = 0 → zX11_rank_9 G d mc ms Qr Qx x0 x1 (x2 + 1) (x3 + 1) M34 c sl)))))) Qx))) Qx)))) Qx))) Qx))))) : zX11_rank_9 G d mc ms Qr Qx x0 x1 x2 x3  M c sl := by
  show kz_Z G (d + 8) mc ms mX11_rank Qr Qx 9 [(0, .ref x0), (1, .int x1), (2, .int x2), (3, .int x3)] [] M c sl
  refine kz_iload_n (pc := 9) 3 (i := 3) rfl rfl dX11_rank_9 ?_
  refine kz_aload_n (pc := 10) 0 (v := .ref x0) (i := 0) rfl rfl rfl dX11_rank_10 ?_
  obtain ⟨fs1, v2, hM, hv, h⟩ := h
  refine kz_getf (pc := 11) (k := 2) kcX11 hM hv (by decide) kw_277 dX11_rank_11 ?_
  obtain ⟨fs3, v4, hM, hv, h⟩ := h
  refine kz_getf (pc := 14) (k := 2) kcX9 hM hv (by decide) kw_107 dX11_rank_14 ?_
  refine kz_icmp_ge (pc := 17) (tgt := 96) (by decide) dX11_rank_17 (fun hb => ?_) (fun hb => ?_)
  · replace h := h.1 hb
    refine kz_iload_n (pc := 96) 2 (i := 2) rfl rfl dX11_rank_96 ?_
    exact kz_iret (pc := 97) rfl hc hs dX11_rank_97 h
  · replace h := h.2 hb
    refine kz_aload_n (pc := 20) 0 (v := .ref x0) (i := 0) rfl rfl rfl dX11_rank_20 ?_
    obtain ⟨fs5, v6, hM, hv, h⟩ := h
    refine kz_getf (pc := 21) (k := 2) kcX11 hM hv (by decide) kw_277 dX11_rank_21 ?_
    refine kz_iload_n (pc := 24) 3 (i := 3) rfl rfl dX11_rank_24 ?_
    obtain ⟨⟨fs40, he⟩, h⟩ := h
    refine kz_callV (pc := 25) (μ' := mX9_balanceOf) (ci := 8) (q := (RX9, TX9, 10)) (b := v6) (d' := d + 7) (mc' := 0) (ms' := 0) (As := [.int x3]) (st := []) (c := c) (sl := sl) kmX9_balanceOf kw_444 (by omega) rfl (Nat.le_of_ble_eq_true rfl) he rfl rfl hc hs dX11_rank_25 (fun E M9 hx => kz_Tout rfl hc hs hx) (kz_Cmono (fun v M7 h => ?_) (fun _ _ h => h) h)
    obtain ⟨r8, rfl, h⟩ := h
    show kz_Z G (d + 8) mc ms mX11_rank Qr Qx 28 [(0, .ref x0), (1, .int x1), (2, .int x2), (3, .int x3)] [.int r8] M7 c sl
    refine kz_aload_n (pc := 28) 0 (v := .ref x0) (i := 0) rfl rfl rfl dX11_rank_28 ?_
    obtain ⟨fs10, v11, hM, hv, h⟩ := h
    refine kz_getf (pc := 29) (k := 2) kcX11 hM hv (by decide) kw_277 dX11_rank_29 ?_
    refine kz_iload_n (pc := 32) 1 (i := 1) rfl rfl dX11_rank_32 ?_
    obtain ⟨⟨fs39, he⟩, h⟩ := h
    refine kz_callV (pc := 33) (μ' := mX9_balanceOf) (ci := 8) (q := (RX9, TX9, 10)) (b := v11) (d' := d + 7) (mc' := 0) (ms' := 0) (As := [.int x1]) (st := [.int r8]) (c := c) (sl := sl) kmX9_balanceOf kw_444 (by omega) rfl (Nat.le_of_ble_eq_true rfl) he rfl rfl hc hs dX11_rank_33 (fun E M9 hx => kz_Tout rfl hc hs hx) (kz_Cmono (fun v M12 h => ?_) (fun _ _ h => h) h)
    obtain ⟨r13, rfl, h⟩ := h
    show kz_Z G (d + 8) mc ms mX11_rank Qr Qx 36 [(0, .ref x0), (1, .int x1), (2, .int x2), (3, .int x3)] [.int r13, .int r8] M12 c sl
    refine kz_icmp_le (pc := 36) (tgt := 43) (by decide) dX11_rank_36 (fun hb => ?_) (fun hb => ?_)
    · replace h := h.1 hb
      refine kz_iconst (pc := 43) (v := 0) (by decide) dX11_rank_43 ?_
      refine kz_istore (pc := 44) (i := 4) (ls' := [(0, .ref x0), (1, .int x1), (2, .int x2), (3, .int x3)]) (by decide) rfl dX11_rank_44 ?_
      refine kz_aload_n (pc := 46) 1 (v := .ref x0) (i := 0) rfl rfl rfl dX11_rank_46 ?_
      obtain ⟨fs15, v16, hM, hv, h⟩ := h
      refine kz_getf (pc := 47) (k := 2) kcX11 hM hv (by decide) kw_277 dX11_rank_47 ?_
      refine kz_iload_n (pc := 50) 4 (i := 3) rfl rfl dX11_rank_50 ?_
      obtain ⟨⟨fs26, he⟩, h⟩ := h
      refine kz_callV (pc := 51) (μ' := mX9_balanceOf) (ci := 8) (q := (RX9, TX9, 10)) (b := v16) (d' := d + 7) (mc' := 0) (ms' := 0) (As := [.int x3]) (st := []) (c := c) (sl := sl) kmX9_balanceOf kw_444 (by omega) rfl (Nat.le_of_ble_eq_true rfl) he rfl rfl hc hs dX11_rank_51 (fun E M9 hx => kz_Tout rfl hc hs hx) (kz_Cmono (fun v M17 h => ?_) (fun _ _ h => h) h)
      obtain ⟨r18, rfl, h⟩ := h
      show kz_Z G (d + 8) mc ms mX11_rank Qr Qx 54 [(4, .int 0), (0, .ref x0), (1, .int x1), (2, .int x2), (3, .int x3)] [.int r18] M17 c sl
      refine kz_aload_n (pc := 54) 1 (v := .ref x0) (i := 0) rfl rfl rfl dX11_rank_54 ?_
      obtain ⟨fs20, v21, hM, hv, h⟩ := h
      refine kz_getf (pc := 55) (k := 2) kcX11 hM hv (by decide) kw_277 dX11_rank_55 ?_
      refine kz_iload_n (pc := 58) 2 (i := 1) rfl rfl dX11_rank_58 ?_
      obtain ⟨⟨fs25, he⟩, h⟩ := h
      refine kz_callV (pc := 59) (μ' := mX9_balanceOf) (ci := 8) (q := (RX9, TX9, 10)) (b := v21) (d' := d + 7) (mc' := 0) (ms' := 0) (As := [.int x1]) (st := [.int r18]) (c := c) (sl := sl) kmX9_balanceOf kw_444 (by omega) rfl (Nat.le_of_ble_eq_true rfl) he rfl rfl hc hs dX11_rank_59 (fun E M9 hx => kz_Tout rfl hc hs hx) (kz_Cmono (fun v M22 h => ?_) (fun _ _ h => h) h)
      obtain ⟨r23, rfl, h⟩ := h
      show kz_Z G (d + 8) mc ms mX11_rank Qr Qx 62 [(4, .int 0), (0, .ref x0), (1, .int x1), (2, .int x2), (3, .int x3)] [.int r23, .int r18] M22 c sl
      refine kz_icmp_ne (pc := 62) (tgt := 74) (by decide) dX11_rank_62 (fun hb => ?_) (fun hb => ?_)
      · replace h := h.1 hb
        refine kz_iconst (pc := 74) (v := 0) (by decide) dX11_rank_74 ?_
        refine kz_istore (pc := 75) (i := 5) (ls' := [(4, .int 0), (0, .ref x0), (1, .int x1), (2, .int x2), (3, .int x3)]) (by decide) rfl dX11_rank_75 ?_
        refine kz_iload (pc := 77) 1 (i := 4) rfl dX11_rank_77 ?_
        refine kz_if_ne (pc := 79) (tgt := 87) (by decide) dX11_rank_79 (fun hb => ?_) (fun hb => ?_)
        · replace h := h.1 hb
          refine kz_iinc (pc := 87) 4 (i := 2) (v := x2 + 1) (ls' := [(5, .int 0), (4, .int 0), (0, .ref x0), (1, .int x1), (3, .int x3)]) rfl (congrArg (fun z => x2 + z) (by decide)) (by decide) rfl dX11_rank_87 ?_
          refine kz_iinc (pc := 90) 5 (i := 3) (v := x3 + 1) (ls' := [(2, .int (x2 + 1)), (5, .int 0), (4, .int 0), (0, .ref x0), (1, .int x1)]) rfl (congrArg (fun z => x3 + z) (by decide)) (by decide) rfl dX11_rank_90 ?_
          refine kz_goto (pc := 93) (tgt := 9) (by decide) dX11_rank_93 ?_
          refine kz_sub [4, 5, 1, 0] rfl ?_
          exact h
        · replace h := h.2 hb
          refine kz_iload (pc := 82) 0 (i := 5) rfl dX11_rank_82 ?_
          refine kz_if_eq (pc := 84) (tgt := 90) (by decide) dX11_rank_84 (fun hb => ?_) (fun hb => ?_)
          · replace h := h.1 hb
            refine kz_iinc (pc := 90) 5 (i := 3) (v := x3 + 1) (ls' := [(5, .int 0), (4, .int 0), (0, .ref x0), (1, .int x1), (2, .int x2)]) rfl (congrArg (fun z => x3 + z) (by decide)) (by decide) rfl dX11_rank_90 ?_
            refine kz_goto (pc := 93) (tgt := 9) (by decide) dX11_rank_93 ?_
            refine kz_sub [3, 4, 5, 0] rfl ?_
            exact h
          · replace h := h.2 hb
            refine kz_iinc (pc := 87) 4 (i := 2) (v := x2 + 1) (ls' := [(5, .int 0), (4, .int 0), (0, .ref x0), (1, .int x1), (3, .int x3)]) rfl (congrArg (fun z => x2 + z) (by decide)) (by decide) rfl dX11_rank_87 ?_
            refine kz_iinc (pc := 90) 5 (i := 3) (v := x3 + 1) (ls' := [(2, .int (x2 + 1)), (5, .int 0), (4, .int 0), (0, .ref x0), (1, .int x1)]) rfl (congrArg (fun z => x3 + z) (by decide)) (by decide) rfl dX11_rank_90 ?_
            refine kz_goto (pc := 93) (tgt := 9) (by decide) dX11_rank_93 ?_
            refine kz_sub [4, 5, 1, 0] rfl ?_
            exact h
      · replace h := h.2 hb
        refine kz_iload_n (pc := 65) 4 (i := 3) rfl rfl dX11_rank_65 ?_
        refine kz_iload_n (pc := 66) 2 (i := 1) rfl rfl dX11_rank_66 ?_
        refine kz_icmp_ge (pc := 67) (tgt := 74) (by decide) dX11_rank_67 (fun hb => ?_) (fun hb => ?_)
        · replace h := h.1 hb
          refine kz_iconst (pc := 74) (v := 0) (by decide) dX11_rank_74 ?_
          refine kz_istore (pc := 75) (i := 5) (ls' := [(4, .int 0), (0, .ref x0), (1, .int x1), (2, .int x2), (3, .int x3)]) (by decide) rfl dX11_rank_75 ?_
          refine kz_iload (pc := 77) 1 (i := 4) rfl dX11_rank_77 ?_
          refine kz_if_ne (pc := 79) (tgt := 87) (by decide) dX11_rank_79 (fun hb => ?_) (fun hb => ?_)
          · replace h := h.1 hb
            refine kz_iinc (pc := 87) 4 (i := 2) (v := x2 + 1) (ls' := [(5, .int 0), (4, .int 0), (0, .ref x0), (1, .int x1), (3, .int x3)]) rfl (congrArg (fun z => x2 + z) (by decide)) (by decide) rfl dX11_rank_87 ?_
            refine kz_iinc (pc := 90) 5 (i := 3) (v := x3 + 1) (ls' := [(2, .int (x2 + 1)), (5, .int 0), (4, .int 0), (0, .ref x0), (1, .int x1)]) rfl (congrArg (fun z => x3 + z) (by decide)) (by decide) rfl dX11_rank_90 ?_
            refine kz_goto (pc := 93) (tgt := 9) (by decide) dX11_rank_93 ?_
            refine kz_sub [4, 5, 1, 0] rfl ?_
            exact h
          · replace h := h.2 hb
            refine kz_iload (pc := 82) 0 (i := 5) rfl dX11_rank_82 ?_
            refine kz_if_eq (pc := 84) (tgt := 90) (by decide) dX11_rank_84 (fun hb => ?_) (fun hb => ?_)
            · replace h := h.1 hb
              refine kz_iinc (pc := 90) 5 (i := 3) (v := x3 + 1) (ls' := [(5, .int 0), (4, .int 0), (0, .ref x0), (1, .int x1), (2, .int x2)]) rfl (congrArg (fun z => x3 + z) (by decide)) (by decide) rfl dX11_rank_90 ?_
              refine kz_goto (pc := 93) (tgt := 9) (by decide) dX11_rank_93 ?_
              refine kz_sub [3, 4, 5, 0] rfl ?_
              exact h
            · replace h := h.2 hb
              refine kz_iinc (pc := 87) 4 (i := 2) (v := x2 + 1) (ls' := [(5, .int 0), (4, .int 0), (0, .ref x0), (1, .int x1), (3, .int x3)]) rfl (congrArg (fun z => x2 + z) (by decide)) (by decide) rfl dX11_rank_87 ?_
              refine kz_iinc (pc := 90) 5 (i := 3) (v := x3 + 1) (ls' := [(2, .int (x2 + 1)), (5, .int 0), (4, .int 0), (0, .ref x0), (1, .int x1)]) rfl (congrArg (fun z => x3 + z) (by decide)) (by decide) rfl dX11_rank_90 ?_
              refine kz_goto (pc := 93) (tgt := 9) (by decide) dX11_rank_93 ?_
              refine kz_sub [4, 5, 1, 0] rfl ?_
              exact h
        · replace h := h.2 hb
          refine kz_iconst (pc := 70) (v := 1) (by decide) dX11_rank_70 ?_
          refine kz_goto (pc := 71) (tgt := 75) (by decide) dX11_rank_71 ?_
          refine kz_istore (pc := 75) (i := 5) (ls' := [(4, .int 0), (0, .ref x0), (1, .int x1), (2, .int x2), (3, .int x3)]) (by decide) rfl dX11_rank_75 ?_
          refine kz_iload (pc := 77) 1 (i := 4) rfl dX11_rank_77 ?_
          refine kz_if_ne (pc := 79) (tgt := 87) (by decide) dX11_rank_79 (fun hb => ?_) (fun hb => ?_)
          · replace h := h.1 hb
            refine kz_iinc (pc := 87) 4 (i := 2) (v := x2 + 1) (ls' := [(5, .int 1), (4, .int 0), (0, .ref x0), (1, .int x1), (3, .int x3)]) rfl (congrArg (fun z => x2 + z) (by decide)) (by decide) rfl dX11_rank_87 ?_
            refine kz_iinc (pc := 90) 5 (i := 3) (v := x3 + 1) (ls' := [(2, .int (x2 + 1)), (5, .int 1), (4, .int 0), (0, .ref x0), (1, .int x1)]) rfl (congrArg (fun z => x3 + z) (by decide)) (by decide) rfl dX11_rank_90 ?_
            refine kz_goto (pc := 93) (tgt := 9) (by decide) dX11_rank_93 ?_
            refine kz_sub [4, 5, 1, 0] rfl ?_
            exact h
          · replace h := h.2 hb
            refine kz_iload (pc := 82) 0 (i := 5) rfl dX11_rank_82 ?_
            refine kz_if_eq (pc := 84) (tgt := 90) (by decide) dX11_rank_84 (fun hb => ?_) (fun hb => ?_)
            · replace h := h.1 hb
              refine kz_iinc (pc := 90) 5 (i := 3) (v := x3 + 1) (ls' := [(5, .int 1), (4, .int 0), (0, .ref x0), (1, .int x1), (2, .int x2)]) rfl (congrArg (fun z => x3 + z) (by decide)) (by decide) rfl dX11_rank_90 ?_
              refine kz_goto (pc := 93) (tgt := 9) (by decide) dX11_rank_93 ?_
              refine kz_sub [3, 4, 5, 0] rfl ?_
              exact h
            · replace h := h.2 hb
              refine kz_iinc (pc := 87) 4 (i := 2) (v := x2 + 1) (ls' := [(5, .int 1), (4, .int 0), (0, .ref x0), (1, .int x1), (3, .int x3)]) rfl (congrArg (fun z => x2 + z) (by decide)) (by decide) rfl dX11_rank_87 ?_
              refine kz_iinc (pc := 90) 5 (i := 3) (v := x3 + 1) (ls' := [(2, .int (x2 + 1)), (5, .int 1), (4, .int 0), (0, .ref x0), (1, .int x1)]) rfl (congrArg (fun z => x3 + z) (by decide)) (by decide) rfl dX11_rank_90 ?_
              refine kz_goto (pc := 93) (tgt := 9) (by decide) dX11_rank_93 ?_
              refine kz_sub [4, 5, 1, 0] rfl ?_
              exact h
    · replace h := h.2 hb
      refine kz_iconst (pc := 39) (v := 1) (by decide) dX11_rank_39 ?_
      refine kz_goto (pc := 40) (tgt := 44) (by decide) dX11_rank_40 ?_
      refine kz_istore (pc := 44) (i := 4) (ls' := [(0, .ref x0), (1, .int x1), (2, .int x2), (3, .int x3)]) (by decide) rfl dX11_rank_44 ?_
      refine kz_aload_n (pc := 46) 1 (v := .ref x0) (i := 0) rfl rfl rfl dX11_rank_46 ?_
      obtain ⟨fs27, v28, hM, hv, h⟩ := h
      refine kz_getf (pc := 47) (k := 2) kcX11 hM hv (by decide) kw_277 dX11_rank_47 ?_
      refine kz_iload_n (pc := 50) 4 (i := 3) rfl rfl dX11_rank_50 ?_
      obtain ⟨⟨fs38, he⟩, h⟩ := h
      refine kz_callV (pc := 51) (μ' := mX9_balanceOf) (ci := 8) (q := (RX9, TX9, 10)) (b := v28) (d' := d + 7) (mc' := 0) (ms' := 0) (As := [.int x3]) (st := []) (c := c) (sl := sl) kmX9_balanceOf kw_444 (by omega) rfl (Nat.le_of_ble_eq_true rfl) he rfl rfl hc hs dX11_rank_51 (fun E M9 hx => kz_Tout rfl hc hs hx) (kz_Cmono (fun v M29 h => ?_) (fun _ _ h => h) h)
      obtain ⟨r30, rfl, h⟩ := h
      show kz_Z G (d + 8) mc ms mX11_rank Qr Qx 54 [(4, .int 1), (0, .ref x0), (1, .int x1), (2, .int x2), (3, .int x3)] [.int r30] M29 c sl
      refine kz_aload_n (pc := 54) 1 (v := .ref x0) (i := 0) rfl rfl rfl dX11_rank_54 ?_
      obtain ⟨fs32, v33, hM, hv, h⟩ := h
      refine kz_getf (pc := 55) (k := 2) kcX11 hM hv (by decide) kw_277 dX11_rank_55 ?_
      refine kz_iload_n (pc := 58) 2 (i := 1) rfl rfl dX11_rank_58 ?_
      obtain ⟨⟨fs37, he⟩, h⟩ := h
      refine kz_callV (pc := 59) (μ' := mX9_balanceOf) (ci := 8) (q := (RX9, TX9, 10)) (b := v33) (d' := d + 7) (mc' := 0) (ms' := 0) (As := [.int x1]) (st := [.int r30]) (c := c) (sl := sl) kmX9_balanceOf kw_444 (by omega) rfl (Nat.le_of_ble_eq_true rfl) he rfl rfl hc hs dX11_rank_59 (fun E M9 hx => kz_Tout rfl hc hs hx) (kz_Cmono (fun v M34 h => ?_) (fun _ _ h => h) h)
      obtain ⟨r35, rfl, h⟩ := h
      show kz_Z G (d + 8) mc ms mX11_rank Qr Qx 62 [(4, .int 1), (0, .ref x0), (1, .int x1), (2, .int x2), (3, .int x3)] [.int r35, .int r30] M34 c sl
      refine kz_icmp_ne (pc := 62) (tgt := 74) (by decide) dX11_rank_62 (fun hb => ?_) (fun hb => ?_)
      · replace h := h.1 hb
        refine kz_iconst (pc := 74) (v := 0) (by decide) dX11_rank_74 ?_
        refine kz_istore (pc := 75) (i := 5) (ls' := [(4, .int 1), (0, .ref x0), (1, .int x1), (2, .int x2), (3, .int x3)]) (by decide) rfl dX11_rank_75 ?_
        refine kz_iload (pc := 77) 1 (i := 4) rfl dX11_rank_77 ?_
        refine kz_if_ne (pc := 79) (tgt := 87) (by decide) dX11_rank_79 (fun hb => ?_) (fun hb => ?_)
        · replace h := h.1 hb
          refine kz_iinc (pc := 87) 4 (i := 2) (v := x2 + 1) (ls' := [(5, .int 0), (4, .int 1), (0, .ref x0), (1, .int x1), (3, .int x3)]) rfl (congrArg (fun z => x2 + z) (by decide)) (by decide) rfl dX11_rank_87 ?_
          refine kz_iinc (pc := 90) 5 (i := 3) (v := x3 + 1) (ls' := [(2, .int (x2 + 1)), (5, .int 0), (4, .int 1), (0, .ref x0), (1, .int x1)]) rfl (congrArg (fun z => x3 + z) (by decide)) (by decide) rfl dX11_rank_90 ?_
          refine kz_goto (pc := 93) (tgt := 9) (by decide) dX11_rank_93 ?_
          refine kz_sub [4, 5, 1, 0] rfl ?_
          exact h
        · replace h := h.2 hb
          refine kz_iload (pc := 82) 0 (i := 5) rfl dX11_rank_82 ?_
          refine kz_if_eq (pc := 84) (tgt := 90) (by decide) dX11_rank_84 (fun hb => ?_) (fun hb => ?_)
          · replace h := h.1 hb
            refine kz_iinc (pc := 90) 5 (i := 3) (v := x3 + 1) (ls' := [(5, .int 0), (4, .int 1), (0, .ref x0), (1, .int x1), (2, .int x2)]) rfl (congrArg (fun z => x3 + z) (by decide)) (by decide) rfl dX11_rank_90 ?_
            refine kz_goto (pc := 93) (tgt := 9) (by decide) dX11_rank_93 ?_
            refine kz_sub [3, 4, 5, 0] rfl ?_
            exact h
          · replace h := h.2 hb
            refine kz_iinc (pc := 87) 4 (i := 2) (v := x2 + 1) (ls' := [(5, .int 0), (4, .int 1), (0, .ref x0), (1, .int x1), (3, .int x3)]) rfl (congrArg (fun z => x2 + z) (by decide)) (by decide) rfl dX11_rank_87 ?_
            refine kz_iinc (pc := 90) 5 (i := 3) (v := x3 + 1) (ls' := [(2, .int (x2 + 1)), (5, .int 0), (4, .int 1), (0, .ref x0), (1, .int x1)]) rfl (congrArg (fun z => x3 + z) (by decide)) (by decide) rfl dX11_rank_90 ?_
            refine kz_goto (pc := 93) (tgt := 9) (by decide) dX11_rank_93 ?_
            refine kz_sub [4, 5, 1, 0] rfl ?_
            exact h
      · replace h := h.2 hb
        refine kz_iload_n (pc := 65) 4 (i := 3) rfl rfl dX11_rank_65 ?_
        refine kz_iload_n (pc := 66) 2 (i := 1) rfl rfl dX11_rank_66 ?_
        refine kz_icmp_ge (pc := 67) (tgt := 74) (by decide) dX11_rank_67 (fun hb => ?_) (fun hb => ?_)
        · replace h := h.1 hb
          refine kz_iconst (pc := 74) (v := 0) (by decide) dX11_rank_74 ?_
          refine kz_istore (pc := 75) (i := 5) (ls' := [(4, .int 1), (0, .ref x0), (1, .int x1), (2, .int x2), (3, .int x3)]) (by decide) rfl dX11_rank_75 ?_
          refine kz_iload (pc := 77) 1 (i := 4) rfl dX11_rank_77 ?_
          refine kz_if_ne (pc := 79) (tgt := 87) (by decide) dX11_rank_79 (fun hb => ?_) (fun hb => ?_)
          · replace h := h.1 hb
            refine kz_iinc (pc := 87) 4 (i := 2) (v := x2 + 1) (ls' := [(5, .int 0), (4, .int 1), (0, .ref x0), (1, .int x1), (3, .int x3)]) rfl (congrArg (fun z => x2 + z) (by decide)) (by decide) rfl dX11_rank_87 ?_
            refine kz_iinc (pc := 90) 5 (i := 3) (v := x3 + 1) (ls' := [(2, .int (x2 + 1)), (5, .int 0), (4, .int 1), (0, .ref x0), (1, .int x1)]) rfl (congrArg (fun z => x3 + z) (by decide)) (by decide) rfl dX11_rank_90 ?_
            refine kz_goto (pc := 93) (tgt := 9) (by decide) dX11_rank_93 ?_
            refine kz_sub [4, 5, 1, 0] rfl ?_
            exact h
          · replace h := h.2 hb
            refine kz_iload (pc := 82) 0 (i := 5) rfl dX11_rank_82 ?_
            refine kz_if_eq (pc := 84) (tgt := 90) (by decide) dX11_rank_84 (fun hb => ?_) (fun hb => ?_)
            · replace h := h.1 hb
              refine kz_iinc (pc := 90) 5 (i := 3) (v := x3 + 1) (ls' := [(5, .int 0), (4, .int 1), (0, .ref x0), (1, .int x1), (2, .int x2)]) rfl (congrArg (fun z => x3 + z) (by decide)) (by decide) rfl dX11_rank_90 ?_
              refine kz_goto (pc := 93) (tgt := 9) (by decide) dX11_rank_93 ?_
              refine kz_sub [3, 4, 5, 0] rfl ?_
              exact h
            · replace h := h.2 hb
              refine kz_iinc (pc := 87) 4 (i := 2) (v := x2 + 1) (ls' := [(5, .int 0), (4, .int 1), (0, .ref x0), (1, .int x1), (3, .int x3)]) rfl (congrArg (fun z => x2 + z) (by decide)) (by decide) rfl dX11_rank_87 ?_
              refine kz_iinc (pc := 90) 5 (i := 3) (v := x3 + 1) (ls' := [(2, .int (x2 + 1)), (5, .int 0), (4, .int 1), (0, .ref x0), (1, .int x1)]) rfl (congrArg (fun z => x3 + z) (by decide)) (by decide) rfl dX11_rank_90 ?_
              refine kz_goto (pc := 93) (tgt := 9) (by decide) dX11_rank_93 ?_
              refine kz_sub [4, 5, 1, 0] rfl ?_
              exact h
        · replace h := h.2 hb
          refine kz_iconst (pc := 70) (v := 1) (by decide) dX11_rank_70 ?_
          refine kz_goto (pc := 71) (tgt := 75) (by decide) dX11_rank_71 ?_
          refine kz_istore (pc := 75) (i := 5) (ls' := [(4, .int 1), (0, .ref x0), (1, .int x1), (2, .int x2), (3, .int x3)]) (by decide) rfl dX11_rank_75 ?_
          refine kz_iload (pc := 77) 1 (i := 4) rfl dX11_rank_77 ?_
          refine kz_if_ne (pc := 79) (tgt := 87) (by decide) dX11_rank_79 (fun hb => ?_) (fun hb => ?_)
          · replace h := h.1 hb
            refine kz_iinc (pc := 87) 4 (i := 2) (v := x2 + 1) (ls' := [(5, .int 1), (4, .int 1), (0, .ref x0), (1, .int x1), (3, .int x3)]) rfl (congrArg (fun z => x2 + z) (by decide)) (by decide) rfl dX11_rank_87 ?_
            refine kz_iinc (pc := 90) 5 (i := 3) (v := x3 + 1) (ls' := [(2, .int (x2 + 1)), (5, .int 1), (4, .int 1), (0, .ref x0), (1, .int x1)]) rfl (congrArg (fun z => x3 + z) (by decide)) (by decide) rfl dX11_rank_90 ?_
            refine kz_goto (pc := 93) (tgt := 9) (by decide) dX11_rank_93 ?_
            refine kz_sub [4, 5, 1, 0] rfl ?_
            exact h
          · replace h := h.2 hb
            refine kz_iload (pc := 82) 0 (i := 5) rfl dX11_rank_82 ?_
            refine kz_if_eq (pc := 84) (tgt := 90) (by decide) dX11_rank_84 (fun hb => ?_) (fun hb => ?_)
            · replace h := h.1 hb
              refine kz_iinc (pc := 90) 5 (i := 3) (v := x3 + 1) (ls' := [(5, .int 1), (4, .int 1), (0, .ref x0), (1, .int x1), (2, .int x2)]) rfl (congrArg (fun z => x3 + z) (by decide)) (by decide) rfl dX11_rank_90 ?_
              refine kz_goto (pc := 93) (tgt := 9) (by decide) dX11_rank_93 ?_
              refine kz_sub [3, 4, 5, 0] rfl ?_
              exact h
            · replace h := h.2 hb
              refine kz_iinc (pc := 87) 4 (i := 2) (v := x2 + 1) (ls' := [(5, .int 1), (4, .int 1), (0, .ref x0), (1, .int x1), (3, .int x3)]) rfl (congrArg (fun z => x2 + z) (by decide)) (by decide) rfl dX11_rank_87 ?_
              refine kz_iinc (pc := 90) 5 (i := 3) (v := x3 + 1) (ls' := [(2, .int (x2 + 1)), (5, .int 1), (4, .int 1), (0, .ref x0), (1, .int x1)]) rfl (congrArg (fun z => x3 + z) (by decide)) (by decide) rfl dX11_rank_90 ?_
              refine kz_goto (pc := 93) (tgt := 9) (by decide) dX11_rank_93 ?_
              refine kz_sub [4, 5, 1, 0] rfl ?_
              exact h
theorem dX11_meanWidth_0 : decode cX11_meanWidth 0 = .ok (.aload_n 0, 1) := by decide +kernel
theorem dX11_meanWidth_1 : decode cX11_meanWidth 1 = .ok (.iload_n 1, 1) := by decide +kernel
theorem dX11_meanWidth_2 : decode cX11_meanWidth 2 = .ok (.invokevirtual 165, 3) := by decide +kernel
theorem dX11_meanWidth_5 : decode cX11_meanWidth 5 = .ok (.astore_n 2, 1) := by decide +kernel
theorem dX11_meanWidth_6 : decode cX11_meanWidth 6 = .ok (.iconst 0, 1) := by decide +kernel
theorem dX11_meanWidth_7 : decode cX11_meanWidth 7 = .ok (.istore_n 3, 1) := by decide +kernel
theorem dX11_meanWidth_8 : decode cX11_meanWidth 8 = .ok (.iconst 0, 1) := by decide +kernel
theorem dX11_meanWidth_9 : decode cX11_meanWidth 9 = .ok (.istore 4, 2) := by decide +kernel
theorem dX11_meanWidth_11 : decode cX11_meanWidth 11 = .ok (.iload 4, 2) := by decide +kernel
theorem dX11_meanWidth_13 : decode cX11_meanWidth 13 = .ok (.aload_n 2, 1) := by decide +kernel
theorem dX11_meanWidth_14 : decode cX11_meanWidth 14 = .ok (.invokevirtual 186, 3) := by decide +kernel
theorem dX11_meanWidth_17 : decode cX11_meanWidth 17 = .ok (.if_icmp .ge 18, 3) := by decide +kernel
theorem dX11_meanWidth_20 : decode cX11_meanWidth 20 = .ok (.iload_n 3, 1) := by decide +kernel
theorem dX11_meanWidth_21 : decode cX11_meanWidth 21 = .ok (.aload_n 2, 1) := by decide +kernel
theorem dX11_meanWidth_22 : decode cX11_meanWidth 22 = .ok (.iload 4, 2) := by decide +kernel
theorem dX11_meanWidth_24 : decode cX11_meanWidth 24 = .ok (.invokevirtual 268, 3) := by decide +kernel
theorem dX11_meanWidth_27 : decode cX11_meanWidth 27 = .ok (.iadd, 1) := by decide +kernel
theorem dX11_meanWidth_28 : decode cX11_meanWidth 28 = .ok (.istore_n 3, 1) := by decide +kernel
theorem dX11_meanWidth_29 : decode cX11_meanWidth 29 = .ok (.iinc 4 1, 3) := by decide +kernel
theorem dX11_meanWidth_32 : decode cX11_meanWidth 32 = .ok (.goto (-21), 3) := by decide +kernel
theorem dX11_meanWidth_35 : decode cX11_meanWidth 35 = .ok (.aload_n 2, 1) := by decide +kernel
theorem dX11_meanWidth_36 : decode cX11_meanWidth 36 = .ok (.invokevirtual 186, 3) := by decide +kernel
theorem dX11_meanWidth_39 : decode cX11_meanWidth 39 = .ok (.ifCond .ne 7, 3) := by decide +kernel
theorem dX11_meanWidth_42 : decode cX11_meanWidth 42 = .ok (.dconst 0, 1) := by decide +kernel
theorem dX11_meanWidth_43 : decode cX11_meanWidth 43 = .ok (.goto 11, 3) := by decide +kernel
theorem dX11_meanWidth_46 : decode cX11_meanWidth 46 = .ok (.iload_n 3, 1) := by decide +kernel
theorem dX11_meanWidth_47 : decode cX11_meanWidth 47 = .ok (.i2d, 1) := by decide +kernel
theorem dX11_meanWidth_48 : decode cX11_meanWidth 48 = .ok (.aload_n 2, 1) := by decide +kernel
theorem dX11_meanWidth_49 : decode cX11_meanWidth 49 = .ok (.invokevirtual 186, 3) := by decide +kernel
theorem dX11_meanWidth_52 : decode cX11_meanWidth 52 = .ok (.i2d, 1) := by decide +kernel
theorem dX11_meanWidth_53 : decode cX11_meanWidth 53 = .ok (.ddiv, 1) := by decide +kernel
theorem dX11_meanWidth_54 : decode cX11_meanWidth 54 = .ok (.dreturn, 1) := by decide +kernel
def zX11_meanWidth_11 (G : kz_G) (d mc ms : Nat) (Qr : Option Value → kz_M → Prop) (Qx : String → kz_M → Prop) (x2 : Nat) (x3 : Int32) (x4 : Int32)  (M : kz_M) (c sl : Nat) : Prop := kz_Z G (d + 8) mc ms mX11_meanWidth Qr Qx 11 [(2, .ref x2), (3, .int x3), (4, .int x4)] [] M c sl
theorem rX11_meanWidth_0 {G : kz_G} {d : Nat} {mc ms : Nat} {Qr : Option Value → kz_M → Prop} {Qx : String → kz_M → Prop} {a0 : Nat} {p1 : Int32}  {M : kz_M} (h : (∃ fs4, (M).1 a0 = some (.inl (10, fs4))) ∧ ∃ mc3 ms3, 0 + mc3 ≤ mc ∧ 0 + ms3 ≤ ms ∧ kz_C G (d + 7) mc3 ms3 mX11_workOrThrow [.ref a0, .int p1] M (fun v M1 => ∃ r2 : Nat, v = some (.ref r2) ∧ (zX11_meanWidth_11 G d mc ms Qr Qx r2 0 0 M1 (0 + mc3) (0 + ms3))) Qx) : kz_C G (d + 8) mc ms mX11_meanWidth [.ref a0, .int p1] M Qr Qx := by
  refine kz_enter (n := 1) kmX11_meanWidth.1 (Nat.le_of_ble_eq_true rfl) (ls := [(0, .ref a0), (1, .int p1)]) rfl ?_
  refine kz_aload_n (pc := 0) 0 (v := .ref a0) (i := 0) rfl rfl rfl dX11_meanWidth_0 ?_
  refine kz_iload_n (pc := 1) 1 (i := 1) rfl rfl dX11_meanWidth_1 ?_
  obtain ⟨⟨fs4, he⟩, h⟩ := h
  obtain ⟨mc3, ms3, hc3, hs3, h⟩ := h
  refine kz_callV (pc := 2) (μ' := mX11_workOrThrow) (ci := 10) (q := (RX11, TX11, 10)) (b := a0) (d' := d + 7) (mc' := mc3) (ms' := ms3) (As := [.int p1]) (st := []) (c := 0) (sl := 0) kmX11_workOrThrow kw_744 (by omega) rfl (Nat.le_of_ble_eq_true rfl) he rfl rfl hc3 hs3 dX11_meanWidth_2 (fun E M9 hx => kz_Tout rfl hc3 hs3 hx) (kz_Cmono (fun v M1 h => ?_) (fun _ _ h => h) h)
  obtain ⟨r2, rfl, h⟩ := h
  show kz_Z G (d + 8) mc ms mX11_meanWidth Qr Qx 5 [(0, .ref a0), (1, .int p1)] [.ref r2] M1 (0 + mc3) (0 + ms3)
  refine kz_astore_n (pc := 5) (i := 2) (v := .ref r2) (ls' := [(0, .ref a0), (1, .int p1)]) rfl rfl (by decide) rfl dX11_meanWidth_5 ?_
  refine kz_iconst (pc := 6) (v := 0) (by decide) dX11_meanWidth_6 ?_
  refine kz_istore_n (pc := 7) (i := 3) (ls' := [(2, .ref r2), (0, .ref a0), (1, .int p1)]) rfl (by decide) rfl dX11_meanWidth_7 ?_
  refine kz_iconst (pc := 8) (v := 0) (by decide) dX11_meanWidth_8 ?_
  refine kz_istore (pc := 9) (i := 4) (ls' := [(3, .int 0), (2, .ref r2), (0, .ref a0), (1, .int p1)]) (by decide) rfl dX11_meanWidth_9 ?_
  refine kz_sub [2, 1, 0] rfl ?_
  exact h
theorem rX11_meanWidth_11 {G : kz_G} {d : Nat} {mc ms : Nat} {Qr : Option Value → kz_M → Prop} {Qx : String → kz_M → Prop} {x2 : Nat} {x3 : Int32} {x4 : Int32}  {M : kz_M} {c sl : Nat} (hc : c ≤ mc) (hs : sl ≤ ms) (h : (∃ fs16, (M).1 x2 = some (.inl (9, fs16))) ∧ kz_C G (d + 7) 0 0 mX10_size [.ref x2] M (fun v M1 => ∃ r2 : Int32, v = some (.int r2) ∧ ((r2 ≤ x4 → (∃ fs11, (M1).1 x2 = some (.inl (9, fs11))) ∧ kz_C G (d + 7) 0 0 mX10_size [.ref x2] M1 (fun v M4 => ∃ r5 : Int32, v = some (.int r5) ∧ ((¬ r5 = 0 → (∃ fs10, (M4).1 x2 = some (.inl (9, fs10))) ∧ kz_C G (d + 7) 0 0 mX10_size [.ref x2] M4 (fun v M7 => ∃ r8 : Int32, v = some (.int r8) ∧ (vf_n64 (FP.ddiv (FP.i2d x3) (FP.i2d r8)) ∧ (Qr (some (.double (FP.ddiv (FP.i2d x3) (FP.i2d r8)))) M7))) Qx) ∧ (r5 = 0 → Qr (some (.double FP.dconst0)) M4))) Qx) ∧ (¬ r2 ≤ x4 → (∃ fs15, (M1).1 x2 = some (.inl (9, fs15))) ∧ kz_C G (d + 7) 0 0 mX10_widthOf [.ref x2, .int x4] M1 (fun v M12 => ∃ r13 : Int32, v = some (.int r13) ∧ (zX11_meanWidth_11 G d mc ms Qr Qx x2 (x3 + r13) (x4 + 1) M12 c sl)) Qx))) Qx) : zX11_meanWidth_11 G d mc ms Qr Qx x2 x3 x4  M c sl := by
  show kz_Z G (d + 8) mc ms mX11_meanWidth Qr Qx 11 [(2, .ref x2), (3, .int x3), (4, .int x4)] [] M c sl
  refine kz_iload (pc := 11) 2 (i := 4) rfl dX11_meanWidth_11 ?_
  refine kz_aload_n (pc := 13) 0 (v := .ref x2) (i := 2) rfl rfl rfl dX11_meanWidth_13 ?_
  obtain ⟨⟨fs16, he⟩, h⟩ := h
  refine kz_callV (pc := 14) (μ' := mX10_size) (ci := 9) (q := (RX10, TX10, 4)) (b := x2) (d' := d + 7) (mc' := 0) (ms' := 0) (As := []) (st := [.int x4]) (c := c) (sl := sl) kmX10_size kw_750 (by omega) rfl (Nat.le_of_ble_eq_true rfl) he rfl rfl hc hs dX11_meanWidth_14 (fun E M9 hx => kz_Tout rfl hc hs hx) (kz_Cmono (fun v M1 h => ?_) (fun _ _ h => h) h)
  obtain ⟨r2, rfl, h⟩ := h
  show kz_Z G (d + 8) mc ms mX11_meanWidth Qr Qx 17 [(2, .ref x2), (3, .int x3), (4, .int x4)] [.int r2, .int x4] M1 c sl
  refine kz_icmp_ge (pc := 17) (tgt := 35) (by decide) dX11_meanWidth_17 (fun hb => ?_) (fun hb => ?_)
  · replace h := h.1 hb
    refine kz_aload_n (pc := 35) 0 (v := .ref x2) (i := 2) rfl rfl rfl dX11_meanWidth_35 ?_
    obtain ⟨⟨fs11, he⟩, h⟩ := h
    refine kz_callV (pc := 36) (μ' := mX10_size) (ci := 9) (q := (RX10, TX10, 4)) (b := x2) (d' := d + 7) (mc' := 0) (ms' := 0) (As := []) (st := []) (c := c) (sl := sl) kmX10_size kw_750 (by omega) rfl (Nat.le_of_ble_eq_true rfl) he rfl rfl hc hs dX11_meanWidth_36 (fun E M9 hx => kz_Tout rfl hc hs hx) (kz_Cmono (fun v M4 h => ?_) (fun _ _ h => h) h)
    obtain ⟨r5, rfl, h⟩ := h
    show kz_Z G (d + 8) mc ms mX11_meanWidth Qr Qx 39 [(2, .ref x2), (3, .int x3), (4, .int x4)] [.int r5] M4 c sl
    refine kz_if_ne (pc := 39) (tgt := 46) (by decide) dX11_meanWidth_39 (fun hb => ?_) (fun hb => ?_)
    · replace h := h.1 hb
      refine kz_iload_n (pc := 46) 1 (i := 3) rfl rfl dX11_meanWidth_46 ?_
      refine kz_i2d (pc := 47) dX11_meanWidth_47 ?_
      refine kz_aload_n (pc := 48) 0 (v := .ref x2) (i := 2) rfl rfl rfl dX11_meanWidth_48 ?_
      obtain ⟨⟨fs10, he⟩, h⟩ := h
      refine kz_callV (pc := 49) (μ' := mX10_size) (ci := 9) (q := (RX10, TX10, 4)) (b := x2) (d' := d + 7) (mc' := 0) (ms' := 0) (As := []) (st := [.double (FP.i2d x3)]) (c := c) (sl := sl) kmX10_size kw_750 (by omega) rfl (Nat.le_of_ble_eq_true rfl) he rfl rfl hc hs dX11_meanWidth_49 (fun E M9 hx => kz_Tout rfl hc hs hx) (kz_Cmono (fun v M7 h => ?_) (fun _ _ h => h) h)
      obtain ⟨r8, rfl, h⟩ := h
      show kz_Z G (d + 8) mc ms mX11_meanWidth Qr Qx 52 [(2, .ref x2), (3, .int x3), (4, .int x4)] [.int r8, .double (FP.i2d x3)] M7 c sl
      refine kz_i2d (pc := 52) dX11_meanWidth_52 ?_
      obtain ⟨hz, h⟩ := h
      refine kz_ddiv (pc := 53) hz dX11_meanWidth_53 ?_
      exact kz_dret (pc := 54) rfl hc hs dX11_meanWidth_54 h
    · replace h := h.2 hb
      refine kz_dconst0 (pc := 42) dX11_meanWidth_42 ?_
      refine kz_goto (pc := 43) (tgt := 54) (by decide) dX11_meanWidth_43 ?_
      exact kz_dret (pc := 54) rfl hc hs dX11_meanWidth_54 h
  · replace h := h.2 hb
    refine kz_iload_n (pc := 20) 1 (i := 3) rfl rfl dX11_meanWidth_20 ?_
    refine kz_aload_n (pc := 21) 0 (v := .ref x2) (i := 2) rfl rfl rfl dX11_meanWidth_21 ?_
    refine kz_iload (pc := 22) 2 (i := 4) rfl dX11_meanWidth_22 ?_
    obtain ⟨⟨fs15, he⟩, h⟩ := h
    refine kz_callV (pc := 24) (μ' := mX10_widthOf) (ci := 9) (q := (RX10, TX10, 4)) (b := x2) (d' := d + 7) (mc' := 0) (ms' := 0) (As := [.int x4]) (st := [.int x3]) (c := c) (sl := sl) kmX10_widthOf kw_842 (by omega) rfl (Nat.le_of_ble_eq_true rfl) he rfl rfl hc hs dX11_meanWidth_24 (fun E M9 hx => kz_Tout rfl hc hs hx) (kz_Cmono (fun v M12 h => ?_) (fun _ _ h => h) h)
    obtain ⟨r13, rfl, h⟩ := h
    show kz_Z G (d + 8) mc ms mX11_meanWidth Qr Qx 27 [(2, .ref x2), (3, .int x3), (4, .int x4)] [.int r13, .int x3] M12 c sl
    refine kz_iadd (pc := 27) dX11_meanWidth_27 ?_
    refine kz_istore_n (pc := 28) (i := 3) (ls' := [(2, .ref x2), (4, .int x4)]) rfl (by decide) rfl dX11_meanWidth_28 ?_
    refine kz_iinc (pc := 29) 2 (i := 4) (v := x4 + 1) (ls' := [(3, .int (x3 + r13)), (2, .ref x2)]) rfl (congrArg (fun z => x4 + z) (by decide)) (by decide) rfl dX11_meanWidth_29 ?_
    refine kz_goto (pc := 32) (tgt := 11) (by decide) dX11_meanWidth_32 ?_
    refine kz_sub [2, 1, 0] rfl ?_
    exact h
theorem dX11_caughtShare_0 : decode cX11_caughtShare 0 = .ok (.aload_n 0, 1) := by decide +kernel
theorem dX11_caughtShare_1 : decode cX11_caughtShare 1 = .ok (.iload_n 1, 1) := by decide +kernel
theorem dX11_caughtShare_2 : decode cX11_caughtShare 2 = .ok (.invokevirtual 148, 3) := by decide +kernel
theorem dX11_caughtShare_5 : decode cX11_caughtShare 5 = .ok (.aload_n 0, 1) := by decide +kernel
theorem dX11_caughtShare_6 : decode cX11_caughtShare 6 = .ok (.getfield 26, 3) := by decide +kernel
theorem dX11_caughtShare_9 : decode cX11_caughtShare 9 = .ok (.iload_n 1, 1) := by decide +kernel
theorem dX11_caughtShare_10 : decode cX11_caughtShare 10 = .ok (.iconst 0, 1) := by decide +kernel
theorem dX11_caughtShare_11 : decode cX11_caughtShare 11 = .ok (.invokevirtual 110, 3) := by decide +kernel
theorem dX11_caughtShare_14 : decode cX11_caughtShare 14 = .ok (.istore_n 2, 1) := by decide +kernel
theorem dX11_caughtShare_15 : decode cX11_caughtShare 15 = .ok (.aload_n 0, 1) := by decide +kernel
theorem dX11_caughtShare_16 : decode cX11_caughtShare 16 = .ok (.getfield 26, 3) := by decide +kernel
theorem dX11_caughtShare_19 : decode cX11_caughtShare 19 = .ok (.iload_n 1, 1) := by decide +kernel
theorem dX11_caughtShare_20 : decode cX11_caughtShare 20 = .ok (.iconst 2, 1) := by decide +kernel
theorem dX11_caughtShare_21 : decode cX11_caughtShare 21 = .ok (.invokevirtual 110, 3) := by decide +kernel
theorem dX11_caughtShare_24 : decode cX11_caughtShare 24 = .ok (.istore_n 3, 1) := by decide +kernel
theorem dX11_caughtShare_25 : decode cX11_caughtShare 25 = .ok (.iload_n 2, 1) := by decide +kernel
theorem dX11_caughtShare_26 : decode cX11_caughtShare 26 = .ok (.ifCond .ne 7, 3) := by decide +kernel
theorem dX11_caughtShare_29 : decode cX11_caughtShare 29 = .ok (.fconst 0, 1) := by decide +kernel
theorem dX11_caughtShare_30 : decode cX11_caughtShare 30 = .ok (.goto 8, 3) := by decide +kernel
theorem dX11_caughtShare_33 : decode cX11_caughtShare 33 = .ok (.iload_n 3, 1) := by decide +kernel
theorem dX11_caughtShare_34 : decode cX11_caughtShare 34 = .ok (.i2f, 1) := by decide +kernel
theorem dX11_caughtShare_35 : decode cX11_caughtShare 35 = .ok (.iload_n 2, 1) := by decide +kernel
theorem dX11_caughtShare_36 : decode cX11_caughtShare 36 = .ok (.i2f, 1) := by decide +kernel
theorem dX11_caughtShare_37 : decode cX11_caughtShare 37 = .ok (.fdiv, 1) := by decide +kernel
theorem dX11_caughtShare_38 : decode cX11_caughtShare 38 = .ok (.freturn, 1) := by decide +kernel
theorem rX11_caughtShare_0 {G : kz_G} {d : Nat} {mc ms : Nat} {Qr : Option Value → kz_M → Prop} {Qx : String → kz_M → Prop} {a0 : Nat} {p1 : Int32}  {M : kz_M} (h : (∃ fs16, (M).1 a0 = some (.inl (10, fs16))) ∧ ∃ mc3 ms3, 0 + mc3 ≤ mc ∧ 0 + ms3 ≤ ms ∧ kz_C G (d + 7) mc3 ms3 mX11_checkWriter [.ref a0, .int p1] M (fun v M1 => v = none ∧ (∃ fs4 v5, (M1).1 a0 = some (.inl (10, fs4)) ∧ fs4[2]? = some (.ref v5) ∧ ((∃ fs15, (M1).1 v5 = some (.inl (8, fs15))) ∧ kz_C G (d + 7) 0 0 mX9_linesOf [.ref v5, .int p1, .int 0] M1 (fun v M6 => ∃ r7 : Int32, v = some (.int r7) ∧ (∃ fs9 v10, (M6).1 a0 = some (.inl (10, fs9)) ∧ fs9[2]? = some (.ref v10) ∧ ((∃ fs14, (M6).1 v10 = some (.inl (8, fs14))) ∧ kz_C G (d + 7) 0 0 mX9_linesOf [.ref v10, .int p1, .int 2] M6 (fun v M11 => ∃ r12 : Int32, v = some (.int r12) ∧ ((¬ r7 = 0 → vf_n32 (FP.fdiv (FP.i2f r12) (FP.i2f r7)) ∧ (Qr (some (.float (FP.fdiv (FP.i2f r12) (FP.i2f r7)))) M11)) ∧ (r7 = 0 → Qr (some (.float FP.fconst0)) M11))) Qx))) Qx))) Qx) : kz_C G (d + 8) mc ms mX11_caughtShare [.ref a0, .int p1] M Qr Qx := by
  refine kz_enter (n := 1) kmX11_caughtShare.1 (Nat.le_of_ble_eq_true rfl) (ls := [(0, .ref a0), (1, .int p1)]) rfl ?_
  refine kz_aload_n (pc := 0) 0 (v := .ref a0) (i := 0) rfl rfl rfl dX11_caughtShare_0 ?_
  refine kz_iload_n (pc := 1) 1 (i := 1) rfl rfl dX11_caughtShare_1 ?_
  obtain ⟨⟨fs16, he⟩, h⟩ := h
  obtain ⟨mc3, ms3, hc3, hs3, h⟩ := h
  refine kz_callV (pc := 2) (μ' := mX11_checkWriter) (ci := 10) (q := (RX11, TX11, 10)) (b := a0) (d' := d + 7) (mc' := mc3) (ms' := ms3) (As := [.int p1]) (st := []) (c := 0) (sl := 0) kmX11_checkWriter kw_641 (by omega) rfl (Nat.le_of_ble_eq_true rfl) he rfl rfl hc3 hs3 dX11_caughtShare_2 (fun E M9 hx => kz_Tout rfl hc3 hs3 hx) (kz_Cmono (fun v M1 h => ?_) (fun _ _ h => h) h)
  obtain ⟨rfl, h⟩ := h
  show kz_Z G (d + 8) mc ms mX11_caughtShare Qr Qx 5 [(0, .ref a0), (1, .int p1)] [] M1 (0 + mc3) (0 + ms3)
  refine kz_aload_n (pc := 5) 0 (v := .ref a0) (i := 0) rfl rfl rfl dX11_caughtShare_5 ?_
  obtain ⟨fs4, v5, hM, hv, h⟩ := h
  refine kz_getf (pc := 6) (k := 2) kcX11 hM hv (by decide) kw_277 dX11_caughtShare_6 ?_
  refine kz_iload_n (pc := 9) 1 (i := 1) rfl rfl dX11_caughtShare_9 ?_
  refine kz_iconst (pc := 10) (v := 0) (by decide) dX11_caughtShare_10 ?_
  obtain ⟨⟨fs15, he⟩, h⟩ := h
  refine kz_callV (pc := 11) (μ' := mX9_linesOf) (ci := 8) (q := (RX9, TX9, 10)) (b := v5) (d' := d + 7) (mc' := 0) (ms' := 0) (As := [.int p1, .int 0]) (st := []) (c := 0 + mc3) (sl := 0 + ms3) kmX9_linesOf kw_521 (by omega) rfl (Nat.le_of_ble_eq_true rfl) he rfl rfl hc3 hs3 dX11_caughtShare_11 (fun E M9 hx => kz_Tout rfl hc3 hs3 hx) (kz_Cmono (fun v M6 h => ?_) (fun _ _ h => h) h)
  obtain ⟨r7, rfl, h⟩ := h
  show kz_Z G (d + 8) mc ms mX11_caughtShare Qr Qx 14 [(0, .ref a0), (1, .int p1)] [.int r7] M6 (0 + mc3) (0 + ms3)
  refine kz_istore_n (pc := 14) (i := 2) (ls' := [(0, .ref a0), (1, .int p1)]) rfl (by decide) rfl dX11_caughtShare_14 ?_
  refine kz_aload_n (pc := 15) 1 (v := .ref a0) (i := 0) rfl rfl rfl dX11_caughtShare_15 ?_
  obtain ⟨fs9, v10, hM, hv, h⟩ := h
  refine kz_getf (pc := 16) (k := 2) kcX11 hM hv (by decide) kw_277 dX11_caughtShare_16 ?_
  refine kz_iload_n (pc := 19) 2 (i := 1) rfl rfl dX11_caughtShare_19 ?_
  refine kz_iconst (pc := 20) (v := 2) (by decide) dX11_caughtShare_20 ?_
  obtain ⟨⟨fs14, he⟩, h⟩ := h
  refine kz_callV (pc := 21) (μ' := mX9_linesOf) (ci := 8) (q := (RX9, TX9, 10)) (b := v10) (d' := d + 7) (mc' := 0) (ms' := 0) (As := [.int p1, .int 2]) (st := []) (c := 0 + mc3) (sl := 0 + ms3) kmX9_linesOf kw_521 (by omega) rfl (Nat.le_of_ble_eq_true rfl) he rfl rfl hc3 hs3 dX11_caughtShare_21 (fun E M9 hx => kz_Tout rfl hc3 hs3 hx) (kz_Cmono (fun v M11 h => ?_) (fun _ _ h => h) h)
  obtain ⟨r12, rfl, h⟩ := h
  show kz_Z G (d + 8) mc ms mX11_caughtShare Qr Qx 24 [(2, .int r7), (0, .ref a0), (1, .int p1)] [.int r12] M11 (0 + mc3) (0 + ms3)
  refine kz_istore_n (pc := 24) (i := 3) (ls' := [(2, .int r7), (0, .ref a0), (1, .int p1)]) rfl (by decide) rfl dX11_caughtShare_24 ?_
  refine kz_iload_n (pc := 25) 1 (i := 2) rfl rfl dX11_caughtShare_25 ?_
  refine kz_if_ne (pc := 26) (tgt := 33) (by decide) dX11_caughtShare_26 (fun hb => ?_) (fun hb => ?_)
  · replace h := h.1 hb
    refine kz_iload_n (pc := 33) 0 (i := 3) rfl rfl dX11_caughtShare_33 ?_
    refine kz_i2f (pc := 34) dX11_caughtShare_34 ?_
    refine kz_iload_n (pc := 35) 1 (i := 2) rfl rfl dX11_caughtShare_35 ?_
    refine kz_i2f (pc := 36) dX11_caughtShare_36 ?_
    obtain ⟨hz, h⟩ := h
    refine kz_fdiv (pc := 37) hz dX11_caughtShare_37 ?_
    exact kz_fret (pc := 38) rfl hc3 hs3 dX11_caughtShare_38 h
  · replace h := h.2 hb
    refine kz_fconst0 (pc := 29) dX11_caughtShare_29 ?_
    refine kz_goto (pc := 30) (tgt := 38) (by decide) dX11_caughtShare_30 ?_
    exact kz_fret (pc := 38) rfl hc3 hs3 dX11_caughtShare_38 h
theorem dX11_linesIf_0 : decode cX11_linesIf 0 = .ok (.aload_n 0, 1) := by decide +kernel
theorem dX11_linesIf_1 : decode cX11_linesIf 1 = .ok (.iload_n 1, 1) := by decide +kernel
theorem dX11_linesIf_2 : decode cX11_linesIf 2 = .ok (.invokevirtual 165, 3) := by decide +kernel
theorem dX11_linesIf_5 : decode cX11_linesIf 5 = .ok (.astore_n 3, 1) := by decide +kernel
theorem dX11_linesIf_6 : decode cX11_linesIf 6 = .ok (.aload_n 0, 1) := by decide +kernel
theorem dX11_linesIf_7 : decode cX11_linesIf 7 = .ok (.iconst 0, 1) := by decide +kernel
theorem dX11_linesIf_8 : decode cX11_linesIf 8 = .ok (.iload_n 2, 1) := by decide +kernel
theorem dX11_linesIf_9 : decode cX11_linesIf 9 = .ok (.invokevirtual 289, 3) := by decide +kernel
theorem dX11_linesIf_12 : decode cX11_linesIf 12 = .ok (.aload_n 3, 1) := by decide +kernel
theorem dX11_linesIf_13 : decode cX11_linesIf 13 = .ok (.getfield 174, 3) := by decide +kernel
theorem dX11_linesIf_16 : decode cX11_linesIf 16 = .ok (.iload_n 2, 1) := by decide +kernel
theorem dX11_linesIf_17 : decode cX11_linesIf 17 = .ok (.invokevirtual 293, 3) := by decide +kernel
theorem dX11_linesIf_20 : decode cX11_linesIf 20 = .ok (.ireturn, 1) := by decide +kernel
theorem rX11_linesIf_0 {G : kz_G} {d : Nat} {mc ms : Nat} {Qr : Option Value → kz_M → Prop} {Qx : String → kz_M → Prop} {a0 : Nat} {p1 : Int32} {p2 : Int32}  {M : kz_M} (h : (∃ fs14, (M).1 a0 = some (.inl (10, fs14))) ∧ ∃ mc3 ms3, 0 + mc3 ≤ mc ∧ 0 + ms3 ≤ ms ∧ kz_C G (d + 7) mc3 ms3 mX11_workOrThrow [.ref a0, .int p1] M (fun v M1 => ∃ r2 : Nat, v = some (.ref r2) ∧ ((∃ fs13, (M1).1 a0 = some (.inl (10, fs13))) ∧ ∃ mc6 ms6, 0 + mc3 + mc6 ≤ mc ∧ 0 + ms3 + ms6 ≤ ms ∧ kz_C G (d + 7) mc6 ms6 mX11_checkValue [.ref a0, .int 0, .int p2] M1 (fun v M4 => v = none ∧ (∃ fs7 v8, (M4).1 r2 = some (.inl (9, fs7)) ∧ fs7[2]? = some (.ref v8) ∧ ((∃ fs12, (M4).1 v8 = some (.inl (6, fs12))) ∧ kz_C G (d + 7) 0 0 mX6_linesBy [.ref v8, .int p2] M4 (fun v M9 => ∃ r10 : Int32, v = some (.int r10) ∧ (Qr (some (.int r10)) M9)) Qx))) Qx)) Qx) : kz_C G (d + 8) mc ms mX11_linesIf [.ref a0, .int p1, .int p2] M Qr Qx := by
  refine kz_enter (n := 2) kmX11_linesIf.1 (Nat.le_of_ble_eq_true rfl) (ls := [(0, .ref a0), (1, .int p1), (2, .int p2)]) rfl ?_
  refine kz_aload_n (pc := 0) 0 (v := .ref a0) (i := 0) rfl rfl rfl dX11_linesIf_0 ?_
  refine kz_iload_n (pc := 1) 1 (i := 1) rfl rfl dX11_linesIf_1 ?_
  obtain ⟨⟨fs14, he⟩, h⟩ := h
  obtain ⟨mc3, ms3, hc3, hs3, h⟩ := h
  refine kz_callV (pc := 2) (μ' := mX11_workOrThrow) (ci := 10) (q := (RX11, TX11, 10)) (b := a0) (d' := d + 7) (mc' := mc3) (ms' := ms3) (As := [.int p1]) (st := []) (c := 0) (sl := 0) kmX11_workOrThrow kw_744 (by omega) rfl (Nat.le_of_ble_eq_true rfl) he rfl rfl hc3 hs3 dX11_linesIf_2 (fun E M9 hx => kz_Tout rfl hc3 hs3 hx) (kz_Cmono (fun v M1 h => ?_) (fun _ _ h => h) h)
  obtain ⟨r2, rfl, h⟩ := h
  show kz_Z G (d + 8) mc ms mX11_linesIf Qr Qx 5 [(0, .ref a0), (1, .int p1), (2, .int p2)] [.ref r2] M1 (0 + mc3) (0 + ms3)
  refine kz_astore_n (pc := 5) (i := 3) (v := .ref r2) (ls' := [(0, .ref a0), (1, .int p1), (2, .int p2)]) rfl rfl (by decide) rfl dX11_linesIf_5 ?_
  refine kz_aload_n (pc := 6) 1 (v := .ref a0) (i := 0) rfl rfl rfl dX11_linesIf_6 ?_
  refine kz_iconst (pc := 7) (v := 0) (by decide) dX11_linesIf_7 ?_
  refine kz_iload_n (pc := 8) 3 (i := 2) rfl rfl dX11_linesIf_8 ?_
  obtain ⟨⟨fs13, he⟩, h⟩ := h
  obtain ⟨mc6, ms6, hc6, hs6, h⟩ := h
  refine kz_callV (pc := 9) (μ' := mX11_checkValue) (ci := 10) (q := (RX11, TX11, 10)) (b := a0) (d' := d + 7) (mc' := mc6) (ms' := ms6) (As := [.int 0, .int p2]) (st := []) (c := 0 + mc3) (sl := 0 + ms3) kmX11_checkValue kw_913 (by omega) rfl (Nat.le_of_ble_eq_true rfl) he rfl rfl hc6 hs6 dX11_linesIf_9 (fun E M9 hx => kz_Tout rfl hc6 hs6 hx) (kz_Cmono (fun v M4 h => ?_) (fun _ _ h => h) h)
  obtain ⟨rfl, h⟩ := h
  show kz_Z G (d + 8) mc ms mX11_linesIf Qr Qx 12 [(3, .ref r2), (0, .ref a0), (1, .int p1), (2, .int p2)] [] M4 (0 + mc3 + mc6) (0 + ms3 + ms6)
  refine kz_aload_n (pc := 12) 0 (v := .ref r2) (i := 3) rfl rfl rfl dX11_linesIf_12 ?_
  obtain ⟨fs7, v8, hM, hv, h⟩ := h
  refine kz_getf (pc := 13) (k := 2) kcX10 hM hv (by decide) kw_1076 dX11_linesIf_13 ?_
  refine kz_iload_n (pc := 16) 3 (i := 2) rfl rfl dX11_linesIf_16 ?_
  obtain ⟨⟨fs12, he⟩, h⟩ := h
  refine kz_callV (pc := 17) (μ' := mX6_linesBy) (ci := 6) (q := (RX6, TX6, 3)) (b := v8) (d' := d + 7) (mc' := 0) (ms' := 0) (As := [.int p2]) (st := []) (c := 0 + mc3 + mc6) (sl := 0 + ms3 + ms6) kmX6_linesBy kw_921 (by omega) rfl (Nat.le_of_ble_eq_true rfl) he rfl rfl hc6 hs6 dX11_linesIf_17 (fun E M9 hx => kz_Tout rfl hc6 hs6 hx) (kz_Cmono (fun v M9 h => ?_) (fun _ _ h => h) h)
  obtain ⟨r10, rfl, h⟩ := h
  show kz_Z G (d + 8) mc ms mX11_linesIf Qr Qx 20 [(3, .ref r2), (0, .ref a0), (1, .int p1), (2, .int p2)] [.int r10] M9 (0 + mc3 + mc6) (0 + ms3 + ms6)
  exact kz_iret (pc := 20) rfl hc6 hs6 dX11_linesIf_20 h
theorem dX11_payIf_0 : decode cX11_payIf 0 = .ok (.aload_n 0, 1) := by decide +kernel
theorem dX11_payIf_1 : decode cX11_payIf 1 = .ok (.iload_n 1, 1) := by decide +kernel
theorem dX11_payIf_2 : decode cX11_payIf 2 = .ok (.invokevirtual 165, 3) := by decide +kernel
theorem dX11_payIf_5 : decode cX11_payIf 5 = .ok (.astore_n 3, 1) := by decide +kernel
theorem dX11_payIf_6 : decode cX11_payIf 6 = .ok (.aload_n 0, 1) := by decide +kernel
theorem dX11_payIf_7 : decode cX11_payIf 7 = .ok (.iconst 0, 1) := by decide +kernel
theorem dX11_payIf_8 : decode cX11_payIf 8 = .ok (.iload_n 2, 1) := by decide +kernel
theorem dX11_payIf_9 : decode cX11_payIf 9 = .ok (.invokevirtual 289, 3) := by decide +kernel
theorem dX11_payIf_12 : decode cX11_payIf 12 = .ok (.aload_n 0, 1) := by decide +kernel
theorem dX11_payIf_13 : decode cX11_payIf 13 = .ok (.aload_n 3, 1) := by decide +kernel
theorem dX11_payIf_14 : decode cX11_payIf 14 = .ok (.getfield 174, 3) := by decide +kernel
theorem dX11_payIf_17 : decode cX11_payIf 17 = .ok (.iload_n 2, 1) := by decide +kernel
theorem dX11_payIf_18 : decode cX11_payIf 18 = .ok (.invokevirtual 296, 3) := by decide +kernel
theorem dX11_payIf_21 : decode cX11_payIf 21 = .ok (.ireturn, 1) := by decide +kernel
theorem rX11_payIf_0 {G : kz_G} {d : Nat} {mc ms : Nat} {Qr : Option Value → kz_M → Prop} {Qx : String → kz_M → Prop} {a0 : Nat} {p1 : Int32} {p2 : Int32}  {M : kz_M} (h : (∃ fs14, (M).1 a0 = some (.inl (10, fs14))) ∧ ∃ mc3 ms3, 0 + mc3 ≤ mc ∧ 0 + ms3 ≤ ms ∧ kz_C G (d + 7) mc3 ms3 mX11_workOrThrow [.ref a0, .int p1] M (fun v M1 => ∃ r2 : Nat, v = some (.ref r2) ∧ ((∃ fs13, (M1).1 a0 = some (.inl (10, fs13))) ∧ ∃ mc6 ms6, 0 + mc3 + mc6 ≤ mc ∧ 0 + ms3 + ms6 ≤ ms ∧ kz_C G (d + 7) mc6 ms6 mX11_checkValue [.ref a0, .int 0, .int p2] M1 (fun v M4 => v = none ∧ (∃ fs7 v8, (M4).1 r2 = some (.inl (9, fs7)) ∧ fs7[2]? = some (.ref v8) ∧ ((∃ fs12, (M4).1 a0 = some (.inl (10, fs12))) ∧ kz_C G (d + 7) 0 0 mX11_payWith [.ref a0, .ref v8, .int p2] M4 (fun v M9 => ∃ r10 : Int32, v = some (.int r10) ∧ (Qr (some (.int r10)) M9)) Qx))) Qx)) Qx) : kz_C G (d + 8) mc ms mX11_payIf [.ref a0, .int p1, .int p2] M Qr Qx := by
  refine kz_enter (n := 2) kmX11_payIf.1 (Nat.le_of_ble_eq_true rfl) (ls := [(0, .ref a0), (1, .int p1), (2, .int p2)]) rfl ?_
  refine kz_aload_n (pc := 0) 0 (v := .ref a0) (i := 0) rfl rfl rfl dX11_payIf_0 ?_
  refine kz_iload_n (pc := 1) 1 (i := 1) rfl rfl dX11_payIf_1 ?_
  obtain ⟨⟨fs14, he⟩, h⟩ := h
  obtain ⟨mc3, ms3, hc3, hs3, h⟩ := h
  refine kz_callV (pc := 2) (μ' := mX11_workOrThrow) (ci := 10) (q := (RX11, TX11, 10)) (b := a0) (d' := d + 7) (mc' := mc3) (ms' := ms3) (As := [.int p1]) (st := []) (c := 0) (sl := 0) kmX11_workOrThrow kw_744 (by omega) rfl (Nat.le_of_ble_eq_true rfl) he rfl rfl hc3 hs3 dX11_payIf_2 (fun E M9 hx => kz_Tout rfl hc3 hs3 hx) (kz_Cmono (fun v M1 h => ?_) (fun _ _ h => h) h)
  obtain ⟨r2, rfl, h⟩ := h
  show kz_Z G (d + 8) mc ms mX11_payIf Qr Qx 5 [(0, .ref a0), (1, .int p1), (2, .int p2)] [.ref r2] M1 (0 + mc3) (0 + ms3)
  refine kz_astore_n (pc := 5) (i := 3) (v := .ref r2) (ls' := [(0, .ref a0), (1, .int p1), (2, .int p2)]) rfl rfl (by decide) rfl dX11_payIf_5 ?_
  refine kz_aload_n (pc := 6) 1 (v := .ref a0) (i := 0) rfl rfl rfl dX11_payIf_6 ?_
  refine kz_iconst (pc := 7) (v := 0) (by decide) dX11_payIf_7 ?_
  refine kz_iload_n (pc := 8) 3 (i := 2) rfl rfl dX11_payIf_8 ?_
  obtain ⟨⟨fs13, he⟩, h⟩ := h
  obtain ⟨mc6, ms6, hc6, hs6, h⟩ := h
  refine kz_callV (pc := 9) (μ' := mX11_checkValue) (ci := 10) (q := (RX11, TX11, 10)) (b := a0) (d' := d + 7) (mc' := mc6) (ms' := ms6) (As := [.int 0, .int p2]) (st := []) (c := 0 + mc3) (sl := 0 + ms3) kmX11_checkValue kw_913 (by omega) rfl (Nat.le_of_ble_eq_true rfl) he rfl rfl hc6 hs6 dX11_payIf_9 (fun E M9 hx => kz_Tout rfl hc6 hs6 hx) (kz_Cmono (fun v M4 h => ?_) (fun _ _ h => h) h)
  obtain ⟨rfl, h⟩ := h
  show kz_Z G (d + 8) mc ms mX11_payIf Qr Qx 12 [(3, .ref r2), (0, .ref a0), (1, .int p1), (2, .int p2)] [] M4 (0 + mc3 + mc6) (0 + ms3 + ms6)
  refine kz_aload_n (pc := 12) 1 (v := .ref a0) (i := 0) rfl rfl rfl dX11_payIf_12 ?_
  refine kz_aload_n (pc := 13) 0 (v := .ref r2) (i := 3) rfl rfl rfl dX11_payIf_13 ?_
  obtain ⟨fs7, v8, hM, hv, h⟩ := h
  refine kz_getf (pc := 14) (k := 2) kcX10 hM hv (by decide) kw_1076 dX11_payIf_14 ?_
  refine kz_iload_n (pc := 17) 3 (i := 2) rfl rfl dX11_payIf_17 ?_
  obtain ⟨⟨fs12, he⟩, h⟩ := h
  refine kz_callV (pc := 18) (μ' := mX11_payWith) (ci := 10) (q := (RX11, TX11, 10)) (b := a0) (d' := d + 7) (mc' := 0) (ms' := 0) (As := [.ref v8, .int p2]) (st := []) (c := 0 + mc3 + mc6) (sl := 0 + ms3 + ms6) kmX11_payWith kw_943 (by omega) rfl (Nat.le_of_ble_eq_true rfl) he rfl rfl hc6 hs6 dX11_payIf_18 (fun E M9 hx => kz_Tout rfl hc6 hs6 hx) (kz_Cmono (fun v M9 h => ?_) (fun _ _ h => h) h)
  obtain ⟨r10, rfl, h⟩ := h
  show kz_Z G (d + 8) mc ms mX11_payIf Qr Qx 21 [(3, .ref r2), (0, .ref a0), (1, .int p1), (2, .int p2)] [.int r10] M9 (0 + mc3 + mc6) (0 + ms3 + ms6)
  exact kz_iret (pc := 21) rfl hc6 hs6 dX11_payIf_21 h
theorem dX11_bestMeasure_0 : decode cX11_bestMeasure 0 = .ok (.aload_n 0, 1) := by decide +kernel
theorem dX11_bestMeasure_1 : decode cX11_bestMeasure 1 = .ok (.iload_n 1, 1) := by decide +kernel
theorem dX11_bestMeasure_2 : decode cX11_bestMeasure 2 = .ok (.invokevirtual 165, 3) := by decide +kernel
theorem dX11_bestMeasure_5 : decode cX11_bestMeasure 5 = .ok (.astore_n 2, 1) := by decide +kernel
theorem dX11_bestMeasure_6 : decode cX11_bestMeasure 6 = .ok (.getstatic 300, 3) := by decide +kernel
theorem dX11_bestMeasure_9 : decode cX11_bestMeasure 9 = .ok (.getfield 306, 3) := by decide +kernel
theorem dX11_bestMeasure_12 : decode cX11_bestMeasure 12 = .ok (.istore_n 3, 1) := by decide +kernel
theorem dX11_bestMeasure_13 : decode cX11_bestMeasure 13 = .ok (.aload_n 0, 1) := by decide +kernel
theorem dX11_bestMeasure_14 : decode cX11_bestMeasure 14 = .ok (.aload_n 2, 1) := by decide +kernel
theorem dX11_bestMeasure_15 : decode cX11_bestMeasure 15 = .ok (.getfield 174, 3) := by decide +kernel
theorem dX11_bestMeasure_18 : decode cX11_bestMeasure 18 = .ok (.iload_n 3, 1) := by decide +kernel
theorem dX11_bestMeasure_19 : decode cX11_bestMeasure 19 = .ok (.invokevirtual 296, 3) := by decide +kernel
theorem dX11_bestMeasure_22 : decode cX11_bestMeasure 22 = .ok (.istore 4, 2) := by decide +kernel
theorem dX11_bestMeasure_24 : decode cX11_bestMeasure 24 = .ok (.iload_n 3, 1) := by decide +kernel
theorem dX11_bestMeasure_25 : decode cX11_bestMeasure 25 = .ok (.iconst 1, 1) := by decide +kernel
theorem dX11_bestMeasure_26 : decode cX11_bestMeasure 26 = .ok (.iadd, 1) := by decide +kernel
theorem dX11_bestMeasure_27 : decode cX11_bestMeasure 27 = .ok (.istore 5, 2) := by decide +kernel
theorem dX11_bestMeasure_29 : decode cX11_bestMeasure 29 = .ok (.iload 5, 2) := by decide +kernel
theorem dX11_bestMeasure_31 : decode cX11_bestMeasure 31 = .ok (.getstatic 300, 3) := by decide +kernel
theorem dX11_bestMeasure_34 : decode cX11_bestMeasure 34 = .ok (.getfield 309, 3) := by decide +kernel
theorem dX11_bestMeasure_37 : decode cX11_bestMeasure 37 = .ok (.if_icmp .gt 35, 3) := by decide +kernel
theorem dX11_bestMeasure_40 : decode cX11_bestMeasure 40 = .ok (.aload_n 0, 1) := by decide +kernel
theorem dX11_bestMeasure_41 : decode cX11_bestMeasure 41 = .ok (.aload_n 2, 1) := by decide +kernel
theorem dX11_bestMeasure_42 : decode cX11_bestMeasure 42 = .ok (.getfield 174, 3) := by decide +kernel
theorem dX11_bestMeasure_45 : decode cX11_bestMeasure 45 = .ok (.iload 5, 2) := by decide +kernel
theorem dX11_bestMeasure_47 : decode cX11_bestMeasure 47 = .ok (.invokevirtual 296, 3) := by decide +kernel
theorem dX11_bestMeasure_50 : decode cX11_bestMeasure 50 = .ok (.istore 6, 2) := by decide +kernel
theorem dX11_bestMeasure_52 : decode cX11_bestMeasure 52 = .ok (.iload 6, 2) := by decide +kernel
theorem dX11_bestMeasure_54 : decode cX11_bestMeasure 54 = .ok (.iload 4, 2) := by decide +kernel
theorem dX11_bestMeasure_56 : decode cX11_bestMeasure 56 = .ok (.if_icmp .le 10, 3) := by decide +kernel
theorem dX11_bestMeasure_59 : decode cX11_bestMeasure 59 = .ok (.iload 6, 2) := by decide +kernel
theorem dX11_bestMeasure_61 : decode cX11_bestMeasure 61 = .ok (.istore 4, 2) := by decide +kernel
theorem dX11_bestMeasure_63 : decode cX11_bestMeasure 63 = .ok (.iload 5, 2) := by decide +kernel
theorem dX11_bestMeasure_65 : decode cX11_bestMeasure 65 = .ok (.istore_n 3, 1) := by decide +kernel
theorem dX11_bestMeasure_66 : decode cX11_bestMeasure 66 = .ok (.iinc 5 1, 3) := by decide +kernel
theorem dX11_bestMeasure_69 : decode cX11_bestMeasure 69 = .ok (.goto (-40), 3) := by decide +kernel
theorem dX11_bestMeasure_72 : decode cX11_bestMeasure 72 = .ok (.iload_n 3, 1) := by decide +kernel
theorem dX11_bestMeasure_73 : decode cX11_bestMeasure 73 = .ok (.ireturn, 1) := by decide +kernel
def zX11_bestMeasure_29 (G : kz_G) (d mc ms : Nat) (Qr : Option Value → kz_M → Prop) (Qx : String → kz_M → Prop) (x0 : Nat) (x2 : Nat) (x3 : Int32) (x4 : Int32) (x5 : Int32)  (M : kz_M) (c sl : Nat) : Prop := kz_Z G (d + 8) mc ms mX11_bestMeasure Qr Qx 29 [(0, .ref x0), (2, .ref x2), (3, .int x3), (4, .int x4), (5, .int x5)] [] M c sl
theorem rX11_bestMeasure_0 {G : kz_G} {d : Nat} {mc ms : Nat} {Qr : Option Value → kz_M → Prop} {Qx : String → kz_M → Prop} {a0 : Nat} {p1 : Int32}  {M : kz_M} (hG : kz_stat G) (h : (∃ fs10, (M).1 a0 = some (.inl (10, fs10))) ∧ ∃ mc3 ms3, 0 + mc3 ≤ mc ∧ 0 + ms3 ≤ ms ∧ kz_C G (d + 7) mc3 ms3 mX11_workOrThrow [.ref a0, .int p1] M (fun v M1 => ∃ r2 : Nat, v = some (.ref r2) ∧ (∃ fs4 v5, (M1).1 r2 = some (.inl (9, fs4)) ∧ fs4[2]? = some (.ref v5) ∧ ((∃ fs9, (M1).1 a0 = some (.inl (10, fs9))) ∧ kz_C G (d + 7) 0 0 mX11_payWith [.ref a0, .ref v5, .int (kz_lo 0)] M1 (fun v M6 => ∃ r7 : Int32, v = some (.int r7) ∧ (zX11_bestMeasure_29 G d mc ms Qr Qx a0 r2 (kz_lo 0) r7 ((kz_lo 0) + 1) M6 (0 + mc3) (0 + ms3))) Qx))) Qx) : kz_C G (d + 8) mc ms mX11_bestMeasure [.ref a0, .int p1] M Qr Qx := by
  refine kz_enter (n := 1) kmX11_bestMeasure.1 (Nat.le_of_ble_eq_true rfl) (ls := [(0, .ref a0), (1, .int p1)]) rfl ?_
  refine kz_aload_n (pc := 0) 0 (v := .ref a0) (i := 0) rfl rfl rfl dX11_bestMeasure_0 ?_
  refine kz_iload_n (pc := 1) 1 (i := 1) rfl rfl dX11_bestMeasure_1 ?_
  obtain ⟨⟨fs10, he⟩, h⟩ := h
  obtain ⟨mc3, ms3, hc3, hs3, h⟩ := h
  refine kz_callV (pc := 2) (μ' := mX11_workOrThrow) (ci := 10) (q := (RX11, TX11, 10)) (b := a0) (d' := d + 7) (mc' := mc3) (ms' := ms3) (As := [.int p1]) (st := []) (c := 0) (sl := 0) kmX11_workOrThrow kw_744 (by omega) rfl (Nat.le_of_ble_eq_true rfl) he rfl rfl hc3 hs3 dX11_bestMeasure_2 (fun E M9 hx => kz_Tout rfl hc3 hs3 hx) (kz_Cmono (fun v M1 h => ?_) (fun _ _ h => h) h)
  obtain ⟨r2, rfl, h⟩ := h
  show kz_Z G (d + 8) mc ms mX11_bestMeasure Qr Qx 5 [(0, .ref a0), (1, .int p1)] [.ref r2] M1 (0 + mc3) (0 + ms3)
  refine kz_astore_n (pc := 5) (i := 2) (v := .ref r2) (ls' := [(0, .ref a0), (1, .int p1)]) rfl rfl (by decide) rfl dX11_bestMeasure_5 ?_
  refine kz_gets (pc := 6) (v := .retAddr 1) hG.2.2.2.2.2.2.1 kw_965 dX11_bestMeasure_6 ?_
  refine kz_sgetf (pc := 9) (v := .int (kz_lo 0)) (hG.2.2.2.2.2.1 0 (by decide)).1 kw_2061 dX11_bestMeasure_9 ?_
  refine kz_istore_n (pc := 12) (i := 3) (ls' := [(2, .ref r2), (0, .ref a0), (1, .int p1)]) rfl (by decide) rfl dX11_bestMeasure_12 ?_
  refine kz_aload_n (pc := 13) 2 (v := .ref a0) (i := 0) rfl rfl rfl dX11_bestMeasure_13 ?_
  refine kz_aload_n (pc := 14) 1 (v := .ref r2) (i := 2) rfl rfl rfl dX11_bestMeasure_14 ?_
  obtain ⟨fs4, v5, hM, hv, h⟩ := h
  refine kz_getf (pc := 15) (k := 2) kcX10 hM hv (by decide) kw_1076 dX11_bestMeasure_15 ?_
  refine kz_iload_n (pc := 18) 0 (i := 3) rfl rfl dX11_bestMeasure_18 ?_
  obtain ⟨⟨fs9, he⟩, h⟩ := h
  refine kz_callV (pc := 19) (μ' := mX11_payWith) (ci := 10) (q := (RX11, TX11, 10)) (b := a0) (d' := d + 7) (mc' := 0) (ms' := 0) (As := [.ref v5, .int (kz_lo 0)]) (st := []) (c := 0 + mc3) (sl := 0 + ms3) kmX11_payWith kw_943 (by omega) rfl (Nat.le_of_ble_eq_true rfl) he rfl rfl hc3 hs3 dX11_bestMeasure_19 (fun E M9 hx => kz_Tout rfl hc3 hs3 hx) (kz_Cmono (fun v M6 h => ?_) (fun _ _ h => h) h)
  obtain ⟨r7, rfl, h⟩ := h
  show kz_Z G (d + 8) mc ms mX11_bestMeasure Qr Qx 22 [(3, .int (kz_lo 0)), (2, .ref r2), (0, .ref a0), (1, .int p1)] [.int r7] M6 (0 + mc3) (0 + ms3)
  refine kz_istore (pc := 22) (i := 4) (ls' := [(3, .int (kz_lo 0)), (2, .ref r2), (0, .ref a0), (1, .int p1)]) (by decide) rfl dX11_bestMeasure_22 ?_
  refine kz_iload_n (pc := 24) 1 (i := 3) rfl rfl dX11_bestMeasure_24 ?_
  refine kz_iconst (pc := 25) (v := 1) (by decide) dX11_bestMeasure_25 ?_
  refine kz_iadd (pc := 26) dX11_bestMeasure_26 ?_
  refine kz_istore (pc := 27) (i := 5) (ls' := [(4, .int r7), (3, .int (kz_lo 0)), (2, .ref r2), (0, .ref a0), (1, .int p1)]) (by decide) rfl dX11_bestMeasure_27 ?_
  refine kz_sub [4, 3, 2, 1, 0] rfl ?_
  exact h
theorem rX11_bestMeasure_29 {G : kz_G} {d : Nat} {mc ms : Nat} {Qr : Option Value → kz_M → Prop} {Qx : String → kz_M → Prop} {x0 : Nat} {x2 : Nat} {x3 : Int32} {x4 : Int32} {x5 : Int32}  {M : kz_M} {c sl : Nat} (hc : c ≤ mc) (hs : sl ≤ ms) (hG : kz_stat G) (h : ((kz_hi 0) < x5 → Qr (some (.int x3)) M) ∧ (¬ (kz_hi 0) < x5 → ∃ fs1 v2, (M).1 x2 = some (.inl (9, fs1)) ∧ fs1[2]? = some (.ref v2) ∧ ((∃ fs6, (M).1 x0 = some (.inl (10, fs6))) ∧ kz_C G (d + 7) 0 0 mX11_payWith [.ref x0, .ref v2, .int x5] M (fun v M3 => ∃ r4 : Int32, v = some (.int r4) ∧ ((r4 ≤ x4 → zX11_bestMeasure_29 G d mc ms Qr Qx x0 x2 x3 x4 (x5 + 1) M3 c sl) ∧ (¬ r4 ≤ x4 → zX11_bestMeasure_29 G d mc ms Qr Qx x0 x2 x5 r4 (x5 + 1) M3 c sl))) Qx))) : zX11_bestMeasure_29 G d mc ms Qr Qx x0 x2 x3 x4 x5  M c sl := by
  show kz_Z G (d + 8) mc ms mX11_bestMeasure Qr Qx 29 [(0, .ref x0), (2, .ref x2), (3, .int x3), (4, .int x4), (5, .int x5)] [] M c sl
  refine kz_iload (pc := 29) 4 (i := 5) rfl dX11_bestMeasure_29 ?_
  refine kz_gets (pc := 31) (v := .retAddr 1) hG.2.2.2.2.2.2.1 kw_965 dX11_bestMeasure_31 ?_
  refine kz_sgetf (pc := 34) (v := .int (kz_hi 0)) (hG.2.2.2.2.2.1 0 (by decide)).2.1 kw_2062 dX11_bestMeasure_34 ?_
  refine kz_icmp_gt (pc := 37) (tgt := 72) (by decide) dX11_bestMeasure_37 (fun hb => ?_) (fun hb => ?_)
  · replace h := h.1 hb
    refine kz_iload_n (pc := 72) 2 (i := 3) rfl rfl dX11_bestMeasure_72 ?_
    exact kz_iret (pc := 73) rfl hc hs dX11_bestMeasure_73 h
  · replace h := h.2 hb
    refine kz_aload_n (pc := 40) 0 (v := .ref x0) (i := 0) rfl rfl rfl dX11_bestMeasure_40 ?_
    refine kz_aload_n (pc := 41) 1 (v := .ref x2) (i := 2) rfl rfl rfl dX11_bestMeasure_41 ?_
    obtain ⟨fs1, v2, hM, hv, h⟩ := h
    refine kz_getf (pc := 42) (k := 2) kcX10 hM hv (by decide) kw_1076 dX11_bestMeasure_42 ?_
    refine kz_iload (pc := 45) 4 (i := 5) rfl dX11_bestMeasure_45 ?_
    obtain ⟨⟨fs6, he⟩, h⟩ := h
    refine kz_callV (pc := 47) (μ' := mX11_payWith) (ci := 10) (q := (RX11, TX11, 10)) (b := x0) (d' := d + 7) (mc' := 0) (ms' := 0) (As := [.ref v2, .int x5]) (st := []) (c := c) (sl := sl) kmX11_payWith kw_943 (by omega) rfl (Nat.le_of_ble_eq_true rfl) he rfl rfl hc hs dX11_bestMeasure_47 (fun E M9 hx => kz_Tout rfl hc hs hx) (kz_Cmono (fun v M3 h => ?_) (fun _ _ h => h) h)
    obtain ⟨r4, rfl, h⟩ := h
    show kz_Z G (d + 8) mc ms mX11_bestMeasure Qr Qx 50 [(0, .ref x0), (2, .ref x2), (3, .int x3), (4, .int x4), (5, .int x5)] [.int r4] M3 c sl
    refine kz_istore (pc := 50) (i := 6) (ls' := [(0, .ref x0), (2, .ref x2), (3, .int x3), (4, .int x4), (5, .int x5)]) (by decide) rfl dX11_bestMeasure_50 ?_
    refine kz_iload (pc := 52) 0 (i := 6) rfl dX11_bestMeasure_52 ?_
    refine kz_iload (pc := 54) 4 (i := 4) rfl dX11_bestMeasure_54 ?_
    refine kz_icmp_le (pc := 56) (tgt := 66) (by decide) dX11_bestMeasure_56 (fun hb => ?_) (fun hb => ?_)
    · replace h := h.1 hb
      refine kz_iinc (pc := 66) 5 (i := 5) (v := x5 + 1) (ls' := [(6, .int r4), (0, .ref x0), (2, .ref x2), (3, .int x3), (4, .int x4)]) rfl (congrArg (fun z => x5 + z) (by decide)) (by decide) rfl dX11_bestMeasure_66 ?_
      refine kz_goto (pc := 69) (tgt := 29) (by decide) dX11_bestMeasure_69 ?_
      refine kz_sub [2, 3, 4, 5, 0] rfl ?_
      exact h
    · replace h := h.2 hb
      refine kz_iload (pc := 59) 0 (i := 6) rfl dX11_bestMeasure_59 ?_
      refine kz_istore (pc := 61) (i := 4) (ls' := [(6, .int r4), (0, .ref x0), (2, .ref x2), (3, .int x3), (5, .int x5)]) (by decide) rfl dX11_bestMeasure_61 ?_
      refine kz_iload (pc := 63) 5 (i := 5) rfl dX11_bestMeasure_63 ?_
      refine kz_istore_n (pc := 65) (i := 3) (ls' := [(4, .int r4), (6, .int r4), (0, .ref x0), (2, .ref x2), (5, .int x5)]) rfl (by decide) rfl dX11_bestMeasure_65 ?_
      refine kz_iinc (pc := 66) 5 (i := 5) (v := x5 + 1) (ls' := [(3, .int x5), (4, .int r4), (6, .int r4), (0, .ref x0), (2, .ref x2)]) rfl (congrArg (fun z => x5 + z) (by decide)) (by decide) rfl dX11_bestMeasure_66 ?_
      refine kz_goto (pc := 69) (tgt := 29) (by decide) dX11_bestMeasure_69 ?_
      refine kz_sub [4, 5, 1, 2, 0] rfl ?_
      exact h
theorem dX11_wouldCount_0 : decode cX11_wouldCount 0 = .ok (.aload_n 0, 1) := by decide +kernel
theorem dX11_wouldCount_1 : decode cX11_wouldCount 1 = .ok (.iload_n 1, 1) := by decide +kernel
theorem dX11_wouldCount_2 : decode cX11_wouldCount 2 = .ok (.iload_n 2, 1) := by decide +kernel
theorem dX11_wouldCount_3 : decode cX11_wouldCount 3 = .ok (.iload_n 3, 1) := by decide +kernel
theorem dX11_wouldCount_4 : decode cX11_wouldCount 4 = .ok (.invokevirtual 312, 3) := by decide +kernel
theorem dX11_wouldCount_7 : decode cX11_wouldCount 7 = .ok (.aload_n 0, 1) := by decide +kernel
theorem dX11_wouldCount_8 : decode cX11_wouldCount 8 = .ok (.getfield 10, 3) := by decide +kernel
theorem dX11_wouldCount_11 : decode cX11_wouldCount 11 = .ok (.iload_n 2, 1) := by decide +kernel
theorem dX11_wouldCount_12 : decode cX11_wouldCount 12 = .ok (.iload_n 3, 1) := by decide +kernel
theorem dX11_wouldCount_13 : decode cX11_wouldCount 13 = .ok (.invokestatic 316, 3) := by decide +kernel
theorem dX11_wouldCount_16 : decode cX11_wouldCount 16 = .ok (.astore 4, 2) := by decide +kernel
theorem dX11_wouldCount_18 : decode cX11_wouldCount 18 = .ok (.aload 4, 2) := by decide +kernel
theorem dX11_wouldCount_20 : decode cX11_wouldCount 20 = .ok (.ifnonnull 7, 3) := by decide +kernel
theorem dX11_wouldCount_23 : decode cX11_wouldCount 23 = .ok (.iconst (-1), 1) := by decide +kernel
theorem dX11_wouldCount_24 : decode cX11_wouldCount 24 = .ok (.goto 28, 3) := by decide +kernel
theorem dX11_wouldCount_27 : decode cX11_wouldCount 27 = .ok (.aload_n 0, 1) := by decide +kernel
theorem dX11_wouldCount_28 : decode cX11_wouldCount 28 = .ok (.aload 4, 2) := by decide +kernel
theorem dX11_wouldCount_30 : decode cX11_wouldCount 30 = .ok (.iload_n 1, 1) := by decide +kernel
theorem dX11_wouldCount_31 : decode cX11_wouldCount 31 = .ok (.aload_n 0, 1) := by decide +kernel
theorem dX11_wouldCount_32 : decode cX11_wouldCount 32 = .ok (.getfield 26, 3) := by decide +kernel
theorem dX11_wouldCount_35 : decode cX11_wouldCount 35 = .ok (.getfield 319, 3) := by decide +kernel
theorem dX11_wouldCount_38 : decode cX11_wouldCount 38 = .ok (.aload_n 0, 1) := by decide +kernel
theorem dX11_wouldCount_39 : decode cX11_wouldCount 39 = .ok (.getfield 26, 3) := by decide +kernel
theorem dX11_wouldCount_42 : decode cX11_wouldCount 42 = .ok (.getfield 105, 3) := by decide +kernel
theorem dX11_wouldCount_45 : decode cX11_wouldCount 45 = .ok (.invokevirtual 323, 3) := by decide +kernel
theorem dX11_wouldCount_48 : decode cX11_wouldCount 48 = .ok (.iconst 1, 1) := by decide +kernel
theorem dX11_wouldCount_49 : decode cX11_wouldCount 49 = .ok (.invokevirtual 187, 3) := by decide +kernel
theorem dX11_wouldCount_52 : decode cX11_wouldCount 52 = .ok (.ireturn, 1) := by decide +kernel
theorem rX11_wouldCount_0 {G : kz_G} {d : Nat} {mc ms : Nat} {Qr : Option Value → kz_M → Prop} {Qx : String → kz_M → Prop} {a0 : Nat} {p1 : Int32} {p2 : Int32} {p3 : Int32}  {M : kz_M} (h : (∃ fs27, (M).1 a0 = some (.inl (10, fs27))) ∧ ∃ mc3 ms3, 0 + mc3 ≤ mc ∧ 0 + ms3 ≤ ms ∧ kz_C G (d + 8) mc3 ms3 mX11_checkSubmission [.ref a0, .int p1, .int p2, .int p3] M (fun v M1 => v = none ∧ (∃ fs4 v5, (M1).1 a0 = some (.inl (10, fs4)) ∧ fs4[0]? = some (.ref v5) ∧ (∃ mc8 ms8, 0 + mc3 + mc8 ≤ mc ∧ 0 + ms3 + ms8 ≤ ms ∧ kz_C G (d + 8) mc8 ms8 mX6_read [.ref v5, .int p2, .int p3] M1 (fun v M6 => ∃ r7 : Option Nat, v = some (kz_rf r7) ∧ ((r7 = none → Qr (some (.int ((-1)))) M6) ∧ (∀ y9, r7 = some y9 → ∃ fs10 v11, (M6).1 a0 = some (.inl (10, fs10)) ∧ fs10[2]? = some (.ref v11) ∧ (∃ fs12 v13, (M6).1 v11 = some (.inl (8, fs12)) ∧ fs12[4]? = some (.ref v13) ∧ (∃ fs14 v15, (M6).1 a0 = some (.inl (10, fs14)) ∧ fs14[2]? = some (.ref v15) ∧ (∃ fs16 v17, (M6).1 v15 = some (.inl (8, fs16)) ∧ fs16[3]? = some (.int v17) ∧ ((∃ fs25, (M6).1 a0 = some (.inl (10, fs25))) ∧ ∃ mc20 ms20, 0 + mc3 + mc8 + mc20 ≤ mc ∧ 0 + ms3 + ms8 + ms20 ≤ ms ∧ kz_C G (d + 8) mc20 ms20 mX11_judged [.ref a0, .ref y9, .int p1, .ref v13, .int v17] M6 (fun v M18 => ∃ r19 : Nat, v = some (.ref r19) ∧ ((∃ fs24, (M18).1 r19 = some (.inl (9, fs24))) ∧ kz_C G (d + 8) 0 0 mX10_linesOf [.ref r19, .int 1] M18 (fun v M21 => ∃ r22 : Int32, v = some (.int r22) ∧ (Qr (some (.int r22)) M21)) Qx)) Qx))))))) Qx))) Qx) : kz_C G (d + 9) mc ms mX11_wouldCount [.ref a0, .int p1, .int p2, .int p3] M Qr Qx := by
  refine kz_enter (n := 3) kmX11_wouldCount.1 (Nat.le_of_ble_eq_true rfl) (ls := [(0, .ref a0), (1, .int p1), (2, .int p2), (3, .int p3)]) rfl ?_
  refine kz_aload_n (pc := 0) 0 (v := .ref a0) (i := 0) rfl rfl rfl dX11_wouldCount_0 ?_
  refine kz_iload_n (pc := 1) 1 (i := 1) rfl rfl dX11_wouldCount_1 ?_
  refine kz_iload_n (pc := 2) 2 (i := 2) rfl rfl dX11_wouldCount_2 ?_
  refine kz_iload_n (pc := 3) 3 (i := 3) rfl rfl dX11_wouldCount_3 ?_
  obtain ⟨⟨fs27, he⟩, h⟩ := h
  obtain ⟨mc3, ms3, hc3, hs3, h⟩ := h
  refine kz_callV (pc := 4) (μ' := mX11_checkSubmission) (ci := 10) (q := (RX11, TX11, 10)) (b := a0) (d' := d + 8) (mc' := mc3) (ms' := ms3) (As := [.int p1, .int p2, .int p3]) (st := []) (c := 0) (sl := 0) kmX11_checkSubmission kw_974 (by omega) rfl (Nat.le_of_ble_eq_true rfl) he rfl rfl hc3 hs3 dX11_wouldCount_4 (fun E M9 hx => kz_Tout rfl hc3 hs3 hx) (kz_Cmono (fun v M1 h => ?_) (fun _ _ h => h) h)
  obtain ⟨rfl, h⟩ := h
  show kz_Z G (d + 9) mc ms mX11_wouldCount Qr Qx 7 [(0, .ref a0), (1, .int p1), (2, .int p2), (3, .int p3)] [] M1 (0 + mc3) (0 + ms3)
  refine kz_aload_n (pc := 7) 0 (v := .ref a0) (i := 0) rfl rfl rfl dX11_wouldCount_7 ?_
  obtain ⟨fs4, v5, hM, hv, h⟩ := h
  refine kz_getf (pc := 8) (k := 0) kcX11 hM hv (by decide) kw_275 dX11_wouldCount_8 ?_
  refine kz_iload_n (pc := 11) 2 (i := 2) rfl rfl dX11_wouldCount_11 ?_
  refine kz_iload_n (pc := 12) 3 (i := 3) rfl rfl dX11_wouldCount_12 ?_
  obtain ⟨mc8, ms8, hc8, hs8, h⟩ := h
  refine kz_callS (pc := 13) (μ' := mX6_read) (d' := d + 8) (mc' := mc8) (ms' := ms8) (As := [.ref v5, .int p2, .int p3]) (st := []) (c := 0 + mc3) (sl := 0 + ms3) kmX6_read kw_980 (by omega) rfl (Nat.le_of_ble_eq_true rfl) hc8 hs8 dX11_wouldCount_13 (fun E M9 hx => kz_Tout rfl hc8 hs8 hx) (kz_Cmono (fun v M6 h => ?_) (fun _ _ h => h) h)
  obtain ⟨r7, rfl, h⟩ := h
  show kz_Z G (d + 9) mc ms mX11_wouldCount Qr Qx 16 [(0, .ref a0), (1, .int p1), (2, .int p2), (3, .int p3)] [kz_rf r7] M6 (0 + mc3 + mc8) (0 + ms3 + ms8)
  refine kz_astore (pc := 16) (i := 4) (v := kz_rf r7) (ls' := [(0, .ref a0), (1, .int p1), (2, .int p2), (3, .int p3)]) (kz_isr_rf _) (by decide) rfl dX11_wouldCount_16 ?_
  refine kz_aload (pc := 18) 0 (v := kz_rf r7) (i := 4) rfl (kz_isr_rf _) dX11_wouldCount_18 ?_
  rcases r7 with _ | y9
  · replace h := h.1 rfl
    refine kz_ifnonnull (pc := 20) (tgt := 27) rfl (by decide) dX11_wouldCount_20 (fun hn => absurd rfl hn) (fun _ => ?_)
    refine kz_iconst (pc := 23) (v := (-1)) (by decide) dX11_wouldCount_23 ?_
    refine kz_goto (pc := 24) (tgt := 52) (by decide) dX11_wouldCount_24 ?_
    exact kz_iret (pc := 52) rfl hc8 hs8 dX11_wouldCount_52 h
  · replace h := h.2 y9 rfl
    refine kz_ifnonnull (pc := 20) (tgt := 27) rfl (by decide) dX11_wouldCount_20 (fun _ => ?_) (fun hn => by cases hn)
    refine kz_aload_n (pc := 27) 1 (v := .ref a0) (i := 0) rfl rfl rfl dX11_wouldCount_27 ?_
    refine kz_aload (pc := 28) 0 (v := .ref y9) (i := 4) rfl rfl dX11_wouldCount_28 ?_
    refine kz_iload_n (pc := 30) 2 (i := 1) rfl rfl dX11_wouldCount_30 ?_
    refine kz_aload_n (pc := 31) 1 (v := .ref a0) (i := 0) rfl rfl rfl dX11_wouldCount_31 ?_
    obtain ⟨fs10, v11, hM, hv, h⟩ := h
    refine kz_getf (pc := 32) (k := 2) kcX11 hM hv (by decide) kw_277 dX11_wouldCount_32 ?_
    obtain ⟨fs12, v13, hM, hv, h⟩ := h
    refine kz_getf (pc := 35) (k := 4) kcX9 hM hv (by decide) kw_112 dX11_wouldCount_35 ?_
    refine kz_aload_n (pc := 38) 1 (v := .ref a0) (i := 0) rfl rfl rfl dX11_wouldCount_38 ?_
    obtain ⟨fs14, v15, hM, hv, h⟩ := h
    refine kz_getf (pc := 39) (k := 2) kcX11 hM hv (by decide) kw_277 dX11_wouldCount_39 ?_
    obtain ⟨fs16, v17, hM, hv, h⟩ := h
    refine kz_getf (pc := 42) (k := 3) kcX9 hM hv (by decide) kw_109 dX11_wouldCount_42 ?_
    obtain ⟨⟨fs25, he⟩, h⟩ := h
    obtain ⟨mc20, ms20, hc20, hs20, h⟩ := h
    refine kz_callV (pc := 45) (μ' := mX11_judged) (ci := 10) (q := (RX11, TX11, 10)) (b := a0) (d' := d + 8) (mc' := mc20) (ms' := ms20) (As := [.ref y9, .int p1, .ref v13, .int v17]) (st := []) (c := 0 + mc3 + mc8) (sl := 0 + ms3 + ms8) kmX11_judged kw_1011 (by omega) rfl (Nat.le_of_ble_eq_true rfl) he rfl rfl hc20 hs20 dX11_wouldCount_45 (fun E M9 hx => kz_Tout rfl hc20 hs20 hx) (kz_Cmono (fun v M18 h => ?_) (fun _ _ h => h) h)
    obtain ⟨r19, rfl, h⟩ := h
    show kz_Z G (d + 9) mc ms mX11_wouldCount Qr Qx 48 [(4, .ref y9), (0, .ref a0), (1, .int p1), (2, .int p2), (3, .int p3)] [.ref r19] M18 (0 + mc3 + mc8 + mc20) (0 + ms3 + ms8 + ms20)
    refine kz_iconst (pc := 48) (v := 1) (by decide) dX11_wouldCount_48 ?_
    obtain ⟨⟨fs24, he⟩, h⟩ := h
    refine kz_callV (pc := 49) (μ' := mX10_linesOf) (ci := 9) (q := (RX10, TX10, 4)) (b := r19) (d' := d + 8) (mc' := 0) (ms' := 0) (As := [.int 1]) (st := []) (c := 0 + mc3 + mc8 + mc20) (sl := 0 + ms3 + ms8 + ms20) kmX10_linesOf kw_751 (by omega) rfl (Nat.le_of_ble_eq_true rfl) he rfl rfl hc20 hs20 dX11_wouldCount_49 (fun E M9 hx => kz_Tout rfl hc20 hs20 hx) (kz_Cmono (fun v M21 h => ?_) (fun _ _ h => h) h)
    obtain ⟨r22, rfl, h⟩ := h
    show kz_Z G (d + 9) mc ms mX11_wouldCount Qr Qx 52 [(4, .ref y9), (0, .ref a0), (1, .int p1), (2, .int p2), (3, .int p3)] [.int r22] M21 (0 + mc3 + mc8 + mc20) (0 + ms3 + ms8 + ms20)
    exact kz_iret (pc := 52) rfl hc20 hs20 dX11_wouldCount_52 h
