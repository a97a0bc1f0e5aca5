/-! The rules of 45.roffice1: printed by program (wip/whole/rules.py) -/
theorem dX11_init_0 : decode cX11_init 0 = .ok (.aload_n 0, 1) := by decide +kernel
theorem dX11_init_1 : decode cX11_init 1 = .ok (.invokespecial 1, 3) := by decide +kernel
theorem dX11_init_4 : decode cX11_init 4 = .ok (.aload_n 0, 1) := by decide +kernel
theorem dX11_init_5 : decode cX11_init 5 = .ok (.new 7, 3) := by decide +kernel
theorem dX11_init_8 : decode cX11_init 8 = .ok (.dup, 1) := by decide +kernel
theorem dX11_init_9 : decode cX11_init 9 = .ok (.invokespecial 9, 3) := by decide +kernel
theorem dX11_init_12 : decode cX11_init 12 = .ok (.putfield 10, 3) := by decide +kernel
theorem dX11_init_15 : decode cX11_init 15 = .ok (.aload_n 0, 1) := by decide +kernel
theorem dX11_init_16 : decode cX11_init 16 = .ok (.new 16, 3) := by decide +kernel
theorem dX11_init_19 : decode cX11_init 19 = .ok (.dup, 1) := by decide +kernel
theorem dX11_init_20 : decode cX11_init 20 = .ok (.invokespecial 18, 3) := by decide +kernel
theorem dX11_init_23 : decode cX11_init 23 = .ok (.putfield 19, 3) := by decide +kernel
theorem dX11_init_26 : decode cX11_init 26 = .ok (.aload_n 0, 1) := by decide +kernel
theorem dX11_init_27 : decode cX11_init 27 = .ok (.new 23, 3) := by decide +kernel
theorem dX11_init_30 : decode cX11_init 30 = .ok (.dup, 1) := by decide +kernel
theorem dX11_init_31 : decode cX11_init 31 = .ok (.invokespecial 25, 3) := by decide +kernel
theorem dX11_init_34 : decode cX11_init 34 = .ok (.putfield 26, 3) := by decide +kernel
theorem dX11_init_37 : decode cX11_init 37 = .ok (.aload_n 0, 1) := by decide +kernel
theorem dX11_init_38 : decode cX11_init 38 = .ok (.new 23, 3) := by decide +kernel
theorem dX11_init_41 : decode cX11_init 41 = .ok (.dup, 1) := by decide +kernel
theorem dX11_init_42 : decode cX11_init 42 = .ok (.invokespecial 25, 3) := by decide +kernel
theorem dX11_init_45 : decode cX11_init 45 = .ok (.putfield 30, 3) := by decide +kernel
theorem dX11_init_48 : decode cX11_init 48 = .ok (.aload_n 0, 1) := by decide +kernel
theorem dX11_init_49 : decode cX11_init 49 = .ok (.new 33, 3) := by decide +kernel
theorem dX11_init_52 : decode cX11_init 52 = .ok (.dup, 1) := by decide +kernel
theorem dX11_init_53 : decode cX11_init 53 = .ok (.invokespecial 35, 3) := by decide +kernel
theorem dX11_init_56 : decode cX11_init 56 = .ok (.putfield 36, 3) := by decide +kernel
theorem dX11_init_59 : decode cX11_init 59 = .ok (.aload_n 0, 1) := by decide +kernel
theorem dX11_init_60 : decode cX11_init 60 = .ok (.new 40, 3) := by decide +kernel
theorem dX11_init_63 : decode cX11_init 63 = .ok (.dup, 1) := by decide +kernel
theorem dX11_init_64 : decode cX11_init 64 = .ok (.invokespecial 42, 3) := by decide +kernel
theorem dX11_init_67 : decode cX11_init 67 = .ok (.putfield 43, 3) := by decide +kernel
theorem dX11_init_70 : decode cX11_init 70 = .ok (.aload_n 0, 1) := by decide +kernel
theorem dX11_init_71 : decode cX11_init 71 = .ok (.new 47, 3) := by decide +kernel
theorem dX11_init_74 : decode cX11_init 74 = .ok (.dup, 1) := by decide +kernel
theorem dX11_init_75 : decode cX11_init 75 = .ok (.invokespecial 49, 3) := by decide +kernel
theorem dX11_init_78 : decode cX11_init 78 = .ok (.putfield 50, 3) := by decide +kernel
theorem dX11_init_81 : decode cX11_init 81 = .ok (.aload_n 0, 1) := by decide +kernel
theorem dX11_init_82 : decode cX11_init 82 = .ok (.iconst 0, 1) := by decide +kernel
theorem dX11_init_83 : decode cX11_init 83 = .ok (.putfield 54, 3) := by decide +kernel
theorem dX11_init_86 : decode cX11_init 86 = .ok (.aload_n 0, 1) := by decide +kernel
theorem dX11_init_87 : decode cX11_init 87 = .ok (.iconst 0, 1) := by decide +kernel
theorem dX11_init_88 : decode cX11_init 88 = .ok (.putfield 58, 3) := by decide +kernel
theorem dX11_init_91 : decode cX11_init 91 = .ok (.aload_n 0, 1) := by decide +kernel
theorem dX11_init_92 : decode cX11_init 92 = .ok (.iconst (-1), 1) := by decide +kernel
theorem dX11_init_93 : decode cX11_init 93 = .ok (.putfield 62, 3) := by decide +kernel
theorem dX11_init_96 : decode cX11_init 96 = .ok (.aload_n 0, 1) := by decide +kernel
theorem dX11_init_97 : decode cX11_init 97 = .ok (.getfield 26, 3) := by decide +kernel
theorem dX11_init_100 : decode cX11_init 100 = .ok (.ldc 65, 2) := by decide +kernel
theorem dX11_init_102 : decode cX11_init 102 = .ok (.invokestatic 67, 3) := by decide +kernel
theorem dX11_init_105 : decode cX11_init 105 = .ok (.invokevirtual 71, 3) := by decide +kernel
theorem dX11_init_108 : decode cX11_init 108 = .ok (.return_, 1) := by decide +kernel
def zX11_init_15 (G : kz_G) (d mc ms : Nat) (Qr : Option Value → kz_M → Prop) (Qx : String → kz_M → Prop) (x0 : Nat)  (M : kz_M) (c sl : Nat) : Prop := kz_Z G (d + 5) mc ms mX11_init Qr Qx 15 [(0, .ref x0)] [] M c sl
def zX11_init_26 (G : kz_G) (d mc ms : Nat) (Qr : Option Value → kz_M → Prop) (Qx : String → kz_M → Prop) (x0 : Nat)  (M : kz_M) (c sl : Nat) : Prop := kz_Z G (d + 5) mc ms mX11_init Qr Qx 26 [(0, .ref x0)] [] M c sl
def zX11_init_37 (G : kz_G) (d mc ms : Nat) (Qr : Option Value → kz_M → Prop) (Qx : String → kz_M → Prop) (x0 : Nat)  (M : kz_M) (c sl : Nat) : Prop := kz_Z G (d + 5) mc ms mX11_init Qr Qx 37 [(0, .ref x0)] [] M c sl
def zX11_init_48 (G : kz_G) (d mc ms : Nat) (Qr : Option Value → kz_M → Prop) (Qx : String → kz_M → Prop) (x0 : Nat)  (M : kz_M) (c sl : Nat) : Prop := kz_Z G (d + 5) mc ms mX11_init Qr Qx 48 [(0, .ref x0)] [] M c sl
def zX11_init_59 (G : kz_G) (d mc ms : Nat) (Qr : Option Value → kz_M → Prop) (Qx : String → kz_M → Prop) (x0 : Nat)  (M : kz_M) (c sl : Nat) : Prop := kz_Z G (d + 5) mc ms mX11_init Qr Qx 59 [(0, .ref x0)] [] M c sl
def zX11_init_70 (G : kz_G) (d mc ms : Nat) (Qr : Option Value → kz_M → Prop) (Qx : String → kz_M → Prop) (x0 : Nat)  (M : kz_M) (c sl : Nat) : Prop := kz_Z G (d + 5) mc ms mX11_init Qr Qx 70 [(0, .ref x0)] [] M c sl
def zX11_init_81 (G : kz_G) (d mc ms : Nat) (Qr : Option Value → kz_M → Prop) (Qx : String → kz_M → Prop) (x0 : Nat)  (M : kz_M) (c sl : Nat) : Prop := kz_Z G (d + 5) mc ms mX11_init Qr Qx 81 [(0, .ref x0)] [] M c sl
theorem rX11_init_0 {G : kz_G} {d : Nat} {mc ms : Nat} {Qr : Option Value → kz_M → Prop} {Qx : String → kz_M → Prop} {a0 : Nat}  {M : kz_M} (h : 0 + 1 ≤ mc ∧ 0 + 2 ≤ ms ∧ (∃ mc4 ms4, 0 + 1 + mc4 ≤ mc ∧ 0 + 2 + ms4 ≤ ms ∧ kz_C G (d + 4) mc4 ms4 mX1_init [.ref ((M).2)] (kz_nw M (.inl (1, [.null, .int 0]))) (fun v M2 => v = none ∧ (∃ fs5, (M2).1 a0 = some (.inl (10, fs5)) ∧ 0 < fs5.length ∧ (zX11_init_15 G d mc ms Qr Qx a0 (kz_up M2 a0 (.inl (10, fs5.set 0 (.ref ((M).2))))) (0 + 1 + mc4) (0 + 2 + ms4)))) Qx)) : kz_C G (d + 5) mc ms mX11_init [.ref a0] M Qr Qx := by
  refine kz_enter (n := 0) kmX11_init.1 (Nat.le_of_ble_eq_true rfl) (ls := [(0, .ref a0)]) rfl ?_
  refine kz_aload_n (pc := 0) 0 (v := .ref a0) (i := 0) rfl rfl rfl dX11_init_0 ?_
  refine kz_objInit (pc := 1) kw_42 kw_43 kw_44 (by omega) (Nat.le_of_ble_eq_true rfl) dX11_init_1 ?_
  refine kz_aload_n (pc := 4) 0 (v := .ref a0) (i := 0) rfl rfl rfl dX11_init_4 ?_
  obtain ⟨hc1, hs1, h⟩ := h
  refine kz_newc (pc := 5) kcX1 rfl kw_45 kw_46 kw_17 hc1 hs1 dX11_init_5 ?_
  refine kz_dup (pc := 8) rfl dX11_init_8 ?_
  obtain ⟨mc4, ms4, hc4, hs4, h⟩ := h
  refine kz_callIN (pc := 9) (μ' := mX1_init) (b := (M).2) (d' := d + 4) (mc' := mc4) (ms' := ms4) (As := []) (st := [.ref ((M).2), .ref a0]) (c := 0 + 1) (sl := 0 + 2) kmX1_init kw_47 (by omega) rfl (Nat.le_of_ble_eq_true rfl) hc4 hs4 dX11_init_9 (fun E M9 hx => kz_Tout rfl hc4 hs4 hx) (kz_Cmono (fun v M2 h => ?_) (fun _ _ h => h) h)
  obtain ⟨rfl, h⟩ := h
  show kz_Z G (d + 5) mc ms mX11_init Qr Qx 12 [(0, .ref a0)] [.ref ((M).2), .ref a0] M2 (0 + 1 + mc4) (0 + 2 + ms4)
  obtain ⟨fs5, hM, hlen, h⟩ := h
  refine kz_putF (pc := 12) (k := 0) kcX11 hM (by decide) hlen rfl rfl kw_282 rfl rfl rfl dX11_init_12 ?_
  exact h
theorem rX11_init_15 {G : kz_G} {d : Nat} {mc ms : Nat} {Qr : Option Value → kz_M → Prop} {Qx : String → kz_M → Prop} {x0 : Nat}  {M : kz_M} {c sl : Nat} (hc : c ≤ mc) (hs : sl ≤ ms) (h : c + 1 ≤ mc ∧ sl + 2 ≤ ms ∧ (∃ mc4 ms4, c + 1 + mc4 ≤ mc ∧ sl + 2 + ms4 ≤ ms ∧ kz_C G (d + 4) mc4 ms4 mX4_init [.ref ((M).2)] (kz_nw M (.inl (4, [.null, .int 0]))) (fun v M2 => v = none ∧ (∃ fs5, (M2).1 x0 = some (.inl (10, fs5)) ∧ 1 < fs5.length ∧ (zX11_init_26 G d mc ms Qr Qx x0 (kz_up M2 x0 (.inl (10, fs5.set 1 (.ref ((M).2))))) (c + 1 + mc4) (sl + 2 + ms4)))) Qx)) : zX11_init_15 G d mc ms Qr Qx x0  M c sl := by
  show kz_Z G (d + 5) mc ms mX11_init Qr Qx 15 [(0, .ref x0)] [] M c sl
  refine kz_aload_n (pc := 15) 0 (v := .ref x0) (i := 0) rfl rfl rfl dX11_init_15 ?_
  obtain ⟨hc1, hs1, h⟩ := h
  refine kz_newc (pc := 16) kcX4 rfl kw_61 kw_62 kw_18 hc1 hs1 dX11_init_16 ?_
  refine kz_dup (pc := 19) rfl dX11_init_19 ?_
  obtain ⟨mc4, ms4, hc4, hs4, h⟩ := h
  refine kz_callIN (pc := 20) (μ' := mX4_init) (b := (M).2) (d' := d + 4) (mc' := mc4) (ms' := ms4) (As := []) (st := [.ref ((M).2), .ref x0]) (c := c + 1) (sl := sl + 2) kmX4_init kw_63 (by omega) rfl (Nat.le_of_ble_eq_true rfl) hc4 hs4 dX11_init_20 (fun E M9 hx => kz_Tout rfl hc4 hs4 hx) (kz_Cmono (fun v M2 h => ?_) (fun _ _ h => h) h)
  obtain ⟨rfl, h⟩ := h
  show kz_Z G (d + 5) mc ms mX11_init Qr Qx 23 [(0, .ref x0)] [.ref ((M).2), .ref x0] M2 (c + 1 + mc4) (sl + 2 + ms4)
  obtain ⟨fs5, hM, hlen, h⟩ := h
  refine kz_putF (pc := 23) (k := 1) kcX11 hM (by decide) hlen rfl rfl kw_283 rfl rfl rfl dX11_init_23 ?_
  exact h
theorem rX11_init_26 {G : kz_G} {d : Nat} {mc ms : Nat} {Qr : Option Value → kz_M → Prop} {Qx : String → kz_M → Prop} {x0 : Nat}  {M : kz_M} {c sl : Nat} (hc : c ≤ mc) (hs : sl ≤ ms) (h : c + 1 ≤ mc ∧ sl + 10 ≤ ms ∧ (∃ mc4 ms4, c + 1 + mc4 ≤ mc ∧ sl + 10 + ms4 ≤ ms ∧ kz_C G (d + 4) mc4 ms4 mX9_init [.ref ((M).2)] (kz_nw M (.inl (8, [.int 0, .int 0, .int 0, .int 0, .null, .null, .null, .null, .null, .null]))) (fun v M2 => v = none ∧ (∃ fs5, (M2).1 x0 = some (.inl (10, fs5)) ∧ 2 < fs5.length ∧ (zX11_init_37 G d mc ms Qr Qx x0 (kz_up M2 x0 (.inl (10, fs5.set 2 (.ref ((M).2))))) (c + 1 + mc4) (sl + 10 + ms4)))) Qx)) : zX11_init_26 G d mc ms Qr Qx x0  M c sl := by
  show kz_Z G (d + 5) mc ms mX11_init Qr Qx 26 [(0, .ref x0)] [] M c sl
  refine kz_aload_n (pc := 26) 0 (v := .ref x0) (i := 0) rfl rfl rfl dX11_init_26 ?_
  obtain ⟨hc1, hs1, h⟩ := h
  refine kz_newc (pc := 27) kcX9 rfl kw_73 kw_74 kw_19 hc1 hs1 dX11_init_27 ?_
  refine kz_dup (pc := 30) rfl dX11_init_30 ?_
  obtain ⟨mc4, ms4, hc4, hs4, h⟩ := h
  refine kz_callI (pc := 31) (μ' := mX9_init) (b := (M).2) (d' := d + 4) (mc' := mc4) (ms' := ms4) (As := []) (st := [.ref ((M).2), .ref x0]) (c := c + 1) (sl := sl + 10) kmX9_init kw_75 (by omega) rfl (Nat.le_of_ble_eq_true rfl) hc4 hs4 dX11_init_31 (fun E M9 hx => kz_Tout rfl hc4 hs4 hx) (kz_Cmono (fun v M2 h => ?_) (fun _ _ h => h) h)
  obtain ⟨rfl, h⟩ := h
  show kz_Z G (d + 5) mc ms mX11_init Qr Qx 34 [(0, .ref x0)] [.ref ((M).2), .ref x0] M2 (c + 1 + mc4) (sl + 10 + ms4)
  obtain ⟨fs5, hM, hlen, h⟩ := h
  refine kz_putF (pc := 34) (k := 2) kcX11 hM (by decide) hlen rfl rfl kw_284 rfl rfl rfl dX11_init_34 ?_
  exact h
theorem rX11_init_37 {G : kz_G} {d : Nat} {mc ms : Nat} {Qr : Option Value → kz_M → Prop} {Qx : String → kz_M → Prop} {x0 : Nat}  {M : kz_M} {c sl : Nat} (hc : c ≤ mc) (hs : sl ≤ ms) (h : c + 1 ≤ mc ∧ sl + 10 ≤ ms ∧ (∃ mc4 ms4, c + 1 + mc4 ≤ mc ∧ sl + 10 + ms4 ≤ ms ∧ kz_C G (d + 4) mc4 ms4 mX9_init [.ref ((M).2)] (kz_nw M (.inl (8, [.int 0, .int 0, .int 0, .int 0, .null, .null, .null, .null, .null, .null]))) (fun v M2 => v = none ∧ (∃ fs5, (M2).1 x0 = some (.inl (10, fs5)) ∧ 3 < fs5.length ∧ (zX11_init_48 G d mc ms Qr Qx x0 (kz_up M2 x0 (.inl (10, fs5.set 3 (.ref ((M).2))))) (c + 1 + mc4) (sl + 10 + ms4)))) Qx)) : zX11_init_37 G d mc ms Qr Qx x0  M c sl := by
  show kz_Z G (d + 5) mc ms mX11_init Qr Qx 37 [(0, .ref x0)] [] M c sl
  refine kz_aload_n (pc := 37) 0 (v := .ref x0) (i := 0) rfl rfl rfl dX11_init_37 ?_
  obtain ⟨hc1, hs1, h⟩ := h
  refine kz_newc (pc := 38) kcX9 rfl kw_73 kw_74 kw_19 hc1 hs1 dX11_init_38 ?_
  refine kz_dup (pc := 41) rfl dX11_init_41 ?_
  obtain ⟨mc4, ms4, hc4, hs4, h⟩ := h
  refine kz_callI (pc := 42) (μ' := mX9_init) (b := (M).2) (d' := d + 4) (mc' := mc4) (ms' := ms4) (As := []) (st := [.ref ((M).2), .ref x0]) (c := c + 1) (sl := sl + 10) kmX9_init kw_75 (by omega) rfl (Nat.le_of_ble_eq_true rfl) hc4 hs4 dX11_init_42 (fun E M9 hx => kz_Tout rfl hc4 hs4 hx) (kz_Cmono (fun v M2 h => ?_) (fun _ _ h => h) h)
  obtain ⟨rfl, h⟩ := h
  show kz_Z G (d + 5) mc ms mX11_init Qr Qx 45 [(0, .ref x0)] [.ref ((M).2), .ref x0] M2 (c + 1 + mc4) (sl + 10 + ms4)
  obtain ⟨fs5, hM, hlen, h⟩ := h
  refine kz_putF (pc := 45) (k := 3) kcX11 hM (by decide) hlen rfl rfl kw_285 rfl rfl rfl dX11_init_45 ?_
  exact h
theorem rX11_init_48 {G : kz_G} {d : Nat} {mc ms : Nat} {Qr : Option Value → kz_M → Prop} {Qx : String → kz_M → Prop} {x0 : Nat}  {M : kz_M} {c sl : Nat} (hc : c ≤ mc) (hs : sl ≤ ms) (h : c + 1 ≤ mc ∧ sl + 3 ≤ ms ∧ (∃ mc4 ms4, c + 1 + mc4 ≤ mc ∧ sl + 3 + ms4 ≤ ms ∧ kz_C G (d + 4) mc4 ms4 mX0_init [.ref ((M).2)] (kz_nw M (.inl (0, [.null, .int 0, .int 0]))) (fun v M2 => v = none ∧ (∃ fs5, (M2).1 x0 = some (.inl (10, fs5)) ∧ 4 < fs5.length ∧ (zX11_init_59 G d mc ms Qr Qx x0 (kz_up M2 x0 (.inl (10, fs5.set 4 (.ref ((M).2))))) (c + 1 + mc4) (sl + 3 + ms4)))) Qx)) : zX11_init_48 G d mc ms Qr Qx x0  M c sl := by
  show kz_Z G (d + 5) mc ms mX11_init Qr Qx 48 [(0, .ref x0)] [] M c sl
  refine kz_aload_n (pc := 48) 0 (v := .ref x0) (i := 0) rfl rfl rfl dX11_init_48 ?_
  obtain ⟨hc1, hs1, h⟩ := h
  refine kz_newc (pc := 49) kcX0 rfl kw_147 kw_148 kw_21 hc1 hs1 dX11_init_49 ?_
  refine kz_dup (pc := 52) rfl dX11_init_52 ?_
  obtain ⟨mc4, ms4, hc4, hs4, h⟩ := h
  refine kz_callI (pc := 53) (μ' := mX0_init) (b := (M).2) (d' := d + 4) (mc' := mc4) (ms' := ms4) (As := []) (st := [.ref ((M).2), .ref x0]) (c := c + 1) (sl := sl + 3) kmX0_init kw_149 (by omega) rfl (Nat.le_of_ble_eq_true rfl) hc4 hs4 dX11_init_53 (fun E M9 hx => kz_Tout rfl hc4 hs4 hx) (kz_Cmono (fun v M2 h => ?_) (fun _ _ h => h) h)
  obtain ⟨rfl, h⟩ := h
  show kz_Z G (d + 5) mc ms mX11_init Qr Qx 56 [(0, .ref x0)] [.ref ((M).2), .ref x0] M2 (c + 1 + mc4) (sl + 3 + ms4)
  obtain ⟨fs5, hM, hlen, h⟩ := h
  refine kz_putF (pc := 56) (k := 4) kcX11 hM (by decide) hlen rfl rfl kw_286 rfl rfl rfl dX11_init_56 ?_
  exact h
theorem rX11_init_59 {G : kz_G} {d : Nat} {mc ms : Nat} {Qr : Option Value → kz_M → Prop} {Qx : String → kz_M → Prop} {x0 : Nat}  {M : kz_M} {c sl : Nat} (hc : c ≤ mc) (hs : sl ≤ ms) (h : c + 1 ≤ mc ∧ sl + 9 ≤ ms ∧ (∃ mc4 ms4, c + 1 + mc4 ≤ mc ∧ sl + 9 + ms4 ≤ ms ∧ kz_C G (d + 4) mc4 ms4 mX8_init [.ref ((M).2)] (kz_nw M (.inl (7, [.null, .null, .int 0, .int 0, .int 0, .long 0, .int 0, .int 0, .int 0]))) (fun v M2 => v = none ∧ (∃ fs5, (M2).1 x0 = some (.inl (10, fs5)) ∧ 5 < fs5.length ∧ (zX11_init_70 G d mc ms Qr Qx x0 (kz_up M2 x0 (.inl (10, fs5.set 5 (.ref ((M).2))))) (c + 1 + mc4) (sl + 9 + ms4)))) Qx)) : zX11_init_59 G d mc ms Qr Qx x0  M c sl := by
  show kz_Z G (d + 5) mc ms mX11_init Qr Qx 59 [(0, .ref x0)] [] M c sl
  refine kz_aload_n (pc := 59) 0 (v := .ref x0) (i := 0) rfl rfl rfl dX11_init_59 ?_
  obtain ⟨hc1, hs1, h⟩ := h
  refine kz_newc (pc := 60) kcX8 rfl kw_167 kw_168 kw_22 hc1 hs1 dX11_init_60 ?_
  refine kz_dup (pc := 63) rfl dX11_init_63 ?_
  obtain ⟨mc4, ms4, hc4, hs4, h⟩ := h
  refine kz_callIN (pc := 64) (μ' := mX8_init) (b := (M).2) (d' := d + 4) (mc' := mc4) (ms' := ms4) (As := []) (st := [.ref ((M).2), .ref x0]) (c := c + 1) (sl := sl + 9) kmX8_init kw_169 (by omega) rfl (Nat.le_of_ble_eq_true rfl) hc4 hs4 dX11_init_64 (fun E M9 hx => kz_Tout rfl hc4 hs4 hx) (kz_Cmono (fun v M2 h => ?_) (fun _ _ h => h) h)
  obtain ⟨rfl, h⟩ := h
  show kz_Z G (d + 5) mc ms mX11_init Qr Qx 67 [(0, .ref x0)] [.ref ((M).2), .ref x0] M2 (c + 1 + mc4) (sl + 9 + ms4)
  obtain ⟨fs5, hM, hlen, h⟩ := h
  refine kz_putF (pc := 67) (k := 5) kcX11 hM (by decide) hlen rfl rfl kw_287 rfl rfl rfl dX11_init_67 ?_
  exact h
theorem rX11_init_70 {G : kz_G} {d : Nat} {mc ms : Nat} {Qr : Option Value → kz_M → Prop} {Qx : String → kz_M → Prop} {x0 : Nat}  {M : kz_M} {c sl : Nat} (hc : c ≤ mc) (hs : sl ≤ ms) (h : c + 1 ≤ mc ∧ sl + 2 ≤ ms ∧ (∃ mc4 ms4, c + 1 + mc4 ≤ mc ∧ sl + 2 + ms4 ≤ ms ∧ kz_C G (d + 4) mc4 ms4 mX5_init [.ref ((M).2)] (kz_nw M (.inl (5, [.null, .int 0]))) (fun v M2 => v = none ∧ (∃ fs5, (M2).1 x0 = some (.inl (10, fs5)) ∧ 6 < fs5.length ∧ (zX11_init_81 G d mc ms Qr Qx x0 (kz_up M2 x0 (.inl (10, fs5.set 6 (.ref ((M).2))))) (c + 1 + mc4) (sl + 2 + ms4)))) Qx)) : zX11_init_70 G d mc ms Qr Qx x0  M c sl := by
  show kz_Z G (d + 5) mc ms mX11_init Qr Qx 70 [(0, .ref x0)] [] M c sl
  refine kz_aload_n (pc := 70) 0 (v := .ref x0) (i := 0) rfl rfl rfl dX11_init_70 ?_
  obtain ⟨hc1, hs1, h⟩ := h
  refine kz_newc (pc := 71) kcX5 rfl kw_208 kw_209 kw_23 hc1 hs1 dX11_init_71 ?_
  refine kz_dup (pc := 74) rfl dX11_init_74 ?_
  obtain ⟨mc4, ms4, hc4, hs4, h⟩ := h
  refine kz_callIN (pc := 75) (μ' := mX5_init) (b := (M).2) (d' := d + 4) (mc' := mc4) (ms' := ms4) (As := []) (st := [.ref ((M).2), .ref x0]) (c := c + 1) (sl := sl + 2) kmX5_init kw_210 (by omega) rfl (Nat.le_of_ble_eq_true rfl) hc4 hs4 dX11_init_75 (fun E M9 hx => kz_Tout rfl hc4 hs4 hx) (kz_Cmono (fun v M2 h => ?_) (fun _ _ h => h) h)
  obtain ⟨rfl, h⟩ := h
  show kz_Z G (d + 5) mc ms mX11_init Qr Qx 78 [(0, .ref x0)] [.ref ((M).2), .ref x0] M2 (c + 1 + mc4) (sl + 2 + ms4)
  obtain ⟨fs5, hM, hlen, h⟩ := h
  refine kz_putF (pc := 78) (k := 6) kcX11 hM (by decide) hlen rfl rfl kw_288 rfl rfl rfl dX11_init_78 ?_
  exact h
theorem rX11_init_81 {G : kz_G} {d : Nat} {mc ms : Nat} {Qr : Option Value → kz_M → Prop} {Qx : String → kz_M → Prop} {x0 : Nat}  {M : kz_M} {c sl : Nat} (hc : c ≤ mc) (hs : sl ≤ ms) (h : ∃ fs1, (M).1 x0 = some (.inl (10, fs1)) ∧ 7 < fs1.length ∧ (∃ fs2, ((kz_up M x0 (.inl (10, fs1.set 7 (.int 0))))).1 x0 = some (.inl (10, fs2)) ∧ 8 < fs2.length ∧ (∃ fs3, ((kz_up (kz_up M x0 (.inl (10, fs1.set 7 (.int 0)))) x0 (.inl (10, fs2.set 8 (.int 0))))).1 x0 = some (.inl (10, fs3)) ∧ 9 < fs3.length ∧ (∃ fs4 v5, ((kz_up (kz_up (kz_up M x0 (.inl (10, fs1.set 7 (.int 0)))) x0 (.inl (10, fs2.set 8 (.int 0)))) x0 (.inl (10, fs3.set 9 (.int ((-1))))))).1 x0 = some (.inl (10, fs4)) ∧ fs4[2]? = some (.ref v5) ∧ (kz_C G (d + 4) 0 0 mX11_coded [.retAddr 1000] (kz_up (kz_up (kz_up M x0 (.inl (10, fs1.set 7 (.int 0)))) x0 (.inl (10, fs2.set 8 (.int 0)))) x0 (.inl (10, fs3.set 9 (.int ((-1)))))) (fun v M6 => ∃ r7 : Int64, v = some (.long r7) ∧ ((∃ fs12, (M6).1 v5 = some (.inl (8, fs12))) ∧ kz_C G (d + 4) 0 0 mX9_enrol [.ref v5, .long r7] M6 (fun v M9 => v = none ∧ (Qr none M9)) Qx)) Qx))))) : zX11_init_81 G d mc ms Qr Qx x0  M c sl := by
  show kz_Z G (d + 5) mc ms mX11_init Qr Qx 81 [(0, .ref x0)] [] M c sl
  refine kz_aload_n (pc := 81) 0 (v := .ref x0) (i := 0) rfl rfl rfl dX11_init_81 ?_
  refine kz_iconst (pc := 82) (v := 0) (by decide) dX11_init_82 ?_
  obtain ⟨fs1, hM, hlen, h⟩ := h
  refine kz_putf (pc := 83) (k := 7) kcX11 hM (by decide) hlen kw_289 rfl rfl rfl dX11_init_83 ?_
  refine kz_aload_n (pc := 86) 0 (v := .ref x0) (i := 0) rfl rfl rfl dX11_init_86 ?_
  refine kz_iconst (pc := 87) (v := 0) (by decide) dX11_init_87 ?_
  obtain ⟨fs2, hM, hlen, h⟩ := h
  refine kz_putf (pc := 88) (k := 8) kcX11 hM (by decide) hlen kw_290 rfl rfl rfl dX11_init_88 ?_
  refine kz_aload_n (pc := 91) 0 (v := .ref x0) (i := 0) rfl rfl rfl dX11_init_91 ?_
  refine kz_iconst (pc := 92) (v := (-1)) (by decide) dX11_init_92 ?_
  obtain ⟨fs3, hM, hlen, h⟩ := h
  refine kz_putf (pc := 93) (k := 9) kcX11 hM (by decide) hlen kw_291 rfl rfl rfl dX11_init_93 ?_
  refine kz_aload_n (pc := 96) 0 (v := .ref x0) (i := 0) rfl rfl rfl dX11_init_96 ?_
  obtain ⟨fs4, v5, hM, hv, h⟩ := h
  refine kz_getf (pc := 97) (k := 2) kcX11 hM hv (by decide) kw_284 dX11_init_97 ?_
  refine kz_ldcS (pc := 100) (j := 1000) (tx := "a") (List.mem_of_getElem? (i := 0) rfl) dX11_init_100 ?_
  refine kz_callS (pc := 102) (μ' := mX11_coded) (d' := d + 4) (mc' := 0) (ms' := 0) (As := [.retAddr 1000]) (st := [.ref v5]) (c := c) (sl := sl) kmX11_coded kw_224 (by omega) rfl (Nat.le_of_ble_eq_true rfl) hc hs dX11_init_102 (fun E M9 hx => kz_Tout rfl hc hs hx) (kz_Cmono (fun v M6 h => ?_) (fun _ _ h => h) h)
  obtain ⟨r7, rfl, h⟩ := h
  show kz_Z G (d + 5) mc ms mX11_init Qr Qx 105 [(0, .ref x0)] [.long r7, .ref v5] M6 c sl
  obtain ⟨⟨fs12, he⟩, h⟩ := h
  refine kz_callV (pc := 105) (μ' := mX9_enrol) (ci := 8) (q := (RX9, TX9, 10)) (b := v5) (d' := d + 4) (mc' := 0) (ms' := 0) (As := [.long r7]) (st := []) (c := c) (sl := sl) kmX9_enrol kw_278 (by omega) rfl (Nat.le_of_ble_eq_true rfl) he rfl rfl hc hs dX11_init_105 (fun E M9 hx => kz_Tout rfl hc hs hx) (kz_Cmono (fun v M9 h => ?_) (fun _ _ h => h) h)
  obtain ⟨rfl, h⟩ := h
  show kz_Z G (d + 5) mc ms mX11_init Qr Qx 108 [(0, .ref x0)] [] M9 c sl
  exact kz_vret (pc := 108) rfl hc hs dX11_init_108 h
theorem dX11_appendInput_0 : decode cX11_appendInput 0 = .ok (.aload_n 0, 1) := by decide +kernel
theorem dX11_appendInput_1 : decode cX11_appendInput 1 = .ok (.getfield 10, 3) := by decide +kernel
theorem dX11_appendInput_4 : decode cX11_appendInput 4 = .ok (.invokevirtual 75, 3) := by decide +kernel
theorem dX11_appendInput_7 : decode cX11_appendInput 7 = .ok (.ifCond .ne 5, 3) := by decide +kernel
theorem dX11_appendInput_10 : decode cX11_appendInput 10 = .ok (.iconst (-1), 1) := by decide +kernel
theorem dX11_appendInput_11 : decode cX11_appendInput 11 = .ok (.ireturn, 1) := by decide +kernel
theorem dX11_appendInput_12 : decode cX11_appendInput 12 = .ok (.aload_n 0, 1) := by decide +kernel
theorem dX11_appendInput_13 : decode cX11_appendInput 13 = .ok (.getfield 10, 3) := by decide +kernel
theorem dX11_appendInput_16 : decode cX11_appendInput 16 = .ok (.iload_n 1, 1) := by decide +kernel
theorem dX11_appendInput_17 : decode cX11_appendInput 17 = .ok (.invokevirtual 79, 3) := by decide +kernel
theorem dX11_appendInput_20 : decode cX11_appendInput 20 = .ok (.aload_n 0, 1) := by decide +kernel
theorem dX11_appendInput_21 : decode cX11_appendInput 21 = .ok (.getfield 10, 3) := by decide +kernel
theorem dX11_appendInput_24 : decode cX11_appendInput 24 = .ok (.iload_n 2, 1) := by decide +kernel
theorem dX11_appendInput_25 : decode cX11_appendInput 25 = .ok (.invokevirtual 79, 3) := by decide +kernel
theorem dX11_appendInput_28 : decode cX11_appendInput 28 = .ok (.aload_n 0, 1) := by decide +kernel
theorem dX11_appendInput_29 : decode cX11_appendInput 29 = .ok (.getfield 10, 3) := by decide +kernel
theorem dX11_appendInput_32 : decode cX11_appendInput 32 = .ok (.iload_n 3, 1) := by decide +kernel
theorem dX11_appendInput_33 : decode cX11_appendInput 33 = .ok (.invokevirtual 79, 3) := by decide +kernel
theorem dX11_appendInput_36 : decode cX11_appendInput 36 = .ok (.aload_n 0, 1) := by decide +kernel
theorem dX11_appendInput_37 : decode cX11_appendInput 37 = .ok (.getfield 10, 3) := by decide +kernel
theorem dX11_appendInput_40 : decode cX11_appendInput 40 = .ok (.iload 4, 2) := by decide +kernel
theorem dX11_appendInput_42 : decode cX11_appendInput 42 = .ok (.invokevirtual 79, 3) := by decide +kernel
theorem dX11_appendInput_45 : decode cX11_appendInput 45 = .ok (.aload_n 0, 1) := by decide +kernel
theorem dX11_appendInput_46 : decode cX11_appendInput 46 = .ok (.getfield 10, 3) := by decide +kernel
theorem dX11_appendInput_49 : decode cX11_appendInput 49 = .ok (.iload 5, 2) := by decide +kernel
theorem dX11_appendInput_51 : decode cX11_appendInput 51 = .ok (.invokevirtual 79, 3) := by decide +kernel
theorem dX11_appendInput_54 : decode cX11_appendInput 54 = .ok (.aload_n 0, 1) := by decide +kernel
theorem dX11_appendInput_55 : decode cX11_appendInput 55 = .ok (.getfield 10, 3) := by decide +kernel
theorem dX11_appendInput_58 : decode cX11_appendInput 58 = .ok (.getfield 83, 3) := by decide +kernel
theorem dX11_appendInput_61 : decode cX11_appendInput 61 = .ok (.ireturn, 1) := by decide +kernel
theorem rX11_appendInput_0 {G : kz_G} {d : Nat} {Qr : Option Value → kz_M → Prop} {Qx : String → kz_M → Prop} {a0 : Nat} {p1 : Int32} {p2 : Int32} {p3 : Int32} {p4 : Int32} {p5 : Int32}  {M : kz_M} (h : ∃ fs1 v2, (M).1 a0 = some (.inl (10, fs1)) ∧ fs1[0]? = some (.ref v2) ∧ ((∃ fs40, (M).1 v2 = some (.inl (1, fs40))) ∧ kz_C G (d + 1) 0 0 mX1_hasRoomForTwenty [.ref v2] M (fun v M3 => ∃ r4 : Int32, v = some (.int r4) ∧ ((¬ r4 = 0 → ∃ fs6 v7, (M3).1 a0 = some (.inl (10, fs6)) ∧ fs6[0]? = some (.ref v7) ∧ ((∃ fs39, (M3).1 v7 = some (.inl (1, fs39))) ∧ kz_C G (d + 1) 0 0 mX1_appendFour [.ref v7, .int p1] M3 (fun v M8 => v = none ∧ (∃ fs11 v12, (M8).1 a0 = some (.inl (10, fs11)) ∧ fs11[0]? = some (.ref v12) ∧ ((∃ fs38, (M8).1 v12 = some (.inl (1, fs38))) ∧ kz_C G (d + 1) 0 0 mX1_appendFour [.ref v12, .int p2] M8 (fun v M13 => v = none ∧ (∃ fs16 v17, (M13).1 a0 = some (.inl (10, fs16)) ∧ fs16[0]? = some (.ref v17) ∧ ((∃ fs37, (M13).1 v17 = some (.inl (1, fs37))) ∧ kz_C G (d + 1) 0 0 mX1_appendFour [.ref v17, .int p3] M13 (fun v M18 => v = none ∧ (∃ fs21 v22, (M18).1 a0 = some (.inl (10, fs21)) ∧ fs21[0]? = some (.ref v22) ∧ ((∃ fs36, (M18).1 v22 = some (.inl (1, fs36))) ∧ kz_C G (d + 1) 0 0 mX1_appendFour [.ref v22, .int p4] M18 (fun v M23 => v = none ∧ (∃ fs26 v27, (M23).1 a0 = some (.inl (10, fs26)) ∧ fs26[0]? = some (.ref v27) ∧ ((∃ fs35, (M23).1 v27 = some (.inl (1, fs35))) ∧ kz_C G (d + 1) 0 0 mX1_appendFour [.ref v27, .int p5] M23 (fun v M28 => v = none ∧ (∃ fs31 v32, (M28).1 a0 = some (.inl (10, fs31)) ∧ fs31[0]? = some (.ref v32) ∧ (∃ fs33 v34, (M28).1 v32 = some (.inl (1, fs33)) ∧ fs33[1]? = some (.int v34) ∧ (Qr (some (.int v34)) M28)))) Qx))) Qx))) Qx))) Qx))) Qx)) ∧ (r4 = 0 → Qr (some (.int ((-1)))) M3))) Qx)) : kz_C G (d + 2) 0 0 mX11_appendInput [.ref a0, .int p1, .int p2, .int p3, .int p4, .int p5] M Qr Qx := by
  refine kz_enter (n := 5) kmX11_appendInput.1 (Nat.le_of_ble_eq_true rfl) (ls := [(0, .ref a0), (1, .int p1), (2, .int p2), (3, .int p3), (4, .int p4), (5, .int p5)]) rfl ?_
  refine kz_aload_n (pc := 0) 0 (v := .ref a0) (i := 0) rfl rfl rfl dX11_appendInput_0 ?_
  obtain ⟨fs1, v2, hM, hv, h⟩ := h
  refine kz_getf (pc := 1) (k := 0) kcX11 hM hv (by decide) kw_282 dX11_appendInput_1 ?_
  obtain ⟨⟨fs40, he⟩, h⟩ := h
  refine kz_callV (pc := 4) (μ' := mX1_hasRoomForTwenty) (ci := 1) (q := (RX1, TX1, 2)) (b := v2) (d' := d + 1) (mc' := 0) (ms' := 0) (As := []) (st := []) (c := 0) (sl := 0) kmX1_hasRoomForTwenty kw_431 (by omega) rfl (Nat.le_of_ble_eq_true rfl) he rfl rfl (Nat.le_refl _) (Nat.le_refl _) dX11_appendInput_4 (fun E M9 hx => kz_Tout rfl (Nat.le_refl _) (Nat.le_refl _) hx) (kz_Cmono (fun v M3 h => ?_) (fun _ _ h => h) h)
  obtain ⟨r4, rfl, h⟩ := h
  show kz_Z G (d + 2) 0 0 mX11_appendInput Qr Qx 7 [(0, .ref a0), (1, .int p1), (2, .int p2), (3, .int p3), (4, .int p4), (5, .int p5)] [.int r4] M3 0 0
  refine kz_if_ne (pc := 7) (tgt := 12) (by decide) dX11_appendInput_7 (fun hb => ?_) (fun hb => ?_)
  · replace h := h.1 hb
    refine kz_aload_n (pc := 12) 0 (v := .ref a0) (i := 0) rfl rfl rfl dX11_appendInput_12 ?_
    obtain ⟨fs6, v7, hM, hv, h⟩ := h
    refine kz_getf (pc := 13) (k := 0) kcX11 hM hv (by decide) kw_282 dX11_appendInput_13 ?_
    refine kz_iload_n (pc := 16) 1 (i := 1) rfl rfl dX11_appendInput_16 ?_
    obtain ⟨⟨fs39, he⟩, h⟩ := h
    refine kz_callV (pc := 17) (μ' := mX1_appendFour) (ci := 1) (q := (RX1, TX1, 2)) (b := v7) (d' := d + 1) (mc' := 0) (ms' := 0) (As := [.int p1]) (st := []) (c := 0) (sl := 0) kmX1_appendFour kw_435 (by omega) rfl (Nat.le_of_ble_eq_true rfl) he rfl rfl (Nat.le_refl _) (Nat.le_refl _) dX11_appendInput_17 (fun E M9 hx => kz_Tout rfl (Nat.le_refl _) (Nat.le_refl _) hx) (kz_Cmono (fun v M8 h => ?_) (fun _ _ h => h) h)
    obtain ⟨rfl, h⟩ := h
    show kz_Z G (d + 2) 0 0 mX11_appendInput Qr Qx 20 [(0, .ref a0), (1, .int p1), (2, .int p2), (3, .int p3), (4, .int p4), (5, .int p5)] [] M8 0 0
    refine kz_aload_n (pc := 20) 0 (v := .ref a0) (i := 0) rfl rfl rfl dX11_appendInput_20 ?_
    obtain ⟨fs11, v12, hM, hv, h⟩ := h
    refine kz_getf (pc := 21) (k := 0) kcX11 hM hv (by decide) kw_282 dX11_appendInput_21 ?_
    refine kz_iload_n (pc := 24) 2 (i := 2) rfl rfl dX11_appendInput_24 ?_
    obtain ⟨⟨fs38, he⟩, h⟩ := h
    refine kz_callV (pc := 25) (μ' := mX1_appendFour) (ci := 1) (q := (RX1, TX1, 2)) (b := v12) (d' := d + 1) (mc' := 0) (ms' := 0) (As := [.int p2]) (st := []) (c := 0) (sl := 0) kmX1_appendFour kw_435 (by omega) rfl (Nat.le_of_ble_eq_true rfl) he rfl rfl (Nat.le_refl _) (Nat.le_refl _) dX11_appendInput_25 (fun E M9 hx => kz_Tout rfl (Nat.le_refl _) (Nat.le_refl _) hx) (kz_Cmono (fun v M13 h => ?_) (fun _ _ h => h) h)
    obtain ⟨rfl, h⟩ := h
    show kz_Z G (d + 2) 0 0 mX11_appendInput Qr Qx 28 [(0, .ref a0), (1, .int p1), (2, .int p2), (3, .int p3), (4, .int p4), (5, .int p5)] [] M13 0 0
    refine kz_aload_n (pc := 28) 0 (v := .ref a0) (i := 0) rfl rfl rfl dX11_appendInput_28 ?_
    obtain ⟨fs16, v17, hM, hv, h⟩ := h
    refine kz_getf (pc := 29) (k := 0) kcX11 hM hv (by decide) kw_282 dX11_appendInput_29 ?_
    refine kz_iload_n (pc := 32) 3 (i := 3) rfl rfl dX11_appendInput_32 ?_
    obtain ⟨⟨fs37, he⟩, h⟩ := h
    refine kz_callV (pc := 33) (μ' := mX1_appendFour) (ci := 1) (q := (RX1, TX1, 2)) (b := v17) (d' := d + 1) (mc' := 0) (ms' := 0) (As := [.int p3]) (st := []) (c := 0) (sl := 0) kmX1_appendFour kw_435 (by omega) rfl (Nat.le_of_ble_eq_true rfl) he rfl rfl (Nat.le_refl _) (Nat.le_refl _) dX11_appendInput_33 (fun E M9 hx => kz_Tout rfl (Nat.le_refl _) (Nat.le_refl _) hx) (kz_Cmono (fun v M18 h => ?_) (fun _ _ h => h) h)
    obtain ⟨rfl, h⟩ := h
    show kz_Z G (d + 2) 0 0 mX11_appendInput Qr Qx 36 [(0, .ref a0), (1, .int p1), (2, .int p2), (3, .int p3), (4, .int p4), (5, .int p5)] [] M18 0 0
    refine kz_aload_n (pc := 36) 0 (v := .ref a0) (i := 0) rfl rfl rfl dX11_appendInput_36 ?_
    obtain ⟨fs21, v22, hM, hv, h⟩ := h
    refine kz_getf (pc := 37) (k := 0) kcX11 hM hv (by decide) kw_282 dX11_appendInput_37 ?_
    refine kz_iload (pc := 40) 4 (i := 4) rfl dX11_appendInput_40 ?_
    obtain ⟨⟨fs36, he⟩, h⟩ := h
    refine kz_callV (pc := 42) (μ' := mX1_appendFour) (ci := 1) (q := (RX1, TX1, 2)) (b := v22) (d' := d + 1) (mc' := 0) (ms' := 0) (As := [.int p4]) (st := []) (c := 0) (sl := 0) kmX1_appendFour kw_435 (by omega) rfl (Nat.le_of_ble_eq_true rfl) he rfl rfl (Nat.le_refl _) (Nat.le_refl _) dX11_appendInput_42 (fun E M9 hx => kz_Tout rfl (Nat.le_refl _) (Nat.le_refl _) hx) (kz_Cmono (fun v M23 h => ?_) (fun _ _ h => h) h)
    obtain ⟨rfl, h⟩ := h
    show kz_Z G (d + 2) 0 0 mX11_appendInput Qr Qx 45 [(0, .ref a0), (1, .int p1), (2, .int p2), (3, .int p3), (4, .int p4), (5, .int p5)] [] M23 0 0
    refine kz_aload_n (pc := 45) 0 (v := .ref a0) (i := 0) rfl rfl rfl dX11_appendInput_45 ?_
    obtain ⟨fs26, v27, hM, hv, h⟩ := h
    refine kz_getf (pc := 46) (k := 0) kcX11 hM hv (by decide) kw_282 dX11_appendInput_46 ?_
    refine kz_iload (pc := 49) 5 (i := 5) rfl dX11_appendInput_49 ?_
    obtain ⟨⟨fs35, he⟩, h⟩ := h
    refine kz_callV (pc := 51) (μ' := mX1_appendFour) (ci := 1) (q := (RX1, TX1, 2)) (b := v27) (d' := d + 1) (mc' := 0) (ms' := 0) (As := [.int p5]) (st := []) (c := 0) (sl := 0) kmX1_appendFour kw_435 (by omega) rfl (Nat.le_of_ble_eq_true rfl) he rfl rfl (Nat.le_refl _) (Nat.le_refl _) dX11_appendInput_51 (fun E M9 hx => kz_Tout rfl (Nat.le_refl _) (Nat.le_refl _) hx) (kz_Cmono (fun v M28 h => ?_) (fun _ _ h => h) h)
    obtain ⟨rfl, h⟩ := h
    show kz_Z G (d + 2) 0 0 mX11_appendInput Qr Qx 54 [(0, .ref a0), (1, .int p1), (2, .int p2), (3, .int p3), (4, .int p4), (5, .int p5)] [] M28 0 0
    refine kz_aload_n (pc := 54) 0 (v := .ref a0) (i := 0) rfl rfl rfl dX11_appendInput_54 ?_
    obtain ⟨fs31, v32, hM, hv, h⟩ := h
    refine kz_getf (pc := 55) (k := 0) kcX11 hM hv (by decide) kw_282 dX11_appendInput_55 ?_
    obtain ⟨fs33, v34, hM, hv, h⟩ := h
    refine kz_getf (pc := 58) (k := 1) kcX1 hM hv (by decide) kw_54 dX11_appendInput_58 ?_
    exact kz_iret (pc := 61) rfl (Nat.le_refl _) (Nat.le_refl _) dX11_appendInput_61 h
  · replace h := h.2 hb
    refine kz_iconst (pc := 10) (v := (-1)) (by decide) dX11_appendInput_10 ?_
    exact kz_iret (pc := 11) rfl (Nat.le_refl _) (Nat.le_refl _) dX11_appendInput_11 h
theorem dX11_truncateInput_0 : decode cX11_truncateInput 0 = .ok (.iload_n 1, 1) := by decide +kernel
theorem dX11_truncateInput_1 : decode cX11_truncateInput 1 = .ok (.ifCond .lt 14, 3) := by decide +kernel
theorem dX11_truncateInput_4 : decode cX11_truncateInput 4 = .ok (.iload_n 1, 1) := by decide +kernel
theorem dX11_truncateInput_5 : decode cX11_truncateInput 5 = .ok (.aload_n 0, 1) := by decide +kernel
theorem dX11_truncateInput_6 : decode cX11_truncateInput 6 = .ok (.getfield 10, 3) := by decide +kernel
theorem dX11_truncateInput_9 : decode cX11_truncateInput 9 = .ok (.getfield 83, 3) := by decide +kernel
theorem dX11_truncateInput_12 : decode cX11_truncateInput 12 = .ok (.if_icmp .le 5, 3) := by decide +kernel
theorem dX11_truncateInput_15 : decode cX11_truncateInput 15 = .ok (.iconst 0, 1) := by decide +kernel
theorem dX11_truncateInput_16 : decode cX11_truncateInput 16 = .ok (.ireturn, 1) := by decide +kernel
theorem dX11_truncateInput_17 : decode cX11_truncateInput 17 = .ok (.aload_n 0, 1) := by decide +kernel
theorem dX11_truncateInput_18 : decode cX11_truncateInput 18 = .ok (.getfield 10, 3) := by decide +kernel
theorem dX11_truncateInput_21 : decode cX11_truncateInput 21 = .ok (.iload_n 1, 1) := by decide +kernel
theorem dX11_truncateInput_22 : decode cX11_truncateInput 22 = .ok (.putfield 83, 3) := by decide +kernel
theorem dX11_truncateInput_25 : decode cX11_truncateInput 25 = .ok (.iconst 1, 1) := by decide +kernel
theorem dX11_truncateInput_26 : decode cX11_truncateInput 26 = .ok (.ireturn, 1) := by decide +kernel
theorem rX11_truncateInput_0 {G : kz_G} {d : Nat} {Qr : Option Value → kz_M → Prop} {Qx : String → kz_M → Prop} {a0 : Nat} {p1 : Int32}  {M : kz_M} (h : (p1 < 0 → Qr (some (.int 0)) M) ∧ (¬ p1 < 0 → ∃ fs1 v2, (M).1 a0 = some (.inl (10, fs1)) ∧ fs1[0]? = some (.ref v2) ∧ (∃ fs3 v4, (M).1 v2 = some (.inl (1, fs3)) ∧ fs3[1]? = some (.int v4) ∧ ((p1 ≤ v4 → ∃ fs5 v6, (M).1 a0 = some (.inl (10, fs5)) ∧ fs5[0]? = some (.ref v6) ∧ (∃ fs7, (M).1 v6 = some (.inl (1, fs7)) ∧ 1 < fs7.length ∧ (Qr (some (.int 1)) (kz_up M v6 (.inl (1, fs7.set 1 (.int p1))))))) ∧ (¬ p1 ≤ v4 → Qr (some (.int 0)) M))))) : kz_C G d 0 0 mX11_truncateInput [.ref a0, .int p1] M Qr Qx := by
  refine kz_enter (n := 1) kmX11_truncateInput.1 (Nat.le_of_ble_eq_true rfl) (ls := [(0, .ref a0), (1, .int p1)]) rfl ?_
  refine kz_iload_n (pc := 0) 1 (i := 1) rfl rfl dX11_truncateInput_0 ?_
  refine kz_if_lt (pc := 1) (tgt := 15) (by decide) dX11_truncateInput_1 (fun hb => ?_) (fun hb => ?_)
  · replace h := h.1 hb
    refine kz_iconst (pc := 15) (v := 0) (by decide) dX11_truncateInput_15 ?_
    exact kz_zret (pc := 16) (ty := .boolean) rfl (by decide) (Nat.le_refl _) (Nat.le_refl _) dX11_truncateInput_16 h
  · replace h := h.2 hb
    refine kz_iload_n (pc := 4) 1 (i := 1) rfl rfl dX11_truncateInput_4 ?_
    refine kz_aload_n (pc := 5) 0 (v := .ref a0) (i := 0) rfl rfl rfl dX11_truncateInput_5 ?_
    obtain ⟨fs1, v2, hM, hv, h⟩ := h
    refine kz_getf (pc := 6) (k := 0) kcX11 hM hv (by decide) kw_282 dX11_truncateInput_6 ?_
    obtain ⟨fs3, v4, hM, hv, h⟩ := h
    refine kz_getf (pc := 9) (k := 1) kcX1 hM hv (by decide) kw_54 dX11_truncateInput_9 ?_
    refine kz_icmp_le (pc := 12) (tgt := 17) (by decide) dX11_truncateInput_12 (fun hb => ?_) (fun hb => ?_)
    · replace h := h.1 hb
      refine kz_aload_n (pc := 17) 0 (v := .ref a0) (i := 0) rfl rfl rfl dX11_truncateInput_17 ?_
      obtain ⟨fs5, v6, hM, hv, h⟩ := h
      refine kz_getf (pc := 18) (k := 0) kcX11 hM hv (by decide) kw_282 dX11_truncateInput_18 ?_
      refine kz_iload_n (pc := 21) 1 (i := 1) rfl rfl dX11_truncateInput_21 ?_
      obtain ⟨fs7, hM, hlen, h⟩ := h
      refine kz_putf (pc := 22) (k := 1) kcX1 hM (by decide) hlen kw_54 rfl rfl rfl dX11_truncateInput_22 ?_
      refine kz_iconst (pc := 25) (v := 1) (by decide) dX11_truncateInput_25 ?_
      exact kz_zret (pc := 26) (ty := .boolean) rfl (by decide) (Nat.le_refl _) (Nat.le_refl _) dX11_truncateInput_26 h
    · replace h := h.2 hb
      refine kz_iconst (pc := 15) (v := 0) (by decide) dX11_truncateInput_15 ?_
      exact kz_zret (pc := 16) (ty := .boolean) rfl (by decide) (Nat.le_refl _) (Nat.le_refl _) dX11_truncateInput_16 h
theorem dX11_loadOffice_0 : decode cX11_loadOffice 0 = .ok (.aload_n 0, 1) := by decide +kernel
theorem dX11_loadOffice_1 : decode cX11_loadOffice 1 = .ok (.getfield 43, 3) := by decide +kernel
theorem dX11_loadOffice_4 : decode cX11_loadOffice 4 = .ok (.aload_n 0, 1) := by decide +kernel
theorem dX11_loadOffice_5 : decode cX11_loadOffice 5 = .ok (.getfield 10, 3) := by decide +kernel
theorem dX11_loadOffice_8 : decode cX11_loadOffice 8 = .ok (.invokevirtual 86, 3) := by decide +kernel
theorem dX11_loadOffice_11 : decode cX11_loadOffice 11 = .ok (.istore_n 1, 1) := by decide +kernel
theorem dX11_loadOffice_12 : decode cX11_loadOffice 12 = .ok (.aload_n 0, 1) := by decide +kernel
theorem dX11_loadOffice_13 : decode cX11_loadOffice 13 = .ok (.getfield 10, 3) := by decide +kernel
theorem dX11_loadOffice_16 : decode cX11_loadOffice 16 = .ok (.iconst 0, 1) := by decide +kernel
theorem dX11_loadOffice_17 : decode cX11_loadOffice 17 = .ok (.putfield 83, 3) := by decide +kernel
theorem dX11_loadOffice_20 : decode cX11_loadOffice 20 = .ok (.aload_n 0, 1) := by decide +kernel
theorem dX11_loadOffice_21 : decode cX11_loadOffice 21 = .ok (.aload_n 0, 1) := by decide +kernel
theorem dX11_loadOffice_22 : decode cX11_loadOffice 22 = .ok (.getfield 43, 3) := by decide +kernel
theorem dX11_loadOffice_25 : decode cX11_loadOffice 25 = .ok (.getfield 90, 3) := by decide +kernel
theorem dX11_loadOffice_28 : decode cX11_loadOffice 28 = .ok (.putfield 58, 3) := by decide +kernel
theorem dX11_loadOffice_31 : decode cX11_loadOffice 31 = .ok (.aload_n 0, 1) := by decide +kernel
theorem dX11_loadOffice_32 : decode cX11_loadOffice 32 = .ok (.aload_n 0, 1) := by decide +kernel
theorem dX11_loadOffice_33 : decode cX11_loadOffice 33 = .ok (.getfield 43, 3) := by decide +kernel
theorem dX11_loadOffice_36 : decode cX11_loadOffice 36 = .ok (.getfield 91, 3) := by decide +kernel
theorem dX11_loadOffice_39 : decode cX11_loadOffice 39 = .ok (.putfield 62, 3) := by decide +kernel
theorem dX11_loadOffice_42 : decode cX11_loadOffice 42 = .ok (.iload_n 1, 1) := by decide +kernel
theorem dX11_loadOffice_43 : decode cX11_loadOffice 43 = .ok (.ifCond .ne 5, 3) := by decide +kernel
theorem dX11_loadOffice_46 : decode cX11_loadOffice 46 = .ok (.iconst (-1), 1) := by decide +kernel
theorem dX11_loadOffice_47 : decode cX11_loadOffice 47 = .ok (.ireturn, 1) := by decide +kernel
theorem dX11_loadOffice_48 : decode cX11_loadOffice 48 = .ok (.aload_n 0, 1) := by decide +kernel
theorem dX11_loadOffice_49 : decode cX11_loadOffice 49 = .ok (.getfield 26, 3) := by decide +kernel
theorem dX11_loadOffice_52 : decode cX11_loadOffice 52 = .ok (.aload_n 0, 1) := by decide +kernel
theorem dX11_loadOffice_53 : decode cX11_loadOffice 53 = .ok (.getfield 43, 3) := by decide +kernel
theorem dX11_loadOffice_56 : decode cX11_loadOffice 56 = .ok (.getfield 92, 3) := by decide +kernel
theorem dX11_loadOffice_59 : decode cX11_loadOffice 59 = .ok (.invokevirtual 95, 3) := by decide +kernel
theorem dX11_loadOffice_62 : decode cX11_loadOffice 62 = .ok (.aload_n 0, 1) := by decide +kernel
theorem dX11_loadOffice_63 : decode cX11_loadOffice 63 = .ok (.getfield 36, 3) := by decide +kernel
theorem dX11_loadOffice_66 : decode cX11_loadOffice 66 = .ok (.invokevirtual 99, 3) := by decide +kernel
theorem dX11_loadOffice_69 : decode cX11_loadOffice 69 = .ok (.aload_n 0, 1) := by decide +kernel
theorem dX11_loadOffice_70 : decode cX11_loadOffice 70 = .ok (.iconst 0, 1) := by decide +kernel
theorem dX11_loadOffice_71 : decode cX11_loadOffice 71 = .ok (.putfield 54, 3) := by decide +kernel
theorem dX11_loadOffice_74 : decode cX11_loadOffice 74 = .ok (.aload_n 0, 1) := by decide +kernel
theorem dX11_loadOffice_75 : decode cX11_loadOffice 75 = .ok (.getfield 26, 3) := by decide +kernel
theorem dX11_loadOffice_78 : decode cX11_loadOffice 78 = .ok (.getfield 102, 3) := by decide +kernel
theorem dX11_loadOffice_81 : decode cX11_loadOffice 81 = .ok (.ireturn, 1) := by decide +kernel
theorem rX11_loadOffice_0 {G : kz_G} {d : Nat} {Qr : Option Value → kz_M → Prop} {Qx : String → kz_M → Prop} {a0 : Nat}  {M : kz_M} (h : ∃ fs1 v2, (M).1 a0 = some (.inl (10, fs1)) ∧ fs1[5]? = some (.ref v2) ∧ (∃ fs3 v4, (M).1 a0 = some (.inl (10, fs3)) ∧ fs3[0]? = some (.ref v4) ∧ ((∃ fs42, (M).1 v2 = some (.inl (7, fs42))) ∧ kz_C G (d + 8) 0 0 mX8_read [.ref v2, .ref v4] M (fun v M5 => ∃ r6 : Int32, v = some (.int r6) ∧ (∃ fs8 v9, (M5).1 a0 = some (.inl (10, fs8)) ∧ fs8[0]? = some (.ref v9) ∧ (∃ fs10, (M5).1 v9 = some (.inl (1, fs10)) ∧ 1 < fs10.length ∧ (∃ fs11 v12, ((kz_up M5 v9 (.inl (1, fs10.set 1 (.int 0))))).1 a0 = some (.inl (10, fs11)) ∧ fs11[5]? = some (.ref v12) ∧ (∃ fs13 v14, ((kz_up M5 v9 (.inl (1, fs10.set 1 (.int 0))))).1 v12 = some (.inl (7, fs13)) ∧ fs13[7]? = some (.int v14) ∧ (∃ fs15, ((kz_up M5 v9 (.inl (1, fs10.set 1 (.int 0))))).1 a0 = some (.inl (10, fs15)) ∧ 8 < fs15.length ∧ (∃ fs16 v17, ((kz_up (kz_up M5 v9 (.inl (1, fs10.set 1 (.int 0)))) a0 (.inl (10, fs15.set 8 (.int v14))))).1 a0 = some (.inl (10, fs16)) ∧ fs16[5]? = some (.ref v17) ∧ (∃ fs18 v19, ((kz_up (kz_up M5 v9 (.inl (1, fs10.set 1 (.int 0)))) a0 (.inl (10, fs15.set 8 (.int v14))))).1 v17 = some (.inl (7, fs18)) ∧ fs18[8]? = some (.int v19) ∧ (∃ fs20, ((kz_up (kz_up M5 v9 (.inl (1, fs10.set 1 (.int 0)))) a0 (.inl (10, fs15.set 8 (.int v14))))).1 a0 = some (.inl (10, fs20)) ∧ 9 < fs20.length ∧ ((¬ r6 = 0 → ∃ fs21 v22, ((kz_up (kz_up (kz_up M5 v9 (.inl (1, fs10.set 1 (.int 0)))) a0 (.inl (10, fs15.set 8 (.int v14)))) a0 (.inl (10, fs20.set 9 (.int v19))))).1 a0 = some (.inl (10, fs21)) ∧ fs21[2]? = some (.ref v22) ∧ (∃ fs23 v24, ((kz_up (kz_up (kz_up M5 v9 (.inl (1, fs10.set 1 (.int 0)))) a0 (.inl (10, fs15.set 8 (.int v14)))) a0 (.inl (10, fs20.set 9 (.int v19))))).1 a0 = some (.inl (10, fs23)) ∧ fs23[5]? = some (.ref v24) ∧ (∃ fs25 v26, ((kz_up (kz_up (kz_up M5 v9 (.inl (1, fs10.set 1 (.int 0)))) a0 (.inl (10, fs15.set 8 (.int v14)))) a0 (.inl (10, fs20.set 9 (.int v19))))).1 v24 = some (.inl (7, fs25)) ∧ fs25[0]? = some (.ref v26) ∧ ((∃ fs41, ((kz_up (kz_up (kz_up M5 v9 (.inl (1, fs10.set 1 (.int 0)))) a0 (.inl (10, fs15.set 8 (.int v14)))) a0 (.inl (10, fs20.set 9 (.int v19))))).1 v22 = some (.inl (8, fs41))) ∧ kz_C G (d + 8) 0 0 mX9_takeOver [.ref v22, .ref v26] (kz_up (kz_up (kz_up M5 v9 (.inl (1, fs10.set 1 (.int 0)))) a0 (.inl (10, fs15.set 8 (.int v14)))) a0 (.inl (10, fs20.set 9 (.int v19)))) (fun v M27 => v = none ∧ (∃ fs30 v31, (M27).1 a0 = some (.inl (10, fs30)) ∧ fs30[4]? = some (.ref v31) ∧ ((∃ fs40, (M27).1 v31 = some (.inl (0, fs40))) ∧ kz_C G (d + 8) 0 0 mX0_forget [.ref v31] M27 (fun v M32 => v = none ∧ (∃ fs35, (M32).1 a0 = some (.inl (10, fs35)) ∧ 7 < fs35.length ∧ (∃ fs36 v37, ((kz_up M32 a0 (.inl (10, fs35.set 7 (.int 0))))).1 a0 = some (.inl (10, fs36)) ∧ fs36[2]? = some (.ref v37) ∧ (∃ fs38 v39, ((kz_up M32 a0 (.inl (10, fs35.set 7 (.int 0))))).1 v37 = some (.inl (8, fs38)) ∧ fs38[2]? = some (.int v39) ∧ (Qr (some (.int v39)) (kz_up M32 a0 (.inl (10, fs35.set 7 (.int 0))))))))) Qx))) Qx)))) ∧ (r6 = 0 → Qr (some (.int ((-1)))) (kz_up (kz_up (kz_up M5 v9 (.inl (1, fs10.set 1 (.int 0)))) a0 (.inl (10, fs15.set 8 (.int v14)))) a0 (.inl (10, fs20.set 9 (.int v19))))))))))))))) Qx))) : kz_C G (d + 9) 0 0 mX11_loadOffice [.ref a0] M Qr Qx := by
  refine kz_enter (n := 0) kmX11_loadOffice.1 (Nat.le_of_ble_eq_true rfl) (ls := [(0, .ref a0)]) rfl ?_
  refine kz_aload_n (pc := 0) 0 (v := .ref a0) (i := 0) rfl rfl rfl dX11_loadOffice_0 ?_
  obtain ⟨fs1, v2, hM, hv, h⟩ := h
  refine kz_getf (pc := 1) (k := 5) kcX11 hM hv (by decide) kw_287 dX11_loadOffice_1 ?_
  refine kz_aload_n (pc := 4) 0 (v := .ref a0) (i := 0) rfl rfl rfl dX11_loadOffice_4 ?_
  obtain ⟨fs3, v4, hM, hv, h⟩ := h
  refine kz_getf (pc := 5) (k := 0) kcX11 hM hv (by decide) kw_282 dX11_loadOffice_5 ?_
  obtain ⟨⟨fs42, he⟩, h⟩ := h
  refine kz_callV (pc := 8) (μ' := mX8_read) (ci := 7) (q := (RX8, TX8, 9)) (b := v2) (d' := d + 8) (mc' := 0) (ms' := 0) (As := [.ref v4]) (st := []) (c := 0) (sl := 0) kmX8_read kw_317 (by omega) rfl (Nat.le_of_ble_eq_true rfl) he rfl rfl (Nat.le_refl _) (Nat.le_refl _) dX11_loadOffice_8 (fun E M9 hx => kz_Tout rfl (Nat.le_refl _) (Nat.le_refl _) hx) (kz_Cmono (fun v M5 h => ?_) (fun _ _ h => h) h)
  obtain ⟨r6, rfl, h⟩ := h
  show kz_Z G (d + 9) 0 0 mX11_loadOffice Qr Qx 11 [(0, .ref a0)] [.int r6] M5 0 0
  refine kz_istore_n (pc := 11) (i := 1) (ls' := [(0, .ref a0)]) rfl (by decide) rfl dX11_loadOffice_11 ?_
  refine kz_aload_n (pc := 12) 1 (v := .ref a0) (i := 0) rfl rfl rfl dX11_loadOffice_12 ?_
  obtain ⟨fs8, v9, hM, hv, h⟩ := h
  refine kz_getf (pc := 13) (k := 0) kcX11 hM hv (by decide) kw_282 dX11_loadOffice_13 ?_
  refine kz_iconst (pc := 16) (v := 0) (by decide) dX11_loadOffice_16 ?_
  obtain ⟨fs10, hM, hlen, h⟩ := h
  refine kz_putf (pc := 17) (k := 1) kcX1 hM (by decide) hlen kw_54 rfl rfl rfl dX11_loadOffice_17 ?_
  refine kz_aload_n (pc := 20) 1 (v := .ref a0) (i := 0) rfl rfl rfl dX11_loadOffice_20 ?_
  refine kz_aload_n (pc := 21) 1 (v := .ref a0) (i := 0) rfl rfl rfl dX11_loadOffice_21 ?_
  obtain ⟨fs11, v12, hM, hv, h⟩ := h
  refine kz_getf (pc := 22) (k := 5) kcX11 hM hv (by decide) kw_287 dX11_loadOffice_22 ?_
  obtain ⟨fs13, v14, hM, hv, h⟩ := h
  refine kz_getf (pc := 25) (k := 7) kcX8 hM hv (by decide) kw_185 dX11_loadOffice_25 ?_
  obtain ⟨fs15, hM, hlen, h⟩ := h
  refine kz_putf (pc := 28) (k := 8) kcX11 hM (by decide) hlen kw_290 rfl rfl rfl dX11_loadOffice_28 ?_
  refine kz_aload_n (pc := 31) 1 (v := .ref a0) (i := 0) rfl rfl rfl dX11_loadOffice_31 ?_
  refine kz_aload_n (pc := 32) 1 (v := .ref a0) (i := 0) rfl rfl rfl dX11_loadOffice_32 ?_
  obtain ⟨fs16, v17, hM, hv, h⟩ := h
  refine kz_getf (pc := 33) (k := 5) kcX11 hM hv (by decide) kw_287 dX11_loadOffice_33 ?_
  obtain ⟨fs18, v19, hM, hv, h⟩ := h
  refine kz_getf (pc := 36) (k := 8) kcX8 hM hv (by decide) kw_187 dX11_loadOffice_36 ?_
  obtain ⟨fs20, hM, hlen, h⟩ := h
  refine kz_putf (pc := 39) (k := 9) kcX11 hM (by decide) hlen kw_291 rfl rfl rfl dX11_loadOffice_39 ?_
  refine kz_iload_n (pc := 42) 0 (i := 1) rfl rfl dX11_loadOffice_42 ?_
  refine kz_if_ne (pc := 43) (tgt := 48) (by decide) dX11_loadOffice_43 (fun hb => ?_) (fun hb => ?_)
  · replace h := h.1 hb
    refine kz_aload_n (pc := 48) 1 (v := .ref a0) (i := 0) rfl rfl rfl dX11_loadOffice_48 ?_
    obtain ⟨fs21, v22, hM, hv, h⟩ := h
    refine kz_getf (pc := 49) (k := 2) kcX11 hM hv (by decide) kw_284 dX11_loadOffice_49 ?_
    refine kz_aload_n (pc := 52) 1 (v := .ref a0) (i := 0) rfl rfl rfl dX11_loadOffice_52 ?_
    obtain ⟨fs23, v24, hM, hv, h⟩ := h
    refine kz_getf (pc := 53) (k := 5) kcX11 hM hv (by decide) kw_287 dX11_loadOffice_53 ?_
    obtain ⟨fs25, v26, hM, hv, h⟩ := h
    refine kz_getf (pc := 56) (k := 0) kcX8 hM hv (by decide) kw_177 dX11_loadOffice_56 ?_
    obtain ⟨⟨fs41, he⟩, h⟩ := h
    refine kz_callV (pc := 59) (μ' := mX9_takeOver) (ci := 8) (q := (RX9, TX9, 10)) (b := v22) (d' := d + 8) (mc' := 0) (ms' := 0) (As := [.ref v26]) (st := []) (c := 0) (sl := 0) kmX9_takeOver kw_403 (by omega) rfl (Nat.le_of_ble_eq_true rfl) he rfl rfl (Nat.le_refl _) (Nat.le_refl _) dX11_loadOffice_59 (fun E M9 hx => kz_Tout rfl (Nat.le_refl _) (Nat.le_refl _) hx) (kz_Cmono (fun v M27 h => ?_) (fun _ _ h => h) h)
    obtain ⟨rfl, h⟩ := h
    show kz_Z G (d + 9) 0 0 mX11_loadOffice Qr Qx 62 [(1, .int r6), (0, .ref a0)] [] M27 0 0
    refine kz_aload_n (pc := 62) 1 (v := .ref a0) (i := 0) rfl rfl rfl dX11_loadOffice_62 ?_
    obtain ⟨fs30, v31, hM, hv, h⟩ := h
    refine kz_getf (pc := 63) (k := 4) kcX11 hM hv (by decide) kw_286 dX11_loadOffice_63 ?_
    obtain ⟨⟨fs40, he⟩, h⟩ := h
    refine kz_callV (pc := 66) (μ' := mX0_forget) (ci := 0) (q := (RX0, TX0, 3)) (b := v31) (d' := d + 8) (mc' := 0) (ms' := 0) (As := []) (st := []) (c := 0) (sl := 0) kmX0_forget kw_415 (by omega) rfl (Nat.le_of_ble_eq_true rfl) he rfl rfl (Nat.le_refl _) (Nat.le_refl _) dX11_loadOffice_66 (fun E M9 hx => kz_Tout rfl (Nat.le_refl _) (Nat.le_refl _) hx) (kz_Cmono (fun v M32 h => ?_) (fun _ _ h => h) h)
    obtain ⟨rfl, h⟩ := h
    show kz_Z G (d + 9) 0 0 mX11_loadOffice Qr Qx 69 [(1, .int r6), (0, .ref a0)] [] M32 0 0
    refine kz_aload_n (pc := 69) 1 (v := .ref a0) (i := 0) rfl rfl rfl dX11_loadOffice_69 ?_
    refine kz_iconst (pc := 70) (v := 0) (by decide) dX11_loadOffice_70 ?_
    obtain ⟨fs35, hM, hlen, h⟩ := h
    refine kz_putf (pc := 71) (k := 7) kcX11 hM (by decide) hlen kw_289 rfl rfl rfl dX11_loadOffice_71 ?_
    refine kz_aload_n (pc := 74) 1 (v := .ref a0) (i := 0) rfl rfl rfl dX11_loadOffice_74 ?_
    obtain ⟨fs36, v37, hM, hv, h⟩ := h
    refine kz_getf (pc := 75) (k := 2) kcX11 hM hv (by decide) kw_284 dX11_loadOffice_75 ?_
    obtain ⟨fs38, v39, hM, hv, h⟩ := h
    refine kz_getf (pc := 78) (k := 2) kcX9 hM hv (by decide) kw_114 dX11_loadOffice_78 ?_
    exact kz_iret (pc := 81) rfl (Nat.le_refl _) (Nat.le_refl _) dX11_loadOffice_81 h
  · replace h := h.2 hb
    refine kz_iconst (pc := 46) (v := (-1)) (by decide) dX11_loadOffice_46 ?_
    exact kz_iret (pc := 47) rfl (Nat.le_refl _) (Nat.le_refl _) dX11_loadOffice_47 h
theorem dX11_count_0 : decode cX11_count 0 = .ok (.iload_n 1, 1) := by decide +kernel
theorem dX11_count_1 : decode cX11_count 1 = .ok (.tableswitch 130 0 8 #[51, 59, 67, 77, 87, 95, 103, 114, 122], 51) := by decide +kernel
theorem dX11_count_52 : decode cX11_count 52 = .ok (.aload_n 0, 1) := by decide +kernel
theorem dX11_count_53 : decode cX11_count 53 = .ok (.getfield 26, 3) := by decide +kernel
theorem dX11_count_56 : decode cX11_count 56 = .ok (.getfield 102, 3) := by decide +kernel
theorem dX11_count_59 : decode cX11_count 59 = .ok (.ireturn, 1) := by decide +kernel
theorem dX11_count_60 : decode cX11_count 60 = .ok (.aload_n 0, 1) := by decide +kernel
theorem dX11_count_61 : decode cX11_count 61 = .ok (.getfield 26, 3) := by decide +kernel
theorem dX11_count_64 : decode cX11_count 64 = .ok (.getfield 105, 3) := by decide +kernel
theorem dX11_count_67 : decode cX11_count 67 = .ok (.ireturn, 1) := by decide +kernel
theorem dX11_count_68 : decode cX11_count 68 = .ok (.aload_n 0, 1) := by decide +kernel
theorem dX11_count_69 : decode cX11_count 69 = .ok (.getfield 26, 3) := by decide +kernel
theorem dX11_count_72 : decode cX11_count 72 = .ok (.iconst (-1), 1) := by decide +kernel
theorem dX11_count_73 : decode cX11_count 73 = .ok (.iconst 0, 1) := by decide +kernel
theorem dX11_count_74 : decode cX11_count 74 = .ok (.invokevirtual 110, 3) := by decide +kernel
theorem dX11_count_77 : decode cX11_count 77 = .ok (.ireturn, 1) := by decide +kernel
theorem dX11_count_78 : decode cX11_count 78 = .ok (.aload_n 0, 1) := by decide +kernel
theorem dX11_count_79 : decode cX11_count 79 = .ok (.getfield 26, 3) := by decide +kernel
theorem dX11_count_82 : decode cX11_count 82 = .ok (.iconst (-1), 1) := by decide +kernel
theorem dX11_count_83 : decode cX11_count 83 = .ok (.iconst 1, 1) := by decide +kernel
theorem dX11_count_84 : decode cX11_count 84 = .ok (.invokevirtual 110, 3) := by decide +kernel
theorem dX11_count_87 : decode cX11_count 87 = .ok (.ireturn, 1) := by decide +kernel
theorem dX11_count_88 : decode cX11_count 88 = .ok (.aload_n 0, 1) := by decide +kernel
theorem dX11_count_89 : decode cX11_count 89 = .ok (.getfield 26, 3) := by decide +kernel
theorem dX11_count_92 : decode cX11_count 92 = .ok (.getfield 114, 3) := by decide +kernel
theorem dX11_count_95 : decode cX11_count 95 = .ok (.ireturn, 1) := by decide +kernel
theorem dX11_count_96 : decode cX11_count 96 = .ok (.aload_n 0, 1) := by decide +kernel
theorem dX11_count_97 : decode cX11_count 97 = .ok (.getfield 26, 3) := by decide +kernel
theorem dX11_count_100 : decode cX11_count 100 = .ok (.getfield 117, 3) := by decide +kernel
theorem dX11_count_103 : decode cX11_count 103 = .ok (.ireturn, 1) := by decide +kernel
theorem dX11_count_104 : decode cX11_count 104 = .ok (.aload_n 0, 1) := by decide +kernel
theorem dX11_count_105 : decode cX11_count 105 = .ok (.getfield 26, 3) := by decide +kernel
theorem dX11_count_108 : decode cX11_count 108 = .ok (.getfield 120, 3) := by decide +kernel
theorem dX11_count_111 : decode cX11_count 111 = .ok (.getfield 124, 3) := by decide +kernel
theorem dX11_count_114 : decode cX11_count 114 = .ok (.ireturn, 1) := by decide +kernel
theorem dX11_count_115 : decode cX11_count 115 = .ok (.aload_n 0, 1) := by decide +kernel
theorem dX11_count_116 : decode cX11_count 116 = .ok (.getfield 26, 3) := by decide +kernel
theorem dX11_count_119 : decode cX11_count 119 = .ok (.invokevirtual 129, 3) := by decide +kernel
theorem dX11_count_122 : decode cX11_count 122 = .ok (.ireturn, 1) := by decide +kernel
theorem dX11_count_123 : decode cX11_count 123 = .ok (.aload_n 0, 1) := by decide +kernel
theorem dX11_count_124 : decode cX11_count 124 = .ok (.getfield 36, 3) := by decide +kernel
theorem dX11_count_127 : decode cX11_count 127 = .ok (.getfield 133, 3) := by decide +kernel
theorem dX11_count_130 : decode cX11_count 130 = .ok (.ireturn, 1) := by decide +kernel
theorem dX11_count_131 : decode cX11_count 131 = .ok (.new 134, 3) := by decide +kernel
theorem dX11_count_134 : decode cX11_count 134 = .ok (.dup, 1) := by decide +kernel
theorem dX11_count_135 : decode cX11_count 135 = .ok (.ldc 136, 2) := by decide +kernel
theorem dX11_count_137 : decode cX11_count 137 = .ok (.invokespecial 138, 3) := by decide +kernel
theorem dX11_count_140 : decode cX11_count 140 = .ok (.athrow, 1) := by decide +kernel
theorem rX11_count_0 {G : kz_G} {d : Nat} {mc ms : Nat} {Qr : Option Value → kz_M → Prop} {Qx : String → kz_M → Prop} {a0 : Nat} {p1 : Int32}  {M : kz_M} (hG : kz_stat G) (h : (p1 = 0 → ∃ fs1 v2, (M).1 a0 = some (.inl (10, fs1)) ∧ fs1[2]? = some (.ref v2) ∧ (∃ fs3 v4, (M).1 v2 = some (.inl (8, fs3)) ∧ fs3[2]? = some (.int v4) ∧ (Qr (some (.int v4)) M))) ∧ (p1 = 1 → ∃ fs5 v6, (M).1 a0 = some (.inl (10, fs5)) ∧ fs5[2]? = some (.ref v6) ∧ (∃ fs7 v8, (M).1 v6 = some (.inl (8, fs7)) ∧ fs7[3]? = some (.int v8) ∧ (Qr (some (.int v8)) M))) ∧ (p1 = 2 → ∃ fs9 v10, (M).1 a0 = some (.inl (10, fs9)) ∧ fs9[2]? = some (.ref v10) ∧ ((∃ fs14, (M).1 v10 = some (.inl (8, fs14))) ∧ kz_C G (d + 6) 0 0 mX9_linesOf [.ref v10, .int ((-1)), .int 0] M (fun v M11 => ∃ r12 : Int32, v = some (.int r12) ∧ (Qr (some (.int r12)) M11)) Qx)) ∧ (p1 = 3 → ∃ fs15 v16, (M).1 a0 = some (.inl (10, fs15)) ∧ fs15[2]? = some (.ref v16) ∧ ((∃ fs20, (M).1 v16 = some (.inl (8, fs20))) ∧ kz_C G (d + 6) 0 0 mX9_linesOf [.ref v16, .int ((-1)), .int 1] M (fun v M17 => ∃ r18 : Int32, v = some (.int r18) ∧ (Qr (some (.int r18)) M17)) Qx)) ∧ (p1 = 4 → ∃ fs21 v22, (M).1 a0 = some (.inl (10, fs21)) ∧ fs21[2]? = some (.ref v22) ∧ (∃ fs23 v24, (M).1 v22 = some (.inl (8, fs23)) ∧ fs23[0]? = some (.int v24) ∧ (Qr (some (.int v24)) M))) ∧ (p1 = 5 → ∃ fs25 v26, (M).1 a0 = some (.inl (10, fs25)) ∧ fs25[2]? = some (.ref v26) ∧ (∃ fs27 v28, (M).1 v26 = some (.inl (8, fs27)) ∧ fs27[1]? = some (.int v28) ∧ (Qr (some (.int v28)) M))) ∧ (p1 = 6 → ∃ fs29 v30, (M).1 a0 = some (.inl (10, fs29)) ∧ fs29[2]? = some (.ref v30) ∧ (∃ fs31 v32, (M).1 v30 = some (.inl (8, fs31)) ∧ fs31[9]? = some (.ref v32) ∧ (∃ fs33 v34, (M).1 v32 = some (.inl (2, fs33)) ∧ fs33[1]? = some (.int v34) ∧ (Qr (some (.int v34)) M)))) ∧ (p1 = 7 → ∃ fs35 v36, (M).1 a0 = some (.inl (10, fs35)) ∧ fs35[2]? = some (.ref v36) ∧ ((∃ fs40, (M).1 v36 = some (.inl (8, fs40))) ∧ kz_C G (d + 6) 0 0 mX9_owed [.ref v36] M (fun v M37 => ∃ r38 : Int32, v = some (.int r38) ∧ (Qr (some (.int r38)) M37)) Qx)) ∧ (p1 = 8 → ∃ fs41 v42, (M).1 a0 = some (.inl (10, fs41)) ∧ fs41[4]? = some (.ref v42) ∧ (∃ fs43 v44, (M).1 v42 = some (.inl (0, fs43)) ∧ fs43[2]? = some (.int v44) ∧ (Qr (some (.int v44)) M))) ∧ (¬ p1 = 0 → ¬ p1 = 1 → ¬ p1 = 2 → ¬ p1 = 3 → ¬ p1 = 4 → ¬ p1 = 5 → ¬ p1 = 6 → ¬ p1 = 7 → ¬ p1 = 8 → 0 + 1 ≤ mc ∧ 0 + 6 ≤ ms ∧ ∀ g45, Qx "java/lang/IllegalArgumentException" ((M).1, (M).2 + g45))) : kz_C G (d + 7) mc ms mX11_count [.ref a0, .int p1] M Qr Qx := by
  refine kz_enter (n := 1) kmX11_count.1 (Nat.le_of_ble_eq_true rfl) (ls := [(0, .ref a0), (1, .int p1)]) rfl ?_
  refine kz_iload_n (pc := 0) 1 (i := 1) rfl rfl dX11_count_0 ?_
  by_cases hk0 : p1 = 0
  · replace h := h.1 hk0
    refine kz_tableIn (pc := 1) (off := 51) (tgt := 52) (by rw [hk0]; decide) (by rw [hk0]; decide) (by rw [hk0]; decide) (by decide) dX11_count_1 ?_
    refine kz_aload_n (pc := 52) 0 (v := .ref a0) (i := 0) rfl rfl rfl dX11_count_52 ?_
    obtain ⟨fs1, v2, hM, hv, h⟩ := h
    refine kz_getf (pc := 53) (k := 2) kcX11 hM hv (by decide) kw_284 dX11_count_53 ?_
    obtain ⟨fs3, v4, hM, hv, h⟩ := h
    refine kz_getf (pc := 56) (k := 2) kcX9 hM hv (by decide) kw_114 dX11_count_56 ?_
    exact kz_iret (pc := 59) rfl (Nat.zero_le _) (Nat.zero_le _) dX11_count_59 h
  by_cases hk1 : p1 = 1
  · replace h := h.2.1 hk1
    refine kz_tableIn (pc := 1) (off := 59) (tgt := 60) (by rw [hk1]; decide) (by rw [hk1]; decide) (by rw [hk1]; decide) (by decide) dX11_count_1 ?_
    refine kz_aload_n (pc := 60) 0 (v := .ref a0) (i := 0) rfl rfl rfl dX11_count_60 ?_
    obtain ⟨fs5, v6, hM, hv, h⟩ := h
    refine kz_getf (pc := 61) (k := 2) kcX11 hM hv (by decide) kw_284 dX11_count_61 ?_
    obtain ⟨fs7, v8, hM, hv, h⟩ := h
    refine kz_getf (pc := 64) (k := 3) kcX9 hM hv (by decide) kw_116 dX11_count_64 ?_
    exact kz_iret (pc := 67) rfl (Nat.zero_le _) (Nat.zero_le _) dX11_count_67 h
  by_cases hk2 : p1 = 2
  · replace h := h.2.2.1 hk2
    refine kz_tableIn (pc := 1) (off := 67) (tgt := 68) (by rw [hk2]; decide) (by rw [hk2]; decide) (by rw [hk2]; decide) (by decide) dX11_count_1 ?_
    refine kz_aload_n (pc := 68) 0 (v := .ref a0) (i := 0) rfl rfl rfl dX11_count_68 ?_
    obtain ⟨fs9, v10, hM, hv, h⟩ := h
    refine kz_getf (pc := 69) (k := 2) kcX11 hM hv (by decide) kw_284 dX11_count_69 ?_
    refine kz_iconst (pc := 72) (v := (-1)) (by decide) dX11_count_72 ?_
    refine kz_iconst (pc := 73) (v := 0) (by decide) dX11_count_73 ?_
    obtain ⟨⟨fs14, he⟩, h⟩ := h
    refine kz_callV (pc := 74) (μ' := mX9_linesOf) (ci := 8) (q := (RX9, TX9, 10)) (b := v10) (d' := d + 6) (mc' := 0) (ms' := 0) (As := [.int ((-1)), .int 0]) (st := []) (c := 0) (sl := 0) kmX9_linesOf kw_714 (by omega) rfl (Nat.le_of_ble_eq_true rfl) he rfl rfl (Nat.zero_le _) (Nat.zero_le _) dX11_count_74 (fun E M9 hx => kz_Tout rfl (Nat.zero_le _) (Nat.zero_le _) hx) (kz_Cmono (fun v M11 h => ?_) (fun _ _ h => h) h)
    obtain ⟨r12, rfl, h⟩ := h
    show kz_Z G (d + 7) mc ms mX11_count Qr Qx 77 [(0, .ref a0), (1, .int p1)] [.int r12] M11 0 0
    exact kz_iret (pc := 77) rfl (Nat.zero_le _) (Nat.zero_le _) dX11_count_77 h
  by_cases hk3 : p1 = 3
  · replace h := h.2.2.2.1 hk3
    refine kz_tableIn (pc := 1) (off := 77) (tgt := 78) (by rw [hk3]; decide) (by rw [hk3]; decide) (by rw [hk3]; decide) (by decide) dX11_count_1 ?_
    refine kz_aload_n (pc := 78) 0 (v := .ref a0) (i := 0) rfl rfl rfl dX11_count_78 ?_
    obtain ⟨fs15, v16, hM, hv, h⟩ := h
    refine kz_getf (pc := 79) (k := 2) kcX11 hM hv (by decide) kw_284 dX11_count_79 ?_
    refine kz_iconst (pc := 82) (v := (-1)) (by decide) dX11_count_82 ?_
    refine kz_iconst (pc := 83) (v := 1) (by decide) dX11_count_83 ?_
    obtain ⟨⟨fs20, he⟩, h⟩ := h
    refine kz_callV (pc := 84) (μ' := mX9_linesOf) (ci := 8) (q := (RX9, TX9, 10)) (b := v16) (d' := d + 6) (mc' := 0) (ms' := 0) (As := [.int ((-1)), .int 1]) (st := []) (c := 0) (sl := 0) kmX9_linesOf kw_714 (by omega) rfl (Nat.le_of_ble_eq_true rfl) he rfl rfl (Nat.zero_le _) (Nat.zero_le _) dX11_count_84 (fun E M9 hx => kz_Tout rfl (Nat.zero_le _) (Nat.zero_le _) hx) (kz_Cmono (fun v M17 h => ?_) (fun _ _ h => h) h)
    obtain ⟨r18, rfl, h⟩ := h
    show kz_Z G (d + 7) mc ms mX11_count Qr Qx 87 [(0, .ref a0), (1, .int p1)] [.int r18] M17 0 0
    exact kz_iret (pc := 87) rfl (Nat.zero_le _) (Nat.zero_le _) dX11_count_87 h
  by_cases hk4 : p1 = 4
  · replace h := h.2.2.2.2.1 hk4
    refine kz_tableIn (pc := 1) (off := 87) (tgt := 88) (by rw [hk4]; decide) (by rw [hk4]; decide) (by rw [hk4]; decide) (by decide) dX11_count_1 ?_
    refine kz_aload_n (pc := 88) 0 (v := .ref a0) (i := 0) rfl rfl rfl dX11_count_88 ?_
    obtain ⟨fs21, v22, hM, hv, h⟩ := h
    refine kz_getf (pc := 89) (k := 2) kcX11 hM hv (by decide) kw_284 dX11_count_89 ?_
    obtain ⟨fs23, v24, hM, hv, h⟩ := h
    refine kz_getf (pc := 92) (k := 0) kcX9 hM hv (by decide) kw_108 dX11_count_92 ?_
    exact kz_iret (pc := 95) rfl (Nat.zero_le _) (Nat.zero_le _) dX11_count_95 h
  by_cases hk5 : p1 = 5
  · replace h := h.2.2.2.2.2.1 hk5
    refine kz_tableIn (pc := 1) (off := 95) (tgt := 96) (by rw [hk5]; decide) (by rw [hk5]; decide) (by rw [hk5]; decide) (by decide) dX11_count_1 ?_
    refine kz_aload_n (pc := 96) 0 (v := .ref a0) (i := 0) rfl rfl rfl dX11_count_96 ?_
    obtain ⟨fs25, v26, hM, hv, h⟩ := h
    refine kz_getf (pc := 97) (k := 2) kcX11 hM hv (by decide) kw_284 dX11_count_97 ?_
    obtain ⟨fs27, v28, hM, hv, h⟩ := h
    refine kz_getf (pc := 100) (k := 1) kcX9 hM hv (by decide) kw_111 dX11_count_100 ?_
    exact kz_iret (pc := 103) rfl (Nat.zero_le _) (Nat.zero_le _) dX11_count_103 h
  by_cases hk6 : p1 = 6
  · replace h := h.2.2.2.2.2.2.1 hk6
    refine kz_tableIn (pc := 1) (off := 103) (tgt := 104) (by rw [hk6]; decide) (by rw [hk6]; decide) (by rw [hk6]; decide) (by decide) dX11_count_1 ?_
    refine kz_aload_n (pc := 104) 0 (v := .ref a0) (i := 0) rfl rfl rfl dX11_count_104 ?_
    obtain ⟨fs29, v30, hM, hv, h⟩ := h
    refine kz_getf (pc := 105) (k := 2) kcX11 hM hv (by decide) kw_284 dX11_count_105 ?_
    obtain ⟨fs31, v32, hM, hv, h⟩ := h
    refine kz_getf (pc := 108) (k := 9) kcX9 hM hv (by decide) kw_125 dX11_count_108 ?_
    obtain ⟨fs33, v34, hM, hv, h⟩ := h
    refine kz_getf (pc := 111) (k := 1) kcX2 hM hv (by decide) kw_92 dX11_count_111 ?_
    exact kz_iret (pc := 114) rfl (Nat.zero_le _) (Nat.zero_le _) dX11_count_114 h
  by_cases hk7 : p1 = 7
  · replace h := h.2.2.2.2.2.2.2.1 hk7
    refine kz_tableIn (pc := 1) (off := 114) (tgt := 115) (by rw [hk7]; decide) (by rw [hk7]; decide) (by rw [hk7]; decide) (by decide) dX11_count_1 ?_
    refine kz_aload_n (pc := 115) 0 (v := .ref a0) (i := 0) rfl rfl rfl dX11_count_115 ?_
    obtain ⟨fs35, v36, hM, hv, h⟩ := h
    refine kz_getf (pc := 116) (k := 2) kcX11 hM hv (by decide) kw_284 dX11_count_116 ?_
    obtain ⟨⟨fs40, he⟩, h⟩ := h
    refine kz_callV (pc := 119) (μ' := mX9_owed) (ci := 8) (q := (RX9, TX9, 10)) (b := v36) (d' := d + 6) (mc' := 0) (ms' := 0) (As := []) (st := []) (c := 0) (sl := 0) kmX9_owed kw_734 (by omega) rfl (Nat.le_of_ble_eq_true rfl) he rfl rfl (Nat.zero_le _) (Nat.zero_le _) dX11_count_119 (fun E M9 hx => kz_Tout rfl (Nat.zero_le _) (Nat.zero_le _) hx) (kz_Cmono (fun v M37 h => ?_) (fun _ _ h => h) h)
    obtain ⟨r38, rfl, h⟩ := h
    show kz_Z G (d + 7) mc ms mX11_count Qr Qx 122 [(0, .ref a0), (1, .int p1)] [.int r38] M37 0 0
    exact kz_iret (pc := 122) rfl (Nat.zero_le _) (Nat.zero_le _) dX11_count_122 h
  by_cases hk8 : p1 = 8
  · replace h := h.2.2.2.2.2.2.2.2.1 hk8
    refine kz_tableIn (pc := 1) (off := 122) (tgt := 123) (by rw [hk8]; decide) (by rw [hk8]; decide) (by rw [hk8]; decide) (by decide) dX11_count_1 ?_
    refine kz_aload_n (pc := 123) 0 (v := .ref a0) (i := 0) rfl rfl rfl dX11_count_123 ?_
    obtain ⟨fs41, v42, hM, hv, h⟩ := h
    refine kz_getf (pc := 124) (k := 4) kcX11 hM hv (by decide) kw_286 dX11_count_124 ?_
    obtain ⟨fs43, v44, hM, hv, h⟩ := h
    refine kz_getf (pc := 127) (k := 2) kcX0 hM hv (by decide) kw_159 dX11_count_127 ?_
    exact kz_iret (pc := 130) rfl (Nat.zero_le _) (Nat.zero_le _) dX11_count_130 h
  replace h := h.2.2.2.2.2.2.2.2.2 hk0 hk1 hk2 hk3 hk4 hk5 hk6 hk7 hk8
  refine kz_tableOut (pc := 1) (tgt := 131) (kz_swout (lo := 0) (n := 9) (by decide) (by decide) (kz_all9 (kz_swne (by decide) hk0) (kz_swne (by decide) hk1) (kz_swne (by decide) hk2) (kz_swne (by decide) hk3) (kz_swne (by decide) hk4) (kz_swne (by decide) hk5) (kz_swne (by decide) hk6) (kz_swne (by decide) hk7) (kz_swne (by decide) hk8))) (by decide) dX11_count_1 ?_
  exact kz_throwS (pc := 131) (ik := 134) (is := 136) (ic := 138) (j := 1001) (text := "no such number of the whole") hG.1 hG.2.1 hG.2.2.1 (by decide +kernel) kz_xn kw_746 kw_27 (List.mem_of_getElem? (i := 1) rfl) kz_xw_IllegalArgumentException kz_xg_IllegalArgumentException rfl (by show 2 + 3 < _; omega) (by decide) (Nat.le_of_ble_eq_true rfl) h.1 h.2.1 dX11_count_131 dX11_count_134 dX11_count_135 dX11_count_137 dX11_count_140 h.2.2
theorem dX11_writer_0 : decode cX11_writer 0 = .ok (.aload_n 0, 1) := by decide +kernel
theorem dX11_writer_1 : decode cX11_writer 1 = .ok (.iload_n 1, 1) := by decide +kernel
theorem dX11_writer_2 : decode cX11_writer 2 = .ok (.invokevirtual 148, 3) := by decide +kernel
theorem dX11_writer_5 : decode cX11_writer 5 = .ok (.iload_n 2, 1) := by decide +kernel
theorem dX11_writer_6 : decode cX11_writer 6 = .ok (.tableswitch 152 0 9 #[54, 63, 72, 82, 92, 102, 112, 122, 131, 138], 54) := by decide +kernel
theorem dX11_writer_60 : decode cX11_writer 60 = .ok (.aload_n 0, 1) := by decide +kernel
theorem dX11_writer_61 : decode cX11_writer 61 = .ok (.getfield 26, 3) := by decide +kernel
theorem dX11_writer_64 : decode cX11_writer 64 = .ok (.iload_n 1, 1) := by decide +kernel
theorem dX11_writer_65 : decode cX11_writer 65 = .ok (.invokevirtual 151, 3) := by decide +kernel
theorem dX11_writer_68 : decode cX11_writer 68 = .ok (.ireturn, 1) := by decide +kernel
theorem dX11_writer_69 : decode cX11_writer 69 = .ok (.aload_n 0, 1) := by decide +kernel
theorem dX11_writer_70 : decode cX11_writer 70 = .ok (.getfield 26, 3) := by decide +kernel
theorem dX11_writer_73 : decode cX11_writer 73 = .ok (.iload_n 1, 1) := by decide +kernel
theorem dX11_writer_74 : decode cX11_writer 74 = .ok (.invokevirtual 154, 3) := by decide +kernel
theorem dX11_writer_77 : decode cX11_writer 77 = .ok (.ireturn, 1) := by decide +kernel
theorem dX11_writer_78 : decode cX11_writer 78 = .ok (.aload_n 0, 1) := by decide +kernel
theorem dX11_writer_79 : decode cX11_writer 79 = .ok (.getfield 26, 3) := by decide +kernel
theorem dX11_writer_82 : decode cX11_writer 82 = .ok (.iload_n 1, 1) := by decide +kernel
theorem dX11_writer_83 : decode cX11_writer 83 = .ok (.iconst 0, 1) := by decide +kernel
theorem dX11_writer_84 : decode cX11_writer 84 = .ok (.invokevirtual 110, 3) := by decide +kernel
theorem dX11_writer_87 : decode cX11_writer 87 = .ok (.ireturn, 1) := by decide +kernel
theorem dX11_writer_88 : decode cX11_writer 88 = .ok (.aload_n 0, 1) := by decide +kernel
theorem dX11_writer_89 : decode cX11_writer 89 = .ok (.getfield 26, 3) := by decide +kernel
theorem dX11_writer_92 : decode cX11_writer 92 = .ok (.iload_n 1, 1) := by decide +kernel
theorem dX11_writer_93 : decode cX11_writer 93 = .ok (.iconst 1, 1) := by decide +kernel
theorem dX11_writer_94 : decode cX11_writer 94 = .ok (.invokevirtual 110, 3) := by decide +kernel
theorem dX11_writer_97 : decode cX11_writer 97 = .ok (.ireturn, 1) := by decide +kernel
theorem dX11_writer_98 : decode cX11_writer 98 = .ok (.aload_n 0, 1) := by decide +kernel
theorem dX11_writer_99 : decode cX11_writer 99 = .ok (.getfield 26, 3) := by decide +kernel
theorem dX11_writer_102 : decode cX11_writer 102 = .ok (.iload_n 1, 1) := by decide +kernel
theorem dX11_writer_103 : decode cX11_writer 103 = .ok (.iconst 2, 1) := by decide +kernel
theorem dX11_writer_104 : decode cX11_writer 104 = .ok (.invokevirtual 110, 3) := by decide +kernel
theorem dX11_writer_107 : decode cX11_writer 107 = .ok (.ireturn, 1) := by decide +kernel
theorem dX11_writer_108 : decode cX11_writer 108 = .ok (.aload_n 0, 1) := by decide +kernel
theorem dX11_writer_109 : decode cX11_writer 109 = .ok (.getfield 26, 3) := by decide +kernel
theorem dX11_writer_112 : decode cX11_writer 112 = .ok (.iload_n 1, 1) := by decide +kernel
theorem dX11_writer_113 : decode cX11_writer 113 = .ok (.iconst 3, 1) := by decide +kernel
theorem dX11_writer_114 : decode cX11_writer 114 = .ok (.invokevirtual 110, 3) := by decide +kernel
theorem dX11_writer_117 : decode cX11_writer 117 = .ok (.ireturn, 1) := by decide +kernel
theorem dX11_writer_118 : decode cX11_writer 118 = .ok (.aload_n 0, 1) := by decide +kernel
theorem dX11_writer_119 : decode cX11_writer 119 = .ok (.getfield 26, 3) := by decide +kernel
theorem dX11_writer_122 : decode cX11_writer 122 = .ok (.iload_n 1, 1) := by decide +kernel
theorem dX11_writer_123 : decode cX11_writer 123 = .ok (.iconst 4, 1) := by decide +kernel
theorem dX11_writer_124 : decode cX11_writer 124 = .ok (.invokevirtual 110, 3) := by decide +kernel
theorem dX11_writer_127 : decode cX11_writer 127 = .ok (.ireturn, 1) := by decide +kernel
theorem dX11_writer_128 : decode cX11_writer 128 = .ok (.aload_n 0, 1) := by decide +kernel
theorem dX11_writer_129 : decode cX11_writer 129 = .ok (.getfield 26, 3) := by decide +kernel
theorem dX11_writer_132 : decode cX11_writer 132 = .ok (.iload_n 1, 1) := by decide +kernel
theorem dX11_writer_133 : decode cX11_writer 133 = .ok (.invokevirtual 157, 3) := by decide +kernel
theorem dX11_writer_136 : decode cX11_writer 136 = .ok (.ireturn, 1) := by decide +kernel
theorem dX11_writer_137 : decode cX11_writer 137 = .ok (.aload_n 0, 1) := by decide +kernel
theorem dX11_writer_138 : decode cX11_writer 138 = .ok (.iload_n 1, 1) := by decide +kernel
theorem dX11_writer_139 : decode cX11_writer 139 = .ok (.iconst 1, 1) := by decide +kernel
theorem dX11_writer_140 : decode cX11_writer 140 = .ok (.invokevirtual 160, 3) := by decide +kernel
theorem dX11_writer_143 : decode cX11_writer 143 = .ok (.ireturn, 1) := by decide +kernel
theorem dX11_writer_144 : decode cX11_writer 144 = .ok (.aload_n 0, 1) := by decide +kernel
theorem dX11_writer_145 : decode cX11_writer 145 = .ok (.iload_n 1, 1) := by decide +kernel
theorem dX11_writer_146 : decode cX11_writer 146 = .ok (.aload_n 0, 1) := by decide +kernel
theorem dX11_writer_147 : decode cX11_writer 147 = .ok (.getfield 26, 3) := by decide +kernel
theorem dX11_writer_150 : decode cX11_writer 150 = .ok (.iconst 2, 1) := by decide +kernel
theorem dX11_writer_151 : decode cX11_writer 151 = .ok (.invokevirtual 144, 3) := by decide +kernel
theorem dX11_writer_154 : decode cX11_writer 154 = .ok (.invokevirtual 160, 3) := by decide +kernel
theorem dX11_writer_157 : decode cX11_writer 157 = .ok (.ireturn, 1) := by decide +kernel
theorem dX11_writer_158 : decode cX11_writer 158 = .ok (.new 134, 3) := by decide +kernel
theorem dX11_writer_161 : decode cX11_writer 161 = .ok (.dup, 1) := by decide +kernel
theorem dX11_writer_162 : decode cX11_writer 162 = .ok (.ldc 163, 2) := by decide +kernel
theorem dX11_writer_164 : decode cX11_writer 164 = .ok (.invokespecial 138, 3) := by decide +kernel
theorem dX11_writer_167 : decode cX11_writer 167 = .ok (.athrow, 1) := by decide +kernel
theorem rX11_writer_0 {G : kz_G} {d : Nat} {mc ms : Nat} {Qr : Option Value → kz_M → Prop} {Qx : String → kz_M → Prop} {a0 : Nat} {p1 : Int32} {p2 : Int32}  {M : kz_M} (hG : kz_stat G) (h : (∃ fs67, (M).1 a0 = some (.inl (10, fs67))) ∧ ∃ mc3 ms3, 0 + mc3 ≤ mc ∧ 0 + ms3 ≤ ms ∧ kz_C G (d + 7) mc3 ms3 mX11_checkWriter [.ref a0, .int p1] M (fun v M1 => v = none ∧ ((p2 = 0 → ∃ fs4 v5, (M1).1 a0 = some (.inl (10, fs4)) ∧ fs4[2]? = some (.ref v5) ∧ ((∃ fs9, (M1).1 v5 = some (.inl (8, fs9))) ∧ kz_C G (d + 7) 0 0 mX9_balanceOf [.ref v5, .int p1] M1 (fun v M6 => ∃ r7 : Int32, v = some (.int r7) ∧ (Qr (some (.int r7)) M6)) Qx)) ∧ (p2 = 1 → ∃ fs10 v11, (M1).1 a0 = some (.inl (10, fs10)) ∧ fs10[2]? = some (.ref v11) ∧ ((∃ fs15, (M1).1 v11 = some (.inl (8, fs15))) ∧ kz_C G (d + 7) 0 0 mX9_worksOf [.ref v11, .int p1] M1 (fun v M12 => ∃ r13 : Int32, v = some (.int r13) ∧ (Qr (some (.int r13)) M12)) Qx)) ∧ (p2 = 2 → ∃ fs16 v17, (M1).1 a0 = some (.inl (10, fs16)) ∧ fs16[2]? = some (.ref v17) ∧ ((∃ fs21, (M1).1 v17 = some (.inl (8, fs21))) ∧ kz_C G (d + 7) 0 0 mX9_linesOf [.ref v17, .int p1, .int 0] M1 (fun v M18 => ∃ r19 : Int32, v = some (.int r19) ∧ (Qr (some (.int r19)) M18)) Qx)) ∧ (p2 = 3 → ∃ fs22 v23, (M1).1 a0 = some (.inl (10, fs22)) ∧ fs22[2]? = some (.ref v23) ∧ ((∃ fs27, (M1).1 v23 = some (.inl (8, fs27))) ∧ kz_C G (d + 7) 0 0 mX9_linesOf [.ref v23, .int p1, .int 1] M1 (fun v M24 => ∃ r25 : Int32, v = some (.int r25) ∧ (Qr (some (.int r25)) M24)) Qx)) ∧ (p2 = 4 → ∃ fs28 v29, (M1).1 a0 = some (.inl (10, fs28)) ∧ fs28[2]? = some (.ref v29) ∧ ((∃ fs33, (M1).1 v29 = some (.inl (8, fs33))) ∧ kz_C G (d + 7) 0 0 mX9_linesOf [.ref v29, .int p1, .int 2] M1 (fun v M30 => ∃ r31 : Int32, v = some (.int r31) ∧ (Qr (some (.int r31)) M30)) Qx)) ∧ (p2 = 5 → ∃ fs34 v35, (M1).1 a0 = some (.inl (10, fs34)) ∧ fs34[2]? = some (.ref v35) ∧ ((∃ fs39, (M1).1 v35 = some (.inl (8, fs39))) ∧ kz_C G (d + 7) 0 0 mX9_linesOf [.ref v35, .int p1, .int 3] M1 (fun v M36 => ∃ r37 : Int32, v = some (.int r37) ∧ (Qr (some (.int r37)) M36)) Qx)) ∧ (p2 = 6 → ∃ fs40 v41, (M1).1 a0 = some (.inl (10, fs40)) ∧ fs40[2]? = some (.ref v41) ∧ ((∃ fs45, (M1).1 v41 = some (.inl (8, fs45))) ∧ kz_C G (d + 7) 0 0 mX9_linesOf [.ref v41, .int p1, .int 4] M1 (fun v M42 => ∃ r43 : Int32, v = some (.int r43) ∧ (Qr (some (.int r43)) M42)) Qx)) ∧ (p2 = 7 → ∃ fs46 v47, (M1).1 a0 = some (.inl (10, fs46)) ∧ fs46[2]? = some (.ref v47) ∧ ((∃ fs51, (M1).1 v47 = some (.inl (8, fs51))) ∧ kz_C G (d + 7) 0 0 mX9_paidTo [.ref v47, .int p1] M1 (fun v M48 => ∃ r49 : Int32, v = some (.int r49) ∧ (Qr (some (.int r49)) M48)) Qx)) ∧ (p2 = 8 → (∃ fs55, (M1).1 a0 = some (.inl (10, fs55))) ∧ kz_C G (d + 7) 0 0 mX11_wordsInLines [.ref a0, .int p1, .int 1] M1 (fun v M52 => ∃ r53 : Int32, v = some (.int r53) ∧ (Qr (some (.int r53)) M52)) Qx) ∧ (p2 = 9 → ∃ fs56 v57, (M1).1 a0 = some (.inl (10, fs56)) ∧ fs56[2]? = some (.ref v57) ∧ ((∃ fs65, (M1).1 v57 = some (.inl (8, fs65))) ∧ kz_C G (d + 7) 0 0 mX9_rule [.ref v57, .int 2] M1 (fun v M58 => ∃ r59 : Int32, v = some (.int r59) ∧ ((∃ fs64, (M58).1 a0 = some (.inl (10, fs64))) ∧ kz_C G (d + 7) 0 0 mX11_wordsInLines [.ref a0, .int p1, .int r59] M58 (fun v M61 => ∃ r62 : Int32, v = some (.int r62) ∧ (Qr (some (.int r62)) M61)) Qx)) Qx)) ∧ (¬ p2 = 0 → ¬ p2 = 1 → ¬ p2 = 2 → ¬ p2 = 3 → ¬ p2 = 4 → ¬ p2 = 5 → ¬ p2 = 6 → ¬ p2 = 7 → ¬ p2 = 8 → ¬ p2 = 9 → 0 + mc3 + 1 ≤ mc ∧ 0 + ms3 + 6 ≤ ms ∧ ∀ g66, Qx "java/lang/IllegalArgumentException" ((M1).1, (M1).2 + g66)))) Qx) : kz_C G (d + 8) mc ms mX11_writer [.ref a0, .int p1, .int p2] M Qr Qx := by
  refine kz_enter (n := 2) kmX11_writer.1 (Nat.le_of_ble_eq_true rfl) (ls := [(0, .ref a0), (1, .int p1), (2, .int p2)]) rfl ?_
  refine kz_aload_n (pc := 0) 0 (v := .ref a0) (i := 0) rfl rfl rfl dX11_writer_0 ?_
  refine kz_iload_n (pc := 1) 1 (i := 1) rfl rfl dX11_writer_1 ?_
  obtain ⟨⟨fs67, he⟩, h⟩ := h
  obtain ⟨mc3, ms3, hc3, hs3, h⟩ := h
  refine kz_callV (pc := 2) (μ' := mX11_checkWriter) (ci := 10) (q := (RX11, TX11, 10)) (b := a0) (d' := d + 7) (mc' := mc3) (ms' := ms3) (As := [.int p1]) (st := []) (c := 0) (sl := 0) kmX11_checkWriter kw_827 (by omega) rfl (Nat.le_of_ble_eq_true rfl) he rfl rfl hc3 hs3 dX11_writer_2 (fun E M9 hx => kz_Tout rfl hc3 hs3 hx) (kz_Cmono (fun v M1 h => ?_) (fun _ _ h => h) h)
  obtain ⟨rfl, h⟩ := h
  show kz_Z G (d + 8) mc ms mX11_writer Qr Qx 5 [(0, .ref a0), (1, .int p1), (2, .int p2)] [] M1 (0 + mc3) (0 + ms3)
  refine kz_iload_n (pc := 5) 2 (i := 2) rfl rfl dX11_writer_5 ?_
  by_cases hk0 : p2 = 0
  · replace h := h.1 hk0
    refine kz_tableIn (pc := 6) (off := 54) (tgt := 60) (by rw [hk0]; decide) (by rw [hk0]; decide) (by rw [hk0]; decide) (by decide) dX11_writer_6 ?_
    refine kz_aload_n (pc := 60) 0 (v := .ref a0) (i := 0) rfl rfl rfl dX11_writer_60 ?_
    obtain ⟨fs4, v5, hM, hv, h⟩ := h
    refine kz_getf (pc := 61) (k := 2) kcX11 hM hv (by decide) kw_284 dX11_writer_61 ?_
    refine kz_iload_n (pc := 64) 1 (i := 1) rfl rfl dX11_writer_64 ?_
    obtain ⟨⟨fs9, he⟩, h⟩ := h
    refine kz_callV (pc := 65) (μ' := mX9_balanceOf) (ci := 8) (q := (RX9, TX9, 10)) (b := v5) (d' := d + 7) (mc' := 0) (ms' := 0) (As := [.int p1]) (st := []) (c := 0 + mc3) (sl := 0 + ms3) kmX9_balanceOf kw_851 (by omega) rfl (Nat.le_of_ble_eq_true rfl) he rfl rfl hc3 hs3 dX11_writer_65 (fun E M9 hx => kz_Tout rfl hc3 hs3 hx) (kz_Cmono (fun v M6 h => ?_) (fun _ _ h => h) h)
    obtain ⟨r7, rfl, h⟩ := h
    show kz_Z G (d + 8) mc ms mX11_writer Qr Qx 68 [(0, .ref a0), (1, .int p1), (2, .int p2)] [.int r7] M6 (0 + mc3) (0 + ms3)
    exact kz_iret (pc := 68) rfl hc3 hs3 dX11_writer_68 h
  by_cases hk1 : p2 = 1
  · replace h := h.2.1 hk1
    refine kz_tableIn (pc := 6) (off := 63) (tgt := 69) (by rw [hk1]; decide) (by rw [hk1]; decide) (by rw [hk1]; decide) (by decide) dX11_writer_6 ?_
    refine kz_aload_n (pc := 69) 0 (v := .ref a0) (i := 0) rfl rfl rfl dX11_writer_69 ?_
    obtain ⟨fs10, v11, hM, hv, h⟩ := h
    refine kz_getf (pc := 70) (k := 2) kcX11 hM hv (by decide) kw_284 dX11_writer_70 ?_
    refine kz_iload_n (pc := 73) 1 (i := 1) rfl rfl dX11_writer_73 ?_
    obtain ⟨⟨fs15, he⟩, h⟩ := h
    refine kz_callV (pc := 74) (μ' := mX9_worksOf) (ci := 8) (q := (RX9, TX9, 10)) (b := v11) (d' := d + 7) (mc' := 0) (ms' := 0) (As := [.int p1]) (st := []) (c := 0 + mc3) (sl := 0 + ms3) kmX9_worksOf kw_852 (by omega) rfl (Nat.le_of_ble_eq_true rfl) he rfl rfl hc3 hs3 dX11_writer_74 (fun E M9 hx => kz_Tout rfl hc3 hs3 hx) (kz_Cmono (fun v M12 h => ?_) (fun _ _ h => h) h)
    obtain ⟨r13, rfl, h⟩ := h
    show kz_Z G (d + 8) mc ms mX11_writer Qr Qx 77 [(0, .ref a0), (1, .int p1), (2, .int p2)] [.int r13] M12 (0 + mc3) (0 + ms3)
    exact kz_iret (pc := 77) rfl hc3 hs3 dX11_writer_77 h
  by_cases hk2 : p2 = 2
  · replace h := h.2.2.1 hk2
    refine kz_tableIn (pc := 6) (off := 72) (tgt := 78) (by rw [hk2]; decide) (by rw [hk2]; decide) (by rw [hk2]; decide) (by decide) dX11_writer_6 ?_
    refine kz_aload_n (pc := 78) 0 (v := .ref a0) (i := 0) rfl rfl rfl dX11_writer_78 ?_
    obtain ⟨fs16, v17, hM, hv, h⟩ := h
    refine kz_getf (pc := 79) (k := 2) kcX11 hM hv (by decide) kw_284 dX11_writer_79 ?_
    refine kz_iload_n (pc := 82) 1 (i := 1) rfl rfl dX11_writer_82 ?_
    refine kz_iconst (pc := 83) (v := 0) (by decide) dX11_writer_83 ?_
    obtain ⟨⟨fs21, he⟩, h⟩ := h
    refine kz_callV (pc := 84) (μ' := mX9_linesOf) (ci := 8) (q := (RX9, TX9, 10)) (b := v17) (d' := d + 7) (mc' := 0) (ms' := 0) (As := [.int p1, .int 0]) (st := []) (c := 0 + mc3) (sl := 0 + ms3) kmX9_linesOf kw_714 (by omega) rfl (Nat.le_of_ble_eq_true rfl) he rfl rfl hc3 hs3 dX11_writer_84 (fun E M9 hx => kz_Tout rfl hc3 hs3 hx) (kz_Cmono (fun v M18 h => ?_) (fun _ _ h => h) h)
    obtain ⟨r19, rfl, h⟩ := h
    show kz_Z G (d + 8) mc ms mX11_writer Qr Qx 87 [(0, .ref a0), (1, .int p1), (2, .int p2)] [.int r19] M18 (0 + mc3) (0 + ms3)
    exact kz_iret (pc := 87) rfl hc3 hs3 dX11_writer_87 h
  by_cases hk3 : p2 = 3
  · replace h := h.2.2.2.1 hk3
    refine kz_tableIn (pc := 6) (off := 82) (tgt := 88) (by rw [hk3]; decide) (by rw [hk3]; decide) (by rw [hk3]; decide) (by decide) dX11_writer_6 ?_
    refine kz_aload_n (pc := 88) 0 (v := .ref a0) (i := 0) rfl rfl rfl dX11_writer_88 ?_
    obtain ⟨fs22, v23, hM, hv, h⟩ := h
    refine kz_getf (pc := 89) (k := 2) kcX11 hM hv (by decide) kw_284 dX11_writer_89 ?_
    refine kz_iload_n (pc := 92) 1 (i := 1) rfl rfl dX11_writer_92 ?_
    refine kz_iconst (pc := 93) (v := 1) (by decide) dX11_writer_93 ?_
    obtain ⟨⟨fs27, he⟩, h⟩ := h
    refine kz_callV (pc := 94) (μ' := mX9_linesOf) (ci := 8) (q := (RX9, TX9, 10)) (b := v23) (d' := d + 7) (mc' := 0) (ms' := 0) (As := [.int p1, .int 1]) (st := []) (c := 0 + mc3) (sl := 0 + ms3) kmX9_linesOf kw_714 (by omega) rfl (Nat.le_of_ble_eq_true rfl) he rfl rfl hc3 hs3 dX11_writer_94 (fun E M9 hx => kz_Tout rfl hc3 hs3 hx) (kz_Cmono (fun v M24 h => ?_) (fun _ _ h => h) h)
    obtain ⟨r25, rfl, h⟩ := h
    show kz_Z G (d + 8) mc ms mX11_writer Qr Qx 97 [(0, .ref a0), (1, .int p1), (2, .int p2)] [.int r25] M24 (0 + mc3) (0 + ms3)
    exact kz_iret (pc := 97) rfl hc3 hs3 dX11_writer_97 h
  by_cases hk4 : p2 = 4
  · replace h := h.2.2.2.2.1 hk4
    refine kz_tableIn (pc := 6) (off := 92) (tgt := 98) (by rw [hk4]; decide) (by rw [hk4]; decide) (by rw [hk4]; decide) (by decide) dX11_writer_6 ?_
    refine kz_aload_n (pc := 98) 0 (v := .ref a0) (i := 0) rfl rfl rfl dX11_writer_98 ?_
    obtain ⟨fs28, v29, hM, hv, h⟩ := h
    refine kz_getf (pc := 99) (k := 2) kcX11 hM hv (by decide) kw_284 dX11_writer_99 ?_
    refine kz_iload_n (pc := 102) 1 (i := 1) rfl rfl dX11_writer_102 ?_
    refine kz_iconst (pc := 103) (v := 2) (by decide) dX11_writer_103 ?_
    obtain ⟨⟨fs33, he⟩, h⟩ := h
    refine kz_callV (pc := 104) (μ' := mX9_linesOf) (ci := 8) (q := (RX9, TX9, 10)) (b := v29) (d' := d + 7) (mc' := 0) (ms' := 0) (As := [.int p1, .int 2]) (st := []) (c := 0 + mc3) (sl := 0 + ms3) kmX9_linesOf kw_714 (by omega) rfl (Nat.le_of_ble_eq_true rfl) he rfl rfl hc3 hs3 dX11_writer_104 (fun E M9 hx => kz_Tout rfl hc3 hs3 hx) (kz_Cmono (fun v M30 h => ?_) (fun _ _ h => h) h)
    obtain ⟨r31, rfl, h⟩ := h
    show kz_Z G (d + 8) mc ms mX11_writer Qr Qx 107 [(0, .ref a0), (1, .int p1), (2, .int p2)] [.int r31] M30 (0 + mc3) (0 + ms3)
    exact kz_iret (pc := 107) rfl hc3 hs3 dX11_writer_107 h
  by_cases hk5 : p2 = 5
  · replace h := h.2.2.2.2.2.1 hk5
    refine kz_tableIn (pc := 6) (off := 102) (tgt := 108) (by rw [hk5]; decide) (by rw [hk5]; decide) (by rw [hk5]; decide) (by decide) dX11_writer_6 ?_
    refine kz_aload_n (pc := 108) 0 (v := .ref a0) (i := 0) rfl rfl rfl dX11_writer_108 ?_
    obtain ⟨fs34, v35, hM, hv, h⟩ := h
    refine kz_getf (pc := 109) (k := 2) kcX11 hM hv (by decide) kw_284 dX11_writer_109 ?_
    refine kz_iload_n (pc := 112) 1 (i := 1) rfl rfl dX11_writer_112 ?_
    refine kz_iconst (pc := 113) (v := 3) (by decide) dX11_writer_113 ?_
    obtain ⟨⟨fs39, he⟩, h⟩ := h
    refine kz_callV (pc := 114) (μ' := mX9_linesOf) (ci := 8) (q := (RX9, TX9, 10)) (b := v35) (d' := d + 7) (mc' := 0) (ms' := 0) (As := [.int p1, .int 3]) (st := []) (c := 0 + mc3) (sl := 0 + ms3) kmX9_linesOf kw_714 (by omega) rfl (Nat.le_of_ble_eq_true rfl) he rfl rfl hc3 hs3 dX11_writer_114 (fun E M9 hx => kz_Tout rfl hc3 hs3 hx) (kz_Cmono (fun v M36 h => ?_) (fun _ _ h => h) h)
    obtain ⟨r37, rfl, h⟩ := h
    show kz_Z G (d + 8) mc ms mX11_writer Qr Qx 117 [(0, .ref a0), (1, .int p1), (2, .int p2)] [.int r37] M36 (0 + mc3) (0 + ms3)
    exact kz_iret (pc := 117) rfl hc3 hs3 dX11_writer_117 h
  by_cases hk6 : p2 = 6
  · replace h := h.2.2.2.2.2.2.1 hk6
    refine kz_tableIn (pc := 6) (off := 112) (tgt := 118) (by rw [hk6]; decide) (by rw [hk6]; decide) (by rw [hk6]; decide) (by decide) dX11_writer_6 ?_
    refine kz_aload_n (pc := 118) 0 (v := .ref a0) (i := 0) rfl rfl rfl dX11_writer_118 ?_
    obtain ⟨fs40, v41, hM, hv, h⟩ := h
    refine kz_getf (pc := 119) (k := 2) kcX11 hM hv (by decide) kw_284 dX11_writer_119 ?_
    refine kz_iload_n (pc := 122) 1 (i := 1) rfl rfl dX11_writer_122 ?_
    refine kz_iconst (pc := 123) (v := 4) (by decide) dX11_writer_123 ?_
    obtain ⟨⟨fs45, he⟩, h⟩ := h
    refine kz_callV (pc := 124) (μ' := mX9_linesOf) (ci := 8) (q := (RX9, TX9, 10)) (b := v41) (d' := d + 7) (mc' := 0) (ms' := 0) (As := [.int p1, .int 4]) (st := []) (c := 0 + mc3) (sl := 0 + ms3) kmX9_linesOf kw_714 (by omega) rfl (Nat.le_of_ble_eq_true rfl) he rfl rfl hc3 hs3 dX11_writer_124 (fun E M9 hx => kz_Tout rfl hc3 hs3 hx) (kz_Cmono (fun v M42 h => ?_) (fun _ _ h => h) h)
    obtain ⟨r43, rfl, h⟩ := h
    show kz_Z G (d + 8) mc ms mX11_writer Qr Qx 127 [(0, .ref a0), (1, .int p1), (2, .int p2)] [.int r43] M42 (0 + mc3) (0 + ms3)
    exact kz_iret (pc := 127) rfl hc3 hs3 dX11_writer_127 h
  by_cases hk7 : p2 = 7
  · replace h := h.2.2.2.2.2.2.2.1 hk7
    refine kz_tableIn (pc := 6) (off := 122) (tgt := 128) (by rw [hk7]; decide) (by rw [hk7]; decide) (by rw [hk7]; decide) (by decide) dX11_writer_6 ?_
    refine kz_aload_n (pc := 128) 0 (v := .ref a0) (i := 0) rfl rfl rfl dX11_writer_128 ?_
    obtain ⟨fs46, v47, hM, hv, h⟩ := h
    refine kz_getf (pc := 129) (k := 2) kcX11 hM hv (by decide) kw_284 dX11_writer_129 ?_
    refine kz_iload_n (pc := 132) 1 (i := 1) rfl rfl dX11_writer_132 ?_
    obtain ⟨⟨fs51, he⟩, h⟩ := h
    refine kz_callV (pc := 133) (μ' := mX9_paidTo) (ci := 8) (q := (RX9, TX9, 10)) (b := v47) (d' := d + 7) (mc' := 0) (ms' := 0) (As := [.int p1]) (st := []) (c := 0 + mc3) (sl := 0 + ms3) kmX9_paidTo kw_860 (by omega) rfl (Nat.le_of_ble_eq_true rfl) he rfl rfl hc3 hs3 dX11_writer_133 (fun E M9 hx => kz_Tout rfl hc3 hs3 hx) (kz_Cmono (fun v M48 h => ?_) (fun _ _ h => h) h)
    obtain ⟨r49, rfl, h⟩ := h
    show kz_Z G (d + 8) mc ms mX11_writer Qr Qx 136 [(0, .ref a0), (1, .int p1), (2, .int p2)] [.int r49] M48 (0 + mc3) (0 + ms3)
    exact kz_iret (pc := 136) rfl hc3 hs3 dX11_writer_136 h
  by_cases hk8 : p2 = 8
  · replace h := h.2.2.2.2.2.2.2.2.1 hk8
    refine kz_tableIn (pc := 6) (off := 131) (tgt := 137) (by rw [hk8]; decide) (by rw [hk8]; decide) (by rw [hk8]; decide) (by decide) dX11_writer_6 ?_
    refine kz_aload_n (pc := 137) 0 (v := .ref a0) (i := 0) rfl rfl rfl dX11_writer_137 ?_
    refine kz_iload_n (pc := 138) 1 (i := 1) rfl rfl dX11_writer_138 ?_
    refine kz_iconst (pc := 139) (v := 1) (by decide) dX11_writer_139 ?_
    obtain ⟨⟨fs55, he⟩, h⟩ := h
    refine kz_callV (pc := 140) (μ' := mX11_wordsInLines) (ci := 10) (q := (RX11, TX11, 10)) (b := a0) (d' := d + 7) (mc' := 0) (ms' := 0) (As := [.int p1, .int 1]) (st := []) (c := 0 + mc3) (sl := 0 + ms3) kmX11_wordsInLines kw_864 (by omega) rfl (Nat.le_of_ble_eq_true rfl) he rfl rfl hc3 hs3 dX11_writer_140 (fun E M9 hx => kz_Tout rfl hc3 hs3 hx) (kz_Cmono (fun v M52 h => ?_) (fun _ _ h => h) h)
    obtain ⟨r53, rfl, h⟩ := h
    show kz_Z G (d + 8) mc ms mX11_writer Qr Qx 143 [(0, .ref a0), (1, .int p1), (2, .int p2)] [.int r53] M52 (0 + mc3) (0 + ms3)
    exact kz_iret (pc := 143) rfl hc3 hs3 dX11_writer_143 h
  by_cases hk9 : p2 = 9
  · replace h := h.2.2.2.2.2.2.2.2.2.1 hk9
    refine kz_tableIn (pc := 6) (off := 138) (tgt := 144) (by rw [hk9]; decide) (by rw [hk9]; decide) (by rw [hk9]; decide) (by decide) dX11_writer_6 ?_
    refine kz_aload_n (pc := 144) 0 (v := .ref a0) (i := 0) rfl rfl rfl dX11_writer_144 ?_
    refine kz_iload_n (pc := 145) 1 (i := 1) rfl rfl dX11_writer_145 ?_
    refine kz_aload_n (pc := 146) 0 (v := .ref a0) (i := 0) rfl rfl rfl dX11_writer_146 ?_
    obtain ⟨fs56, v57, hM, hv, h⟩ := h
    refine kz_getf (pc := 147) (k := 2) kcX11 hM hv (by decide) kw_284 dX11_writer_147 ?_
    refine kz_iconst (pc := 150) (v := 2) (by decide) dX11_writer_150 ?_
    obtain ⟨⟨fs65, he⟩, h⟩ := h
    refine kz_callV (pc := 151) (μ' := mX9_rule) (ci := 8) (q := (RX9, TX9, 10)) (b := v57) (d' := d + 7) (mc' := 0) (ms' := 0) (As := [.int 2]) (st := [.int p1, .ref a0]) (c := 0 + mc3) (sl := 0 + ms3) kmX9_rule kw_923 (by omega) rfl (Nat.le_of_ble_eq_true rfl) he rfl rfl hc3 hs3 dX11_writer_151 (fun E M9 hx => kz_Tout rfl hc3 hs3 hx) (kz_Cmono (fun v M58 h => ?_) (fun _ _ h => h) h)
    obtain ⟨r59, rfl, h⟩ := h
    show kz_Z G (d + 8) mc ms mX11_writer Qr Qx 154 [(0, .ref a0), (1, .int p1), (2, .int p2)] [.int r59, .int p1, .ref a0] M58 (0 + mc3) (0 + ms3)
    obtain ⟨⟨fs64, he⟩, h⟩ := h
    refine kz_callV (pc := 154) (μ' := mX11_wordsInLines) (ci := 10) (q := (RX11, TX11, 10)) (b := a0) (d' := d + 7) (mc' := 0) (ms' := 0) (As := [.int p1, .int r59]) (st := []) (c := 0 + mc3) (sl := 0 + ms3) kmX11_wordsInLines kw_864 (by omega) rfl (Nat.le_of_ble_eq_true rfl) he rfl rfl hc3 hs3 dX11_writer_154 (fun E M9 hx => kz_Tout rfl hc3 hs3 hx) (kz_Cmono (fun v M61 h => ?_) (fun _ _ h => h) h)
    obtain ⟨r62, rfl, h⟩ := h
    show kz_Z G (d + 8) mc ms mX11_writer Qr Qx 157 [(0, .ref a0), (1, .int p1), (2, .int p2)] [.int r62] M61 (0 + mc3) (0 + ms3)
    exact kz_iret (pc := 157) rfl hc3 hs3 dX11_writer_157 h
  replace h := h.2.2.2.2.2.2.2.2.2.2 hk0 hk1 hk2 hk3 hk4 hk5 hk6 hk7 hk8 hk9
  refine kz_tableOut (pc := 6) (tgt := 158) (kz_swout (lo := 0) (n := 10) (by decide) (by decide) (kz_all10 (kz_swne (by decide) hk0) (kz_swne (by decide) hk1) (kz_swne (by decide) hk2) (kz_swne (by decide) hk3) (kz_swne (by decide) hk4) (kz_swne (by decide) hk5) (kz_swne (by decide) hk6) (kz_swne (by decide) hk7) (kz_swne (by decide) hk8) (kz_swne (by decide) hk9))) (by decide) dX11_writer_6 ?_
  exact kz_throwS (pc := 158) (ik := 134) (is := 163) (ic := 138) (j := 1002) (text := "no such number of a writer") hG.1 hG.2.1 hG.2.2.1 (by decide +kernel) kz_xn kw_746 kw_27 (List.mem_of_getElem? (i := 2) rfl) kz_xw_IllegalArgumentException kz_xg_IllegalArgumentException rfl (by show 2 + 3 < _; omega) (by decide) (Nat.le_of_ble_eq_true rfl) h.1 h.2.1 dX11_writer_158 dX11_writer_161 dX11_writer_162 dX11_writer_164 dX11_writer_167 h.2.2
theorem dX11_work_0 : decode cX11_work 0 = .ok (.aload_n 0, 1) := by decide +kernel
theorem dX11_work_1 : decode cX11_work 1 = .ok (.iload_n 1, 1) := by decide +kernel
theorem dX11_work_2 : decode cX11_work 2 = .ok (.invokevirtual 165, 3) := by decide +kernel
theorem dX11_work_5 : decode cX11_work 5 = .ok (.astore_n 3, 1) := by decide +kernel
theorem dX11_work_6 : decode cX11_work 6 = .ok (.iload_n 2, 1) := by decide +kernel
theorem dX11_work_7 : decode cX11_work 7 = .ok (.tableswitch 103 0 7 #[45, 50, 58, 63, 71, 76, 82, 87], 45) := by decide +kernel
theorem dX11_work_52 : decode cX11_work 52 = .ok (.aload_n 3, 1) := by decide +kernel
theorem dX11_work_53 : decode cX11_work 53 = .ok (.getfield 169, 3) := by decide +kernel
theorem dX11_work_56 : decode cX11_work 56 = .ok (.ireturn, 1) := by decide +kernel
theorem dX11_work_57 : decode cX11_work 57 = .ok (.aload_n 3, 1) := by decide +kernel
theorem dX11_work_58 : decode cX11_work 58 = .ok (.getfield 174, 3) := by decide +kernel
theorem dX11_work_61 : decode cX11_work 61 = .ok (.getfield 178, 3) := by decide +kernel
theorem dX11_work_64 : decode cX11_work 64 = .ok (.ireturn, 1) := by decide +kernel
theorem dX11_work_65 : decode cX11_work 65 = .ok (.aload_n 3, 1) := by decide +kernel
theorem dX11_work_66 : decode cX11_work 66 = .ok (.getfield 183, 3) := by decide +kernel
theorem dX11_work_69 : decode cX11_work 69 = .ok (.ireturn, 1) := by decide +kernel
theorem dX11_work_70 : decode cX11_work 70 = .ok (.aload_n 3, 1) := by decide +kernel
theorem dX11_work_71 : decode cX11_work 71 = .ok (.getfield 174, 3) := by decide +kernel
theorem dX11_work_74 : decode cX11_work 74 = .ok (.invokevirtual 184, 3) := by decide +kernel
theorem dX11_work_77 : decode cX11_work 77 = .ok (.ireturn, 1) := by decide +kernel
theorem dX11_work_78 : decode cX11_work 78 = .ok (.aload_n 3, 1) := by decide +kernel
theorem dX11_work_79 : decode cX11_work 79 = .ok (.invokevirtual 186, 3) := by decide +kernel
theorem dX11_work_82 : decode cX11_work 82 = .ok (.ireturn, 1) := by decide +kernel
theorem dX11_work_83 : decode cX11_work 83 = .ok (.aload_n 3, 1) := by decide +kernel
theorem dX11_work_84 : decode cX11_work 84 = .ok (.iconst 1, 1) := by decide +kernel
theorem dX11_work_85 : decode cX11_work 85 = .ok (.invokevirtual 187, 3) := by decide +kernel
theorem dX11_work_88 : decode cX11_work 88 = .ok (.ireturn, 1) := by decide +kernel
theorem dX11_work_89 : decode cX11_work 89 = .ok (.aload_n 3, 1) := by decide +kernel
theorem dX11_work_90 : decode cX11_work 90 = .ok (.invokevirtual 189, 3) := by decide +kernel
theorem dX11_work_93 : decode cX11_work 93 = .ok (.ireturn, 1) := by decide +kernel
theorem dX11_work_94 : decode cX11_work 94 = .ok (.aload_n 3, 1) := by decide +kernel
theorem dX11_work_95 : decode cX11_work 95 = .ok (.getfield 174, 3) := by decide +kernel
theorem dX11_work_98 : decode cX11_work 98 = .ok (.iconst 0, 1) := by decide +kernel
theorem dX11_work_99 : decode cX11_work 99 = .ok (.aload_n 3, 1) := by decide +kernel
theorem dX11_work_100 : decode cX11_work 100 = .ok (.getfield 174, 3) := by decide +kernel
theorem dX11_work_103 : decode cX11_work 103 = .ok (.invokevirtual 184, 3) := by decide +kernel
theorem dX11_work_106 : decode cX11_work 106 = .ok (.invokevirtual 192, 3) := by decide +kernel
theorem dX11_work_109 : decode cX11_work 109 = .ok (.ireturn, 1) := by decide +kernel
theorem dX11_work_110 : decode cX11_work 110 = .ok (.new 134, 3) := by decide +kernel
theorem dX11_work_113 : decode cX11_work 113 = .ok (.dup, 1) := by decide +kernel
theorem dX11_work_114 : decode cX11_work 114 = .ok (.ldc 195, 2) := by decide +kernel
theorem dX11_work_116 : decode cX11_work 116 = .ok (.invokespecial 138, 3) := by decide +kernel
theorem dX11_work_119 : decode cX11_work 119 = .ok (.athrow, 1) := by decide +kernel
theorem rX11_work_0 {G : kz_G} {d : Nat} {mc ms : Nat} {Qr : Option Value → kz_M → Prop} {Qx : String → kz_M → Prop} {a0 : Nat} {p1 : Int32} {p2 : Int32}  {M : kz_M} (hG : kz_stat G) (h : (∃ fs43, (M).1 a0 = some (.inl (10, fs43))) ∧ ∃ mc3 ms3, 0 + mc3 ≤ mc ∧ 0 + ms3 ≤ ms ∧ kz_C G (d + 7) mc3 ms3 mX11_workOrThrow [.ref a0, .int p1] M (fun v M1 => ∃ r2 : Nat, v = some (.ref r2) ∧ ((p2 = 0 → ∃ fs4 v5, (M1).1 r2 = some (.inl (9, fs4)) ∧ fs4[0]? = some (.int v5) ∧ (Qr (some (.int v5)) M1)) ∧ (p2 = 1 → ∃ fs6 v7, (M1).1 r2 = some (.inl (9, fs6)) ∧ fs6[2]? = some (.ref v7) ∧ (∃ fs8 v9, (M1).1 v7 = some (.inl (6, fs8)) ∧ fs8[0]? = some (.int v9) ∧ (Qr (some (.int v9)) M1))) ∧ (p2 = 2 → ∃ fs10 v11, (M1).1 r2 = some (.inl (9, fs10)) ∧ fs10[1]? = some (.int v11) ∧ (Qr (some (.int v11)) M1)) ∧ (p2 = 3 → ∃ fs12 v13, (M1).1 r2 = some (.inl (9, fs12)) ∧ fs12[2]? = some (.ref v13) ∧ ((∃ fs17, (M1).1 v13 = some (.inl (6, fs17))) ∧ kz_C G (d + 7) 0 0 mX6_size [.ref v13] M1 (fun v M14 => ∃ r15 : Int32, v = some (.int r15) ∧ (Qr (some (.int r15)) M14)) Qx)) ∧ (p2 = 4 → (∃ fs21, (M1).1 r2 = some (.inl (9, fs21))) ∧ kz_C G (d + 7) 0 0 mX10_size [.ref r2] M1 (fun v M18 => ∃ r19 : Int32, v = some (.int r19) ∧ (Qr (some (.int r19)) M18)) Qx) ∧ (p2 = 5 → (∃ fs25, (M1).1 r2 = some (.inl (9, fs25))) ∧ kz_C G (d + 7) 0 0 mX10_linesOf [.ref r2, .int 1] M1 (fun v M22 => ∃ r23 : Int32, v = some (.int r23) ∧ (Qr (some (.int r23)) M22)) Qx) ∧ (p2 = 6 → (∃ fs29, (M1).1 r2 = some (.inl (9, fs29))) ∧ kz_C G (d + 7) 0 0 mX10_payOfCounting [.ref r2] M1 (fun v M26 => ∃ r27 : Int32, v = some (.int r27) ∧ (Qr (some (.int r27)) M26)) Qx) ∧ (p2 = 7 → ∃ fs30 v31, (M1).1 r2 = some (.inl (9, fs30)) ∧ fs30[2]? = some (.ref v31) ∧ (∃ fs32 v33, (M1).1 r2 = some (.inl (9, fs32)) ∧ fs32[2]? = some (.ref v33) ∧ ((∃ fs41, (M1).1 v33 = some (.inl (6, fs41))) ∧ kz_C G (d + 7) 0 0 mX6_size [.ref v33] M1 (fun v M34 => ∃ r35 : Int32, v = some (.int r35) ∧ ((∃ fs40, (M34).1 v31 = some (.inl (6, fs40))) ∧ kz_C G (d + 7) 0 0 mX6_differentBetween [.ref v31, .int 0, .int r35] M34 (fun v M37 => ∃ r38 : Int32, v = some (.int r38) ∧ (Qr (some (.int r38)) M37)) Qx)) Qx))) ∧ (¬ p2 = 0 → ¬ p2 = 1 → ¬ p2 = 2 → ¬ p2 = 3 → ¬ p2 = 4 → ¬ p2 = 5 → ¬ p2 = 6 → ¬ p2 = 7 → 0 + mc3 + 1 ≤ mc ∧ 0 + ms3 + 6 ≤ ms ∧ ∀ g42, Qx "java/lang/IllegalArgumentException" ((M1).1, (M1).2 + g42)))) Qx) : kz_C G (d + 8) mc ms mX11_work [.ref a0, .int p1, .int p2] M Qr Qx := by
  refine kz_enter (n := 2) kmX11_work.1 (Nat.le_of_ble_eq_true rfl) (ls := [(0, .ref a0), (1, .int p1), (2, .int p2)]) rfl ?_
  refine kz_aload_n (pc := 0) 0 (v := .ref a0) (i := 0) rfl rfl rfl dX11_work_0 ?_
  refine kz_iload_n (pc := 1) 1 (i := 1) rfl rfl dX11_work_1 ?_
  obtain ⟨⟨fs43, he⟩, h⟩ := h
  obtain ⟨mc3, ms3, hc3, hs3, h⟩ := h
  refine kz_callV (pc := 2) (μ' := mX11_workOrThrow) (ci := 10) (q := (RX11, TX11, 10)) (b := a0) (d' := d + 7) (mc' := mc3) (ms' := ms3) (As := [.int p1]) (st := []) (c := 0) (sl := 0) kmX11_workOrThrow kw_959 (by omega) rfl (Nat.le_of_ble_eq_true rfl) he rfl rfl hc3 hs3 dX11_work_2 (fun E M9 hx => kz_Tout rfl hc3 hs3 hx) (kz_Cmono (fun v M1 h => ?_) (fun _ _ h => h) h)
  obtain ⟨r2, rfl, h⟩ := h
  show kz_Z G (d + 8) mc ms mX11_work Qr Qx 5 [(0, .ref a0), (1, .int p1), (2, .int p2)] [.ref r2] M1 (0 + mc3) (0 + ms3)
  refine kz_astore_n (pc := 5) (i := 3) (v := .ref r2) (ls' := [(0, .ref a0), (1, .int p1), (2, .int p2)]) rfl rfl (by decide) rfl dX11_work_5 ?_
  refine kz_iload_n (pc := 6) 3 (i := 2) rfl rfl dX11_work_6 ?_
  by_cases hk0 : p2 = 0
  · replace h := h.1 hk0
    refine kz_tableIn (pc := 7) (off := 45) (tgt := 52) (by rw [hk0]; decide) (by rw [hk0]; decide) (by rw [hk0]; decide) (by decide) dX11_work_7 ?_
    refine kz_aload_n (pc := 52) 0 (v := .ref r2) (i := 3) rfl rfl rfl dX11_work_52 ?_
    obtain ⟨fs4, v5, hM, hv, h⟩ := h
    refine kz_getf (pc := 53) (k := 0) kcX10 hM hv (by decide) kw_1188 dX11_work_53 ?_
    exact kz_iret (pc := 56) rfl hc3 hs3 dX11_work_56 h
  by_cases hk1 : p2 = 1
  · replace h := h.2.1 hk1
    refine kz_tableIn (pc := 7) (off := 50) (tgt := 57) (by rw [hk1]; decide) (by rw [hk1]; decide) (by rw [hk1]; decide) (by decide) dX11_work_7 ?_
    refine kz_aload_n (pc := 57) 0 (v := .ref r2) (i := 3) rfl rfl rfl dX11_work_57 ?_
    obtain ⟨fs6, v7, hM, hv, h⟩ := h
    refine kz_getf (pc := 58) (k := 2) kcX10 hM hv (by decide) kw_1194 dX11_work_58 ?_
    obtain ⟨fs8, v9, hM, hv, h⟩ := h
    refine kz_getf (pc := 61) (k := 0) kcX6 hM hv (by decide) kw_1098 dX11_work_61 ?_
    exact kz_iret (pc := 64) rfl hc3 hs3 dX11_work_64 h
  by_cases hk2 : p2 = 2
  · replace h := h.2.2.1 hk2
    refine kz_tableIn (pc := 7) (off := 58) (tgt := 65) (by rw [hk2]; decide) (by rw [hk2]; decide) (by rw [hk2]; decide) (by decide) dX11_work_7 ?_
    refine kz_aload_n (pc := 65) 0 (v := .ref r2) (i := 3) rfl rfl rfl dX11_work_65 ?_
    obtain ⟨fs10, v11, hM, hv, h⟩ := h
    refine kz_getf (pc := 66) (k := 1) kcX10 hM hv (by decide) kw_1191 dX11_work_66 ?_
    exact kz_iret (pc := 69) rfl hc3 hs3 dX11_work_69 h
  by_cases hk3 : p2 = 3
  · replace h := h.2.2.2.1 hk3
    refine kz_tableIn (pc := 7) (off := 63) (tgt := 70) (by rw [hk3]; decide) (by rw [hk3]; decide) (by rw [hk3]; decide) (by decide) dX11_work_7 ?_
    refine kz_aload_n (pc := 70) 0 (v := .ref r2) (i := 3) rfl rfl rfl dX11_work_70 ?_
    obtain ⟨fs12, v13, hM, hv, h⟩ := h
    refine kz_getf (pc := 71) (k := 2) kcX10 hM hv (by decide) kw_1194 dX11_work_71 ?_
    obtain ⟨⟨fs17, he⟩, h⟩ := h
    refine kz_callV (pc := 74) (μ' := mX6_size) (ci := 6) (q := (RX6, TX6, 3)) (b := v13) (d' := d + 7) (mc' := 0) (ms' := 0) (As := []) (st := []) (c := 0 + mc3) (sl := 0 + ms3) kmX6_size kw_890 (by omega) rfl (Nat.le_of_ble_eq_true rfl) he rfl rfl hc3 hs3 dX11_work_74 (fun E M9 hx => kz_Tout rfl hc3 hs3 hx) (kz_Cmono (fun v M14 h => ?_) (fun _ _ h => h) h)
    obtain ⟨r15, rfl, h⟩ := h
    show kz_Z G (d + 8) mc ms mX11_work Qr Qx 77 [(3, .ref r2), (0, .ref a0), (1, .int p1), (2, .int p2)] [.int r15] M14 (0 + mc3) (0 + ms3)
    exact kz_iret (pc := 77) rfl hc3 hs3 dX11_work_77 h
  by_cases hk4 : p2 = 4
  · replace h := h.2.2.2.2.1 hk4
    refine kz_tableIn (pc := 7) (off := 71) (tgt := 78) (by rw [hk4]; decide) (by rw [hk4]; decide) (by rw [hk4]; decide) (by decide) dX11_work_7 ?_
    refine kz_aload_n (pc := 78) 0 (v := .ref r2) (i := 3) rfl rfl rfl dX11_work_78 ?_
    obtain ⟨⟨fs21, he⟩, h⟩ := h
    refine kz_callV (pc := 79) (μ' := mX10_size) (ci := 9) (q := (RX10, TX10, 4)) (b := r2) (d' := d + 7) (mc' := 0) (ms' := 0) (As := []) (st := []) (c := 0 + mc3) (sl := 0 + ms3) kmX10_size kw_965 (by omega) rfl (Nat.le_of_ble_eq_true rfl) he rfl rfl hc3 hs3 dX11_work_79 (fun E M9 hx => kz_Tout rfl hc3 hs3 hx) (kz_Cmono (fun v M18 h => ?_) (fun _ _ h => h) h)
    obtain ⟨r19, rfl, h⟩ := h
    show kz_Z G (d + 8) mc ms mX11_work Qr Qx 82 [(3, .ref r2), (0, .ref a0), (1, .int p1), (2, .int p2)] [.int r19] M18 (0 + mc3) (0 + ms3)
    exact kz_iret (pc := 82) rfl hc3 hs3 dX11_work_82 h
  by_cases hk5 : p2 = 5
  · replace h := h.2.2.2.2.2.1 hk5
    refine kz_tableIn (pc := 7) (off := 76) (tgt := 83) (by rw [hk5]; decide) (by rw [hk5]; decide) (by rw [hk5]; decide) (by decide) dX11_work_7 ?_
    refine kz_aload_n (pc := 83) 0 (v := .ref r2) (i := 3) rfl rfl rfl dX11_work_83 ?_
    refine kz_iconst (pc := 84) (v := 1) (by decide) dX11_work_84 ?_
    obtain ⟨⟨fs25, he⟩, h⟩ := h
    refine kz_callV (pc := 85) (μ' := mX10_linesOf) (ci := 9) (q := (RX10, TX10, 4)) (b := r2) (d' := d + 7) (mc' := 0) (ms' := 0) (As := [.int 1]) (st := []) (c := 0 + mc3) (sl := 0 + ms3) kmX10_linesOf kw_966 (by omega) rfl (Nat.le_of_ble_eq_true rfl) he rfl rfl hc3 hs3 dX11_work_85 (fun E M9 hx => kz_Tout rfl hc3 hs3 hx) (kz_Cmono (fun v M22 h => ?_) (fun _ _ h => h) h)
    obtain ⟨r23, rfl, h⟩ := h
    show kz_Z G (d + 8) mc ms mX11_work Qr Qx 88 [(3, .ref r2), (0, .ref a0), (1, .int p1), (2, .int p2)] [.int r23] M22 (0 + mc3) (0 + ms3)
    exact kz_iret (pc := 88) rfl hc3 hs3 dX11_work_88 h
  by_cases hk6 : p2 = 6
  · replace h := h.2.2.2.2.2.2.1 hk6
    refine kz_tableIn (pc := 7) (off := 82) (tgt := 89) (by rw [hk6]; decide) (by rw [hk6]; decide) (by rw [hk6]; decide) (by decide) dX11_work_7 ?_
    refine kz_aload_n (pc := 89) 0 (v := .ref r2) (i := 3) rfl rfl rfl dX11_work_89 ?_
    obtain ⟨⟨fs29, he⟩, h⟩ := h
    refine kz_callV (pc := 90) (μ' := mX10_payOfCounting) (ci := 9) (q := (RX10, TX10, 4)) (b := r2) (d' := d + 7) (mc' := 0) (ms' := 0) (As := []) (st := []) (c := 0 + mc3) (sl := 0 + ms3) kmX10_payOfCounting kw_967 (by omega) rfl (Nat.le_of_ble_eq_true rfl) he rfl rfl hc3 hs3 dX11_work_90 (fun E M9 hx => kz_Tout rfl hc3 hs3 hx) (kz_Cmono (fun v M26 h => ?_) (fun _ _ h => h) h)
    obtain ⟨r27, rfl, h⟩ := h
    show kz_Z G (d + 8) mc ms mX11_work Qr Qx 93 [(3, .ref r2), (0, .ref a0), (1, .int p1), (2, .int p2)] [.int r27] M26 (0 + mc3) (0 + ms3)
    exact kz_iret (pc := 93) rfl hc3 hs3 dX11_work_93 h
  by_cases hk7 : p2 = 7
  · replace h := h.2.2.2.2.2.2.2.1 hk7
    refine kz_tableIn (pc := 7) (off := 87) (tgt := 94) (by rw [hk7]; decide) (by rw [hk7]; decide) (by rw [hk7]; decide) (by decide) dX11_work_7 ?_
    refine kz_aload_n (pc := 94) 0 (v := .ref r2) (i := 3) rfl rfl rfl dX11_work_94 ?_
    obtain ⟨fs30, v31, hM, hv, h⟩ := h
    refine kz_getf (pc := 95) (k := 2) kcX10 hM hv (by decide) kw_1194 dX11_work_95 ?_
    refine kz_iconst (pc := 98) (v := 0) (by decide) dX11_work_98 ?_
    refine kz_aload_n (pc := 99) 0 (v := .ref r2) (i := 3) rfl rfl rfl dX11_work_99 ?_
    obtain ⟨fs32, v33, hM, hv, h⟩ := h
    refine kz_getf (pc := 100) (k := 2) kcX10 hM hv (by decide) kw_1194 dX11_work_100 ?_
    obtain ⟨⟨fs41, he⟩, h⟩ := h
    refine kz_callV (pc := 103) (μ' := mX6_size) (ci := 6) (q := (RX6, TX6, 3)) (b := v33) (d' := d + 7) (mc' := 0) (ms' := 0) (As := []) (st := [.int 0, .ref v31]) (c := 0 + mc3) (sl := 0 + ms3) kmX6_size kw_890 (by omega) rfl (Nat.le_of_ble_eq_true rfl) he rfl rfl hc3 hs3 dX11_work_103 (fun E M9 hx => kz_Tout rfl hc3 hs3 hx) (kz_Cmono (fun v M34 h => ?_) (fun _ _ h => h) h)
    obtain ⟨r35, rfl, h⟩ := h
    show kz_Z G (d + 8) mc ms mX11_work Qr Qx 106 [(3, .ref r2), (0, .ref a0), (1, .int p1), (2, .int p2)] [.int r35, .int 0, .ref v31] M34 (0 + mc3) (0 + ms3)
    obtain ⟨⟨fs40, he⟩, h⟩ := h
    refine kz_callV (pc := 106) (μ' := mX6_differentBetween) (ci := 6) (q := (RX6, TX6, 3)) (b := v31) (d' := d + 7) (mc' := 0) (ms' := 0) (As := [.int 0, .int r35]) (st := []) (c := 0 + mc3) (sl := 0 + ms3) kmX6_differentBetween kw_972 (by omega) rfl (Nat.le_of_ble_eq_true rfl) he rfl rfl hc3 hs3 dX11_work_106 (fun E M9 hx => kz_Tout rfl hc3 hs3 hx) (kz_Cmono (fun v M37 h => ?_) (fun _ _ h => h) h)
    obtain ⟨r38, rfl, h⟩ := h
    show kz_Z G (d + 8) mc ms mX11_work Qr Qx 109 [(3, .ref r2), (0, .ref a0), (1, .int p1), (2, .int p2)] [.int r38] M37 (0 + mc3) (0 + ms3)
    exact kz_iret (pc := 109) rfl hc3 hs3 dX11_work_109 h
  replace h := h.2.2.2.2.2.2.2.2 hk0 hk1 hk2 hk3 hk4 hk5 hk6 hk7
  refine kz_tableOut (pc := 7) (tgt := 110) (kz_swout (lo := 0) (n := 8) (by decide) (by decide) (kz_all8 (kz_swne (by decide) hk0) (kz_swne (by decide) hk1) (kz_swne (by decide) hk2) (kz_swne (by decide) hk3) (kz_swne (by decide) hk4) (kz_swne (by decide) hk5) (kz_swne (by decide) hk6) (kz_swne (by decide) hk7))) (by decide) dX11_work_7 ?_
  exact kz_throwS (pc := 110) (ik := 134) (is := 195) (ic := 138) (j := 1003) (text := "no such number of a work") hG.1 hG.2.1 hG.2.2.1 (by decide +kernel) kz_xn kw_746 kw_27 (List.mem_of_getElem? (i := 3) rfl) kz_xw_IllegalArgumentException kz_xg_IllegalArgumentException rfl (by show 2 + 3 < _; omega) (by decide) (Nat.le_of_ble_eq_true rfl) h.1 h.2.1 dX11_work_110 dX11_work_113 dX11_work_114 dX11_work_116 dX11_work_119 h.2.2
theorem dX11_line_0 : decode cX11_line 0 = .ok (.aload_n 0, 1) := by decide +kernel
theorem dX11_line_1 : decode cX11_line 1 = .ok (.iload_n 1, 1) := by decide +kernel
theorem dX11_line_2 : decode cX11_line 2 = .ok (.iload_n 2, 1) := by decide +kernel
theorem dX11_line_3 : decode cX11_line 3 = .ok (.invokevirtual 197, 3) := by decide +kernel
theorem dX11_line_6 : decode cX11_line 6 = .ok (.astore 4, 2) := by decide +kernel
theorem dX11_line_8 : decode cX11_line 8 = .ok (.iload_n 3, 1) := by decide +kernel
theorem dX11_line_9 : decode cX11_line 9 = .ok (.tableswitch 91 0 6 #[43, 49, 61, 67, 73, 79, 85], 43) := by decide +kernel
theorem dX11_line_52 : decode cX11_line 52 = .ok (.aload 4, 2) := by decide +kernel
theorem dX11_line_54 : decode cX11_line 54 = .ok (.getfield 201, 3) := by decide +kernel
theorem dX11_line_57 : decode cX11_line 57 = .ok (.ireturn, 1) := by decide +kernel
theorem dX11_line_58 : decode cX11_line 58 = .ok (.aload 4, 2) := by decide +kernel
theorem dX11_line_60 : decode cX11_line 60 = .ok (.getfield 204, 3) := by decide +kernel
theorem dX11_line_63 : decode cX11_line 63 = .ok (.aload 4, 2) := by decide +kernel
theorem dX11_line_65 : decode cX11_line 65 = .ok (.getfield 201, 3) := by decide +kernel
theorem dX11_line_68 : decode cX11_line 68 = .ok (.isub, 1) := by decide +kernel
theorem dX11_line_69 : decode cX11_line 69 = .ok (.ireturn, 1) := by decide +kernel
theorem dX11_line_70 : decode cX11_line 70 = .ok (.aload 4, 2) := by decide +kernel
theorem dX11_line_72 : decode cX11_line 72 = .ok (.getfield 207, 3) := by decide +kernel
theorem dX11_line_75 : decode cX11_line 75 = .ok (.ireturn, 1) := by decide +kernel
theorem dX11_line_76 : decode cX11_line 76 = .ok (.aload 4, 2) := by decide +kernel
theorem dX11_line_78 : decode cX11_line 78 = .ok (.getfield 210, 3) := by decide +kernel
theorem dX11_line_81 : decode cX11_line 81 = .ok (.ireturn, 1) := by decide +kernel
theorem dX11_line_82 : decode cX11_line 82 = .ok (.aload 4, 2) := by decide +kernel
theorem dX11_line_84 : decode cX11_line 84 = .ok (.getfield 213, 3) := by decide +kernel
theorem dX11_line_87 : decode cX11_line 87 = .ok (.ireturn, 1) := by decide +kernel
theorem dX11_line_88 : decode cX11_line 88 = .ok (.aload 4, 2) := by decide +kernel
theorem dX11_line_90 : decode cX11_line 90 = .ok (.getfield 216, 3) := by decide +kernel
theorem dX11_line_93 : decode cX11_line 93 = .ok (.ireturn, 1) := by decide +kernel
theorem dX11_line_94 : decode cX11_line 94 = .ok (.aload 4, 2) := by decide +kernel
theorem dX11_line_96 : decode cX11_line 96 = .ok (.invokevirtual 219, 3) := by decide +kernel
theorem dX11_line_99 : decode cX11_line 99 = .ok (.ireturn, 1) := by decide +kernel
theorem dX11_line_100 : decode cX11_line 100 = .ok (.new 134, 3) := by decide +kernel
theorem dX11_line_103 : decode cX11_line 103 = .ok (.dup, 1) := by decide +kernel
theorem dX11_line_104 : decode cX11_line 104 = .ok (.ldc 222, 2) := by decide +kernel
theorem dX11_line_106 : decode cX11_line 106 = .ok (.invokespecial 138, 3) := by decide +kernel
theorem dX11_line_109 : decode cX11_line 109 = .ok (.athrow, 1) := by decide +kernel
theorem rX11_line_0 {G : kz_G} {d : Nat} {mc ms : Nat} {Qr : Option Value → kz_M → Prop} {Qx : String → kz_M → Prop} {a0 : Nat} {p1 : Int32} {p2 : Int32} {p3 : Int32}  {M : kz_M} (hG : kz_stat G) (h : (∃ fs23, (M).1 a0 = some (.inl (10, fs23))) ∧ ∃ mc3 ms3, 0 + mc3 ≤ mc ∧ 0 + ms3 ≤ ms ∧ kz_C G (d + 8) mc3 ms3 mX11_lineOrThrow [.ref a0, .int p1, .int p2] M (fun v M1 => ∃ r2 : Nat, v = some (.ref r2) ∧ ((p3 = 0 → ∃ fs4 v5, (M1).1 r2 = some (.inl (3, fs4)) ∧ fs4[1]? = some (.int v5) ∧ (Qr (some (.int v5)) M1)) ∧ (p3 = 1 → ∃ fs6 v7, (M1).1 r2 = some (.inl (3, fs6)) ∧ fs6[2]? = some (.int v7) ∧ (∃ fs8 v9, (M1).1 r2 = some (.inl (3, fs8)) ∧ fs8[1]? = some (.int v9) ∧ (Qr (some (.int (v7 - v9))) M1))) ∧ (p3 = 2 → ∃ fs10 v11, (M1).1 r2 = some (.inl (3, fs10)) ∧ fs10[3]? = some (.int v11) ∧ (Qr (some (.int v11)) M1)) ∧ (p3 = 3 → ∃ fs12 v13, (M1).1 r2 = some (.inl (3, fs12)) ∧ fs12[6]? = some (.int v13) ∧ (Qr (some (.int v13)) M1)) ∧ (p3 = 4 → ∃ fs14 v15, (M1).1 r2 = some (.inl (3, fs14)) ∧ fs14[5]? = some (.int v15) ∧ (Qr (some (.int v15)) M1)) ∧ (p3 = 5 → ∃ fs16 v17, (M1).1 r2 = some (.inl (3, fs16)) ∧ fs16[4]? = some (.int v17) ∧ (Qr (some (.int v17)) M1)) ∧ (p3 = 6 → (∃ fs21, (M1).1 r2 = some (.inl (3, fs21))) ∧ kz_C G (d + 8) 0 0 mX3_different [.ref r2] M1 (fun v M18 => ∃ r19 : Int32, v = some (.int r19) ∧ (Qr (some (.int r19)) M18)) Qx) ∧ (¬ p3 = 0 → ¬ p3 = 1 → ¬ p3 = 2 → ¬ p3 = 3 → ¬ p3 = 4 → ¬ p3 = 5 → ¬ p3 = 6 → 0 + mc3 + 1 ≤ mc ∧ 0 + ms3 + 6 ≤ ms ∧ ∀ g22, Qx "java/lang/IllegalArgumentException" ((M1).1, (M1).2 + g22)))) Qx) : kz_C G (d + 9) mc ms mX11_line [.ref a0, .int p1, .int p2, .int p3] M Qr Qx := by
  refine kz_enter (n := 3) kmX11_line.1 (Nat.le_of_ble_eq_true rfl) (ls := [(0, .ref a0), (1, .int p1), (2, .int p2), (3, .int p3)]) rfl ?_
  refine kz_aload_n (pc := 0) 0 (v := .ref a0) (i := 0) rfl rfl rfl dX11_line_0 ?_
  refine kz_iload_n (pc := 1) 1 (i := 1) rfl rfl dX11_line_1 ?_
  refine kz_iload_n (pc := 2) 2 (i := 2) rfl rfl dX11_line_2 ?_
  obtain ⟨⟨fs23, he⟩, h⟩ := h
  obtain ⟨mc3, ms3, hc3, hs3, h⟩ := h
  refine kz_callV (pc := 3) (μ' := mX11_lineOrThrow) (ci := 10) (q := (RX11, TX11, 10)) (b := a0) (d' := d + 8) (mc' := mc3) (ms' := ms3) (As := [.int p1, .int p2]) (st := []) (c := 0) (sl := 0) kmX11_lineOrThrow kw_983 (by omega) rfl (Nat.le_of_ble_eq_true rfl) he rfl rfl hc3 hs3 dX11_line_3 (fun E M9 hx => kz_Tout rfl hc3 hs3 hx) (kz_Cmono (fun v M1 h => ?_) (fun _ _ h => h) h)
  obtain ⟨r2, rfl, h⟩ := h
  show kz_Z G (d + 9) mc ms mX11_line Qr Qx 6 [(0, .ref a0), (1, .int p1), (2, .int p2), (3, .int p3)] [.ref r2] M1 (0 + mc3) (0 + ms3)
  refine kz_astore (pc := 6) (i := 4) (v := .ref r2) (ls' := [(0, .ref a0), (1, .int p1), (2, .int p2), (3, .int p3)]) rfl (by decide) rfl dX11_line_6 ?_
  refine kz_iload_n (pc := 8) 4 (i := 3) rfl rfl dX11_line_8 ?_
  by_cases hk0 : p3 = 0
  · replace h := h.1 hk0
    refine kz_tableIn (pc := 9) (off := 43) (tgt := 52) (by rw [hk0]; decide) (by rw [hk0]; decide) (by rw [hk0]; decide) (by decide) dX11_line_9 ?_
    refine kz_aload (pc := 52) 0 (v := .ref r2) (i := 4) rfl rfl dX11_line_52 ?_
    obtain ⟨fs4, v5, hM, hv, h⟩ := h
    refine kz_getf (pc := 54) (k := 1) kcX3 hM hv (by decide) kw_1158 dX11_line_54 ?_
    exact kz_iret (pc := 57) rfl hc3 hs3 dX11_line_57 h
  by_cases hk1 : p3 = 1
  · replace h := h.2.1 hk1
    refine kz_tableIn (pc := 9) (off := 49) (tgt := 58) (by rw [hk1]; decide) (by rw [hk1]; decide) (by rw [hk1]; decide) (by decide) dX11_line_9 ?_
    refine kz_aload (pc := 58) 0 (v := .ref r2) (i := 4) rfl rfl dX11_line_58 ?_
    obtain ⟨fs6, v7, hM, hv, h⟩ := h
    refine kz_getf (pc := 60) (k := 2) kcX3 hM hv (by decide) kw_1161 dX11_line_60 ?_
    refine kz_aload (pc := 63) 0 (v := .ref r2) (i := 4) rfl rfl dX11_line_63 ?_
    obtain ⟨fs8, v9, hM, hv, h⟩ := h
    refine kz_getf (pc := 65) (k := 1) kcX3 hM hv (by decide) kw_1158 dX11_line_65 ?_
    refine kz_isub (pc := 68) dX11_line_68 ?_
    exact kz_iret (pc := 69) rfl hc3 hs3 dX11_line_69 h
  by_cases hk2 : p3 = 2
  · replace h := h.2.2.1 hk2
    refine kz_tableIn (pc := 9) (off := 61) (tgt := 70) (by rw [hk2]; decide) (by rw [hk2]; decide) (by rw [hk2]; decide) (by decide) dX11_line_9 ?_
    refine kz_aload (pc := 70) 0 (v := .ref r2) (i := 4) rfl rfl dX11_line_70 ?_
    obtain ⟨fs10, v11, hM, hv, h⟩ := h
    refine kz_getf (pc := 72) (k := 3) kcX3 hM hv (by decide) kw_1163 dX11_line_72 ?_
    exact kz_iret (pc := 75) rfl hc3 hs3 dX11_line_75 h
  by_cases hk3 : p3 = 3
  · replace h := h.2.2.2.1 hk3
    refine kz_tableIn (pc := 9) (off := 67) (tgt := 76) (by rw [hk3]; decide) (by rw [hk3]; decide) (by rw [hk3]; decide) (by decide) dX11_line_9 ?_
    refine kz_aload (pc := 76) 0 (v := .ref r2) (i := 4) rfl rfl dX11_line_76 ?_
    obtain ⟨fs12, v13, hM, hv, h⟩ := h
    refine kz_getf (pc := 78) (k := 6) kcX3 hM hv (by decide) kw_1170 dX11_line_78 ?_
    exact kz_iret (pc := 81) rfl hc3 hs3 dX11_line_81 h
  by_cases hk4 : p3 = 4
  · replace h := h.2.2.2.2.1 hk4
    refine kz_tableIn (pc := 9) (off := 73) (tgt := 82) (by rw [hk4]; decide) (by rw [hk4]; decide) (by rw [hk4]; decide) (by decide) dX11_line_9 ?_
    refine kz_aload (pc := 82) 0 (v := .ref r2) (i := 4) rfl rfl dX11_line_82 ?_
    obtain ⟨fs14, v15, hM, hv, h⟩ := h
    refine kz_getf (pc := 84) (k := 5) kcX3 hM hv (by decide) kw_1168 dX11_line_84 ?_
    exact kz_iret (pc := 87) rfl hc3 hs3 dX11_line_87 h
  by_cases hk5 : p3 = 5
  · replace h := h.2.2.2.2.2.1 hk5
    refine kz_tableIn (pc := 9) (off := 79) (tgt := 88) (by rw [hk5]; decide) (by rw [hk5]; decide) (by rw [hk5]; decide) (by decide) dX11_line_9 ?_
    refine kz_aload (pc := 88) 0 (v := .ref r2) (i := 4) rfl rfl dX11_line_88 ?_
    obtain ⟨fs16, v17, hM, hv, h⟩ := h
    refine kz_getf (pc := 90) (k := 4) kcX3 hM hv (by decide) kw_1166 dX11_line_90 ?_
    exact kz_iret (pc := 93) rfl hc3 hs3 dX11_line_93 h
  by_cases hk6 : p3 = 6
  · replace h := h.2.2.2.2.2.2.1 hk6
    refine kz_tableIn (pc := 9) (off := 85) (tgt := 94) (by rw [hk6]; decide) (by rw [hk6]; decide) (by rw [hk6]; decide) (by decide) dX11_line_9 ?_
    refine kz_aload (pc := 94) 0 (v := .ref r2) (i := 4) rfl rfl dX11_line_94 ?_
    obtain ⟨⟨fs21, he⟩, h⟩ := h
    refine kz_callV (pc := 96) (μ' := mX3_different) (ci := 3) (q := (RX3, TX3, 7)) (b := r2) (d' := d + 8) (mc' := 0) (ms' := 0) (As := []) (st := []) (c := 0 + mc3) (sl := 0 + ms3) kmX3_different kw_989 (by omega) rfl (Nat.le_of_ble_eq_true rfl) he rfl rfl hc3 hs3 dX11_line_96 (fun E M9 hx => kz_Tout rfl hc3 hs3 hx) (kz_Cmono (fun v M18 h => ?_) (fun _ _ h => h) h)
    obtain ⟨r19, rfl, h⟩ := h
    show kz_Z G (d + 9) mc ms mX11_line Qr Qx 99 [(4, .ref r2), (0, .ref a0), (1, .int p1), (2, .int p2), (3, .int p3)] [.int r19] M18 (0 + mc3) (0 + ms3)
    exact kz_iret (pc := 99) rfl hc3 hs3 dX11_line_99 h
  replace h := h.2.2.2.2.2.2.2 hk0 hk1 hk2 hk3 hk4 hk5 hk6
  refine kz_tableOut (pc := 9) (tgt := 100) (kz_swout (lo := 0) (n := 7) (by decide) (by decide) (kz_all7 (kz_swne (by decide) hk0) (kz_swne (by decide) hk1) (kz_swne (by decide) hk2) (kz_swne (by decide) hk3) (kz_swne (by decide) hk4) (kz_swne (by decide) hk5) (kz_swne (by decide) hk6))) (by decide) dX11_line_9 ?_
  exact kz_throwS (pc := 100) (ik := 134) (is := 222) (ic := 138) (j := 1004) (text := "no such number of a line") hG.1 hG.2.1 hG.2.2.1 (by decide +kernel) kz_xn kw_746 kw_27 (List.mem_of_getElem? (i := 4) rfl) kz_xw_IllegalArgumentException kz_xg_IllegalArgumentException rfl (by show 2 + 3 < _; omega) (by decide) (Nat.le_of_ble_eq_true rfl) h.1 h.2.1 dX11_line_100 dX11_line_103 dX11_line_104 dX11_line_106 dX11_line_109 h.2.2
theorem dX11_wouldCount_0 : decode cX11_wouldCount 0 = .ok (.aload_n 0, 1) := by decide +kernel
theorem dX11_wouldCount_1 : decode cX11_wouldCount 1 = .ok (.iload_n 1, 1) := by decide +kernel
theorem dX11_wouldCount_2 : decode cX11_wouldCount 2 = .ok (.iload_n 2, 1) := by decide +kernel
theorem dX11_wouldCount_3 : decode cX11_wouldCount 3 = .ok (.iload_n 3, 1) := by decide +kernel
theorem dX11_wouldCount_4 : decode cX11_wouldCount 4 = .ok (.invokevirtual 312, 3) := by decide +kernel
theorem dX11_wouldCount_7 : decode cX11_wouldCount 7 = .ok (.aload_n 0, 1) := by decide +kernel
theorem dX11_wouldCount_8 : decode cX11_wouldCount 8 = .ok (.getfield 10, 3) := by decide +kernel
theorem dX11_wouldCount_11 : decode cX11_wouldCount 11 = .ok (.iload_n 2, 1) := by decide +kernel
theorem dX11_wouldCount_12 : decode cX11_wouldCount 12 = .ok (.iload_n 3, 1) := by decide +kernel
theorem dX11_wouldCount_13 : decode cX11_wouldCount 13 = .ok (.invokestatic 316, 3) := by decide +kernel
theorem dX11_wouldCount_16 : decode cX11_wouldCount 16 = .ok (.astore 4, 2) := by decide +kernel
theorem dX11_wouldCount_18 : decode cX11_wouldCount 18 = .ok (.aload 4, 2) := by decide +kernel
theorem dX11_wouldCount_20 : decode cX11_wouldCount 20 = .ok (.ifnonnull 7, 3) := by decide +kernel
theorem dX11_wouldCount_23 : decode cX11_wouldCount 23 = .ok (.iconst (-1), 1) := by decide +kernel
theorem dX11_wouldCount_24 : decode cX11_wouldCount 24 = .ok (.goto 28, 3) := by decide +kernel
theorem dX11_wouldCount_27 : decode cX11_wouldCount 27 = .ok (.aload_n 0, 1) := by decide +kernel
theorem dX11_wouldCount_28 : decode cX11_wouldCount 28 = .ok (.aload 4, 2) := by decide +kernel
theorem dX11_wouldCount_30 : decode cX11_wouldCount 30 = .ok (.iload_n 1, 1) := by decide +kernel
theorem dX11_wouldCount_31 : decode cX11_wouldCount 31 = .ok (.aload_n 0, 1) := by decide +kernel
theorem dX11_wouldCount_32 : decode cX11_wouldCount 32 = .ok (.getfield 26, 3) := by decide +kernel
theorem dX11_wouldCount_35 : decode cX11_wouldCount 35 = .ok (.getfield 319, 3) := by decide +kernel
theorem dX11_wouldCount_38 : decode cX11_wouldCount 38 = .ok (.aload_n 0, 1) := by decide +kernel
theorem dX11_wouldCount_39 : decode cX11_wouldCount 39 = .ok (.getfield 26, 3) := by decide +kernel
theorem dX11_wouldCount_42 : decode cX11_wouldCount 42 = .ok (.getfield 105, 3) := by decide +kernel
theorem dX11_wouldCount_45 : decode cX11_wouldCount 45 = .ok (.invokevirtual 323, 3) := by decide +kernel
theorem dX11_wouldCount_48 : decode cX11_wouldCount 48 = .ok (.iconst 1, 1) := by decide +kernel
theorem dX11_wouldCount_49 : decode cX11_wouldCount 49 = .ok (.invokevirtual 187, 3) := by decide +kernel
theorem dX11_wouldCount_52 : decode cX11_wouldCount 52 = .ok (.ireturn, 1) := by decide +kernel
theorem rX11_wouldCount_0 {G : kz_G} {d : Nat} {mc ms : Nat} {Qr : Option Value → kz_M → Prop} {Qx : String → kz_M → Prop} {a0 : Nat} {p1 : Int32} {p2 : Int32} {p3 : Int32}  {M : kz_M} (h : (∃ fs27, (M).1 a0 = some (.inl (10, fs27))) ∧ ∃ mc3 ms3, 0 + mc3 ≤ mc ∧ 0 + ms3 ≤ ms ∧ kz_C G (d + 8) mc3 ms3 mX11_checkSubmission [.ref a0, .int p1, .int p2, .int p3] M (fun v M1 => v = none ∧ (∃ fs4 v5, (M1).1 a0 = some (.inl (10, fs4)) ∧ fs4[0]? = some (.ref v5) ∧ (∃ mc8 ms8, 0 + mc3 + mc8 ≤ mc ∧ 0 + ms3 + ms8 ≤ ms ∧ kz_C G (d + 8) mc8 ms8 mX6_read [.ref v5, .int p2, .int p3] M1 (fun v M6 => ∃ r7 : Option Nat, v = some (kz_rf r7) ∧ ((r7 = none → Qr (some (.int ((-1)))) M6) ∧ (∀ y9, r7 = some y9 → ∃ fs10 v11, (M6).1 a0 = some (.inl (10, fs10)) ∧ fs10[2]? = some (.ref v11) ∧ (∃ fs12 v13, (M6).1 v11 = some (.inl (8, fs12)) ∧ fs12[4]? = some (.ref v13) ∧ (∃ fs14 v15, (M6).1 a0 = some (.inl (10, fs14)) ∧ fs14[2]? = some (.ref v15) ∧ (∃ fs16 v17, (M6).1 v15 = some (.inl (8, fs16)) ∧ fs16[3]? = some (.int v17) ∧ ((∃ fs25, (M6).1 a0 = some (.inl (10, fs25))) ∧ ∃ mc20 ms20, 0 + mc3 + mc8 + mc20 ≤ mc ∧ 0 + ms3 + ms8 + ms20 ≤ ms ∧ kz_C G (d + 8) mc20 ms20 mX11_judged [.ref a0, .ref y9, .int p1, .ref v13, .int v17] M6 (fun v M18 => ∃ r19 : Nat, v = some (.ref r19) ∧ ((∃ fs24, (M18).1 r19 = some (.inl (9, fs24))) ∧ kz_C G (d + 8) 0 0 mX10_linesOf [.ref r19, .int 1] M18 (fun v M21 => ∃ r22 : Int32, v = some (.int r22) ∧ (Qr (some (.int r22)) M21)) Qx)) Qx))))))) Qx))) Qx) : kz_C G (d + 9) mc ms mX11_wouldCount [.ref a0, .int p1, .int p2, .int p3] M Qr Qx := by
  refine kz_enter (n := 3) kmX11_wouldCount.1 (Nat.le_of_ble_eq_true rfl) (ls := [(0, .ref a0), (1, .int p1), (2, .int p2), (3, .int p3)]) rfl ?_
  refine kz_aload_n (pc := 0) 0 (v := .ref a0) (i := 0) rfl rfl rfl dX11_wouldCount_0 ?_
  refine kz_iload_n (pc := 1) 1 (i := 1) rfl rfl dX11_wouldCount_1 ?_
  refine kz_iload_n (pc := 2) 2 (i := 2) rfl rfl dX11_wouldCount_2 ?_
  refine kz_iload_n (pc := 3) 3 (i := 3) rfl rfl dX11_wouldCount_3 ?_
  obtain ⟨⟨fs27, he⟩, h⟩ := h
  obtain ⟨mc3, ms3, hc3, hs3, h⟩ := h
  refine kz_callV (pc := 4) (μ' := mX11_checkSubmission) (ci := 10) (q := (RX11, TX11, 10)) (b := a0) (d' := d + 8) (mc' := mc3) (ms' := ms3) (As := [.int p1, .int p2, .int p3]) (st := []) (c := 0) (sl := 0) kmX11_checkSubmission kw_1076 (by omega) rfl (Nat.le_of_ble_eq_true rfl) he rfl rfl hc3 hs3 dX11_wouldCount_4 (fun E M9 hx => kz_Tout rfl hc3 hs3 hx) (kz_Cmono (fun v M1 h => ?_) (fun _ _ h => h) h)
  obtain ⟨rfl, h⟩ := h
  show kz_Z G (d + 9) mc ms mX11_wouldCount Qr Qx 7 [(0, .ref a0), (1, .int p1), (2, .int p2), (3, .int p3)] [] M1 (0 + mc3) (0 + ms3)
  refine kz_aload_n (pc := 7) 0 (v := .ref a0) (i := 0) rfl rfl rfl dX11_wouldCount_7 ?_
  obtain ⟨fs4, v5, hM, hv, h⟩ := h
  refine kz_getf (pc := 8) (k := 0) kcX11 hM hv (by decide) kw_282 dX11_wouldCount_8 ?_
  refine kz_iload_n (pc := 11) 2 (i := 2) rfl rfl dX11_wouldCount_11 ?_
  refine kz_iload_n (pc := 12) 3 (i := 3) rfl rfl dX11_wouldCount_12 ?_
  obtain ⟨mc8, ms8, hc8, hs8, h⟩ := h
  refine kz_callS (pc := 13) (μ' := mX6_read) (d' := d + 8) (mc' := mc8) (ms' := ms8) (As := [.ref v5, .int p2, .int p3]) (st := []) (c := 0 + mc3) (sl := 0 + ms3) kmX6_read kw_1082 (by omega) rfl (Nat.le_of_ble_eq_true rfl) hc8 hs8 dX11_wouldCount_13 (fun E M9 hx => kz_Tout rfl hc8 hs8 hx) (kz_Cmono (fun v M6 h => ?_) (fun _ _ h => h) h)
  obtain ⟨r7, rfl, h⟩ := h
  show kz_Z G (d + 9) mc ms mX11_wouldCount Qr Qx 16 [(0, .ref a0), (1, .int p1), (2, .int p2), (3, .int p3)] [kz_rf r7] M6 (0 + mc3 + mc8) (0 + ms3 + ms8)
  refine kz_astore (pc := 16) (i := 4) (v := kz_rf r7) (ls' := [(0, .ref a0), (1, .int p1), (2, .int p2), (3, .int p3)]) (kz_isr_rf _) (by decide) rfl dX11_wouldCount_16 ?_
  refine kz_aload (pc := 18) 0 (v := kz_rf r7) (i := 4) rfl (kz_isr_rf _) dX11_wouldCount_18 ?_
  rcases r7 with _ | y9
  · replace h := h.1 rfl
    refine kz_ifnonnull (pc := 20) (tgt := 27) rfl (by decide) dX11_wouldCount_20 (fun hn => absurd rfl hn) (fun _ => ?_)
    refine kz_iconst (pc := 23) (v := (-1)) (by decide) dX11_wouldCount_23 ?_
    refine kz_goto (pc := 24) (tgt := 52) (by decide) dX11_wouldCount_24 ?_
    exact kz_iret (pc := 52) rfl hc8 hs8 dX11_wouldCount_52 h
  · replace h := h.2 y9 rfl
    refine kz_ifnonnull (pc := 20) (tgt := 27) rfl (by decide) dX11_wouldCount_20 (fun _ => ?_) (fun hn => by cases hn)
    refine kz_aload_n (pc := 27) 1 (v := .ref a0) (i := 0) rfl rfl rfl dX11_wouldCount_27 ?_
    refine kz_aload (pc := 28) 0 (v := .ref y9) (i := 4) rfl rfl dX11_wouldCount_28 ?_
    refine kz_iload_n (pc := 30) 2 (i := 1) rfl rfl dX11_wouldCount_30 ?_
    refine kz_aload_n (pc := 31) 1 (v := .ref a0) (i := 0) rfl rfl rfl dX11_wouldCount_31 ?_
    obtain ⟨fs10, v11, hM, hv, h⟩ := h
    refine kz_getf (pc := 32) (k := 2) kcX11 hM hv (by decide) kw_284 dX11_wouldCount_32 ?_
    obtain ⟨fs12, v13, hM, hv, h⟩ := h
    refine kz_getf (pc := 35) (k := 4) kcX9 hM hv (by decide) kw_119 dX11_wouldCount_35 ?_
    refine kz_aload_n (pc := 38) 1 (v := .ref a0) (i := 0) rfl rfl rfl dX11_wouldCount_38 ?_
    obtain ⟨fs14, v15, hM, hv, h⟩ := h
    refine kz_getf (pc := 39) (k := 2) kcX11 hM hv (by decide) kw_284 dX11_wouldCount_39 ?_
    obtain ⟨fs16, v17, hM, hv, h⟩ := h
    refine kz_getf (pc := 42) (k := 3) kcX9 hM hv (by decide) kw_116 dX11_wouldCount_42 ?_
    obtain ⟨⟨fs25, he⟩, h⟩ := h
    obtain ⟨mc20, ms20, hc20, hs20, h⟩ := h
    refine kz_callV (pc := 45) (μ' := mX11_judged) (ci := 10) (q := (RX11, TX11, 10)) (b := a0) (d' := d + 8) (mc' := mc20) (ms' := ms20) (As := [.ref y9, .int p1, .ref v13, .int v17]) (st := []) (c := 0 + mc3 + mc8) (sl := 0 + ms3 + ms8) kmX11_judged kw_1114 (by omega) rfl (Nat.le_of_ble_eq_true rfl) he rfl rfl hc20 hs20 dX11_wouldCount_45 (fun E M9 hx => kz_Tout rfl hc20 hs20 hx) (kz_Cmono (fun v M18 h => ?_) (fun _ _ h => h) h)
    obtain ⟨r19, rfl, h⟩ := h
    show kz_Z G (d + 9) mc ms mX11_wouldCount Qr Qx 48 [(4, .ref y9), (0, .ref a0), (1, .int p1), (2, .int p2), (3, .int p3)] [.ref r19] M18 (0 + mc3 + mc8 + mc20) (0 + ms3 + ms8 + ms20)
    refine kz_iconst (pc := 48) (v := 1) (by decide) dX11_wouldCount_48 ?_
    obtain ⟨⟨fs24, he⟩, h⟩ := h
    refine kz_callV (pc := 49) (μ' := mX10_linesOf) (ci := 9) (q := (RX10, TX10, 4)) (b := r19) (d' := d + 8) (mc' := 0) (ms' := 0) (As := [.int 1]) (st := []) (c := 0 + mc3 + mc8 + mc20) (sl := 0 + ms3 + ms8 + ms20) kmX10_linesOf kw_966 (by omega) rfl (Nat.le_of_ble_eq_true rfl) he rfl rfl hc20 hs20 dX11_wouldCount_49 (fun E M9 hx => kz_Tout rfl hc20 hs20 hx) (kz_Cmono (fun v M21 h => ?_) (fun _ _ h => h) h)
    obtain ⟨r22, rfl, h⟩ := h
    show kz_Z G (d + 9) mc ms mX11_wouldCount Qr Qx 52 [(4, .ref y9), (0, .ref a0), (1, .int p1), (2, .int p2), (3, .int p3)] [.int r22] M21 (0 + mc3 + mc8 + mc20) (0 + ms3 + ms8 + ms20)
    exact kz_iret (pc := 52) rfl hc20 hs20 dX11_wouldCount_52 h
theorem dX11_wouldPay_0 : decode cX11_wouldPay 0 = .ok (.aload_n 0, 1) := by decide +kernel
theorem dX11_wouldPay_1 : decode cX11_wouldPay 1 = .ok (.iload_n 1, 1) := by decide +kernel
theorem dX11_wouldPay_2 : decode cX11_wouldPay 2 = .ok (.iload_n 2, 1) := by decide +kernel
theorem dX11_wouldPay_3 : decode cX11_wouldPay 3 = .ok (.iload_n 3, 1) := by decide +kernel
theorem dX11_wouldPay_4 : decode cX11_wouldPay 4 = .ok (.invokevirtual 312, 3) := by decide +kernel
theorem dX11_wouldPay_7 : decode cX11_wouldPay 7 = .ok (.aload_n 0, 1) := by decide +kernel
theorem dX11_wouldPay_8 : decode cX11_wouldPay 8 = .ok (.getfield 10, 3) := by decide +kernel
theorem dX11_wouldPay_11 : decode cX11_wouldPay 11 = .ok (.iload_n 2, 1) := by decide +kernel
theorem dX11_wouldPay_12 : decode cX11_wouldPay 12 = .ok (.iload_n 3, 1) := by decide +kernel
theorem dX11_wouldPay_13 : decode cX11_wouldPay 13 = .ok (.invokestatic 316, 3) := by decide +kernel
theorem dX11_wouldPay_16 : decode cX11_wouldPay 16 = .ok (.astore 4, 2) := by decide +kernel
theorem dX11_wouldPay_18 : decode cX11_wouldPay 18 = .ok (.aload 4, 2) := by decide +kernel
theorem dX11_wouldPay_20 : decode cX11_wouldPay 20 = .ok (.ifnonnull 5, 3) := by decide +kernel
theorem dX11_wouldPay_23 : decode cX11_wouldPay 23 = .ok (.iconst 0, 1) := by decide +kernel
theorem dX11_wouldPay_24 : decode cX11_wouldPay 24 = .ok (.ireturn, 1) := by decide +kernel
theorem dX11_wouldPay_25 : decode cX11_wouldPay 25 = .ok (.aload_n 0, 1) := by decide +kernel
theorem dX11_wouldPay_26 : decode cX11_wouldPay 26 = .ok (.aload 4, 2) := by decide +kernel
theorem dX11_wouldPay_28 : decode cX11_wouldPay 28 = .ok (.iload_n 1, 1) := by decide +kernel
theorem dX11_wouldPay_29 : decode cX11_wouldPay 29 = .ok (.aload_n 0, 1) := by decide +kernel
theorem dX11_wouldPay_30 : decode cX11_wouldPay 30 = .ok (.getfield 26, 3) := by decide +kernel
theorem dX11_wouldPay_33 : decode cX11_wouldPay 33 = .ok (.getfield 319, 3) := by decide +kernel
theorem dX11_wouldPay_36 : decode cX11_wouldPay 36 = .ok (.aload_n 0, 1) := by decide +kernel
theorem dX11_wouldPay_37 : decode cX11_wouldPay 37 = .ok (.getfield 26, 3) := by decide +kernel
theorem dX11_wouldPay_40 : decode cX11_wouldPay 40 = .ok (.getfield 105, 3) := by decide +kernel
theorem dX11_wouldPay_43 : decode cX11_wouldPay 43 = .ok (.invokevirtual 323, 3) := by decide +kernel
theorem dX11_wouldPay_46 : decode cX11_wouldPay 46 = .ok (.astore 5, 2) := by decide +kernel
theorem dX11_wouldPay_48 : decode cX11_wouldPay 48 = .ok (.aload 5, 2) := by decide +kernel
theorem dX11_wouldPay_50 : decode cX11_wouldPay 50 = .ok (.invokevirtual 189, 3) := by decide +kernel
theorem dX11_wouldPay_53 : decode cX11_wouldPay 53 = .ok (.aload_n 0, 1) := by decide +kernel
theorem dX11_wouldPay_54 : decode cX11_wouldPay 54 = .ok (.getfield 26, 3) := by decide +kernel
theorem dX11_wouldPay_57 : decode cX11_wouldPay 57 = .ok (.aload 5, 2) := by decide +kernel
theorem dX11_wouldPay_59 : decode cX11_wouldPay 59 = .ok (.invokevirtual 327, 3) := by decide +kernel
theorem dX11_wouldPay_62 : decode cX11_wouldPay 62 = .ok (.isub, 1) := by decide +kernel
theorem dX11_wouldPay_63 : decode cX11_wouldPay 63 = .ok (.ireturn, 1) := by decide +kernel
theorem rX11_wouldPay_0 {G : kz_G} {d : Nat} {mc ms : Nat} {Qr : Option Value → kz_M → Prop} {Qx : String → kz_M → Prop} {a0 : Nat} {p1 : Int32} {p2 : Int32} {p3 : Int32}  {M : kz_M} (h : (∃ fs33, (M).1 a0 = some (.inl (10, fs33))) ∧ ∃ mc3 ms3, 0 + mc3 ≤ mc ∧ 0 + ms3 ≤ ms ∧ kz_C G (d + 8) mc3 ms3 mX11_checkSubmission [.ref a0, .int p1, .int p2, .int p3] M (fun v M1 => v = none ∧ (∃ fs4 v5, (M1).1 a0 = some (.inl (10, fs4)) ∧ fs4[0]? = some (.ref v5) ∧ (∃ mc8 ms8, 0 + mc3 + mc8 ≤ mc ∧ 0 + ms3 + ms8 ≤ ms ∧ kz_C G (d + 8) mc8 ms8 mX6_read [.ref v5, .int p2, .int p3] M1 (fun v M6 => ∃ r7 : Option Nat, v = some (kz_rf r7) ∧ ((r7 = none → Qr (some (.int 0)) M6) ∧ (∀ y9, r7 = some y9 → ∃ fs10 v11, (M6).1 a0 = some (.inl (10, fs10)) ∧ fs10[2]? = some (.ref v11) ∧ (∃ fs12 v13, (M6).1 v11 = some (.inl (8, fs12)) ∧ fs12[4]? = some (.ref v13) ∧ (∃ fs14 v15, (M6).1 a0 = some (.inl (10, fs14)) ∧ fs14[2]? = some (.ref v15) ∧ (∃ fs16 v17, (M6).1 v15 = some (.inl (8, fs16)) ∧ fs16[3]? = some (.int v17) ∧ ((∃ fs31, (M6).1 a0 = some (.inl (10, fs31))) ∧ ∃ mc20 ms20, 0 + mc3 + mc8 + mc20 ≤ mc ∧ 0 + ms3 + ms8 + ms20 ≤ ms ∧ kz_C G (d + 8) mc20 ms20 mX11_judged [.ref a0, .ref y9, .int p1, .ref v13, .int v17] M6 (fun v M18 => ∃ r19 : Nat, v = some (.ref r19) ∧ ((∃ fs30, (M18).1 r19 = some (.inl (9, fs30))) ∧ kz_C G (d + 8) 0 0 mX10_payOfCounting [.ref r19] M18 (fun v M21 => ∃ r22 : Int32, v = some (.int r22) ∧ (∃ fs24 v25, (M21).1 a0 = some (.inl (10, fs24)) ∧ fs24[2]? = some (.ref v25) ∧ ((∃ fs29, (M21).1 v25 = some (.inl (8, fs29))) ∧ kz_C G (d + 8) 0 0 mX9_finesFor [.ref v25, .ref r19] M21 (fun v M26 => ∃ r27 : Int32, v = some (.int r27) ∧ (Qr (some (.int (r22 - r27))) M26)) Qx))) Qx)) Qx))))))) Qx))) Qx) : kz_C G (d + 9) mc ms mX11_wouldPay [.ref a0, .int p1, .int p2, .int p3] M Qr Qx := by
  refine kz_enter (n := 3) kmX11_wouldPay.1 (Nat.le_of_ble_eq_true rfl) (ls := [(0, .ref a0), (1, .int p1), (2, .int p2), (3, .int p3)]) rfl ?_
  refine kz_aload_n (pc := 0) 0 (v := .ref a0) (i := 0) rfl rfl rfl dX11_wouldPay_0 ?_
  refine kz_iload_n (pc := 1) 1 (i := 1) rfl rfl dX11_wouldPay_1 ?_
  refine kz_iload_n (pc := 2) 2 (i := 2) rfl rfl dX11_wouldPay_2 ?_
  refine kz_iload_n (pc := 3) 3 (i := 3) rfl rfl dX11_wouldPay_3 ?_
  obtain ⟨⟨fs33, he⟩, h⟩ := h
  obtain ⟨mc3, ms3, hc3, hs3, h⟩ := h
  refine kz_callV (pc := 4) (μ' := mX11_checkSubmission) (ci := 10) (q := (RX11, TX11, 10)) (b := a0) (d' := d + 8) (mc' := mc3) (ms' := ms3) (As := [.int p1, .int p2, .int p3]) (st := []) (c := 0) (sl := 0) kmX11_checkSubmission kw_1076 (by omega) rfl (Nat.le_of_ble_eq_true rfl) he rfl rfl hc3 hs3 dX11_wouldPay_4 (fun E M9 hx => kz_Tout rfl hc3 hs3 hx) (kz_Cmono (fun v M1 h => ?_) (fun _ _ h => h) h)
  obtain ⟨rfl, h⟩ := h
  show kz_Z G (d + 9) mc ms mX11_wouldPay Qr Qx 7 [(0, .ref a0), (1, .int p1), (2, .int p2), (3, .int p3)] [] M1 (0 + mc3) (0 + ms3)
  refine kz_aload_n (pc := 7) 0 (v := .ref a0) (i := 0) rfl rfl rfl dX11_wouldPay_7 ?_
  obtain ⟨fs4, v5, hM, hv, h⟩ := h
  refine kz_getf (pc := 8) (k := 0) kcX11 hM hv (by decide) kw_282 dX11_wouldPay_8 ?_
  refine kz_iload_n (pc := 11) 2 (i := 2) rfl rfl dX11_wouldPay_11 ?_
  refine kz_iload_n (pc := 12) 3 (i := 3) rfl rfl dX11_wouldPay_12 ?_
  obtain ⟨mc8, ms8, hc8, hs8, h⟩ := h
  refine kz_callS (pc := 13) (μ' := mX6_read) (d' := d + 8) (mc' := mc8) (ms' := ms8) (As := [.ref v5, .int p2, .int p3]) (st := []) (c := 0 + mc3) (sl := 0 + ms3) kmX6_read kw_1082 (by omega) rfl (Nat.le_of_ble_eq_true rfl) hc8 hs8 dX11_wouldPay_13 (fun E M9 hx => kz_Tout rfl hc8 hs8 hx) (kz_Cmono (fun v M6 h => ?_) (fun _ _ h => h) h)
  obtain ⟨r7, rfl, h⟩ := h
  show kz_Z G (d + 9) mc ms mX11_wouldPay Qr Qx 16 [(0, .ref a0), (1, .int p1), (2, .int p2), (3, .int p3)] [kz_rf r7] M6 (0 + mc3 + mc8) (0 + ms3 + ms8)
  refine kz_astore (pc := 16) (i := 4) (v := kz_rf r7) (ls' := [(0, .ref a0), (1, .int p1), (2, .int p2), (3, .int p3)]) (kz_isr_rf _) (by decide) rfl dX11_wouldPay_16 ?_
  refine kz_aload (pc := 18) 0 (v := kz_rf r7) (i := 4) rfl (kz_isr_rf _) dX11_wouldPay_18 ?_
  rcases r7 with _ | y9
  · replace h := h.1 rfl
    refine kz_ifnonnull (pc := 20) (tgt := 25) rfl (by decide) dX11_wouldPay_20 (fun hn => absurd rfl hn) (fun _ => ?_)
    refine kz_iconst (pc := 23) (v := 0) (by decide) dX11_wouldPay_23 ?_
    exact kz_iret (pc := 24) rfl hc8 hs8 dX11_wouldPay_24 h
  · replace h := h.2 y9 rfl
    refine kz_ifnonnull (pc := 20) (tgt := 25) rfl (by decide) dX11_wouldPay_20 (fun _ => ?_) (fun hn => by cases hn)
    refine kz_aload_n (pc := 25) 1 (v := .ref a0) (i := 0) rfl rfl rfl dX11_wouldPay_25 ?_
    refine kz_aload (pc := 26) 0 (v := .ref y9) (i := 4) rfl rfl dX11_wouldPay_26 ?_
    refine kz_iload_n (pc := 28) 2 (i := 1) rfl rfl dX11_wouldPay_28 ?_
    refine kz_aload_n (pc := 29) 1 (v := .ref a0) (i := 0) rfl rfl rfl dX11_wouldPay_29 ?_
    obtain ⟨fs10, v11, hM, hv, h⟩ := h
    refine kz_getf (pc := 30) (k := 2) kcX11 hM hv (by decide) kw_284 dX11_wouldPay_30 ?_
    obtain ⟨fs12, v13, hM, hv, h⟩ := h
    refine kz_getf (pc := 33) (k := 4) kcX9 hM hv (by decide) kw_119 dX11_wouldPay_33 ?_
    refine kz_aload_n (pc := 36) 1 (v := .ref a0) (i := 0) rfl rfl rfl dX11_wouldPay_36 ?_
    obtain ⟨fs14, v15, hM, hv, h⟩ := h
    refine kz_getf (pc := 37) (k := 2) kcX11 hM hv (by decide) kw_284 dX11_wouldPay_37 ?_
    obtain ⟨fs16, v17, hM, hv, h⟩ := h
    refine kz_getf (pc := 40) (k := 3) kcX9 hM hv (by decide) kw_116 dX11_wouldPay_40 ?_
    obtain ⟨⟨fs31, he⟩, h⟩ := h
    obtain ⟨mc20, ms20, hc20, hs20, h⟩ := h
    refine kz_callV (pc := 43) (μ' := mX11_judged) (ci := 10) (q := (RX11, TX11, 10)) (b := a0) (d' := d + 8) (mc' := mc20) (ms' := ms20) (As := [.ref y9, .int p1, .ref v13, .int v17]) (st := []) (c := 0 + mc3 + mc8) (sl := 0 + ms3 + ms8) kmX11_judged kw_1114 (by omega) rfl (Nat.le_of_ble_eq_true rfl) he rfl rfl hc20 hs20 dX11_wouldPay_43 (fun E M9 hx => kz_Tout rfl hc20 hs20 hx) (kz_Cmono (fun v M18 h => ?_) (fun _ _ h => h) h)
    obtain ⟨r19, rfl, h⟩ := h
    show kz_Z G (d + 9) mc ms mX11_wouldPay Qr Qx 46 [(4, .ref y9), (0, .ref a0), (1, .int p1), (2, .int p2), (3, .int p3)] [.ref r19] M18 (0 + mc3 + mc8 + mc20) (0 + ms3 + ms8 + ms20)
    refine kz_astore (pc := 46) (i := 5) (v := .ref r19) (ls' := [(4, .ref y9), (0, .ref a0), (1, .int p1), (2, .int p2), (3, .int p3)]) rfl (by decide) rfl dX11_wouldPay_46 ?_
    refine kz_aload (pc := 48) 0 (v := .ref r19) (i := 5) rfl rfl dX11_wouldPay_48 ?_
    obtain ⟨⟨fs30, he⟩, h⟩ := h
    refine kz_callV (pc := 50) (μ' := mX10_payOfCounting) (ci := 9) (q := (RX10, TX10, 4)) (b := r19) (d' := d + 8) (mc' := 0) (ms' := 0) (As := []) (st := []) (c := 0 + mc3 + mc8 + mc20) (sl := 0 + ms3 + ms8 + ms20) kmX10_payOfCounting kw_967 (by omega) rfl (Nat.le_of_ble_eq_true rfl) he rfl rfl hc20 hs20 dX11_wouldPay_50 (fun E M9 hx => kz_Tout rfl hc20 hs20 hx) (kz_Cmono (fun v M21 h => ?_) (fun _ _ h => h) h)
    obtain ⟨r22, rfl, h⟩ := h
    show kz_Z G (d + 9) mc ms mX11_wouldPay Qr Qx 53 [(5, .ref r19), (4, .ref y9), (0, .ref a0), (1, .int p1), (2, .int p2), (3, .int p3)] [.int r22] M21 (0 + mc3 + mc8 + mc20) (0 + ms3 + ms8 + ms20)
    refine kz_aload_n (pc := 53) 2 (v := .ref a0) (i := 0) rfl rfl rfl dX11_wouldPay_53 ?_
    obtain ⟨fs24, v25, hM, hv, h⟩ := h
    refine kz_getf (pc := 54) (k := 2) kcX11 hM hv (by decide) kw_284 dX11_wouldPay_54 ?_
    refine kz_aload (pc := 57) 0 (v := .ref r19) (i := 5) rfl rfl dX11_wouldPay_57 ?_
    obtain ⟨⟨fs29, he⟩, h⟩ := h
    refine kz_callV (pc := 59) (μ' := mX9_finesFor) (ci := 8) (q := (RX9, TX9, 10)) (b := v25) (d' := d + 8) (mc' := 0) (ms' := 0) (As := [.ref r19]) (st := [.int r22]) (c := 0 + mc3 + mc8 + mc20) (sl := 0 + ms3 + ms8 + ms20) kmX9_finesFor kw_1235 (by omega) rfl (Nat.le_of_ble_eq_true rfl) he rfl rfl hc20 hs20 dX11_wouldPay_59 (fun E M9 hx => kz_Tout rfl hc20 hs20 hx) (kz_Cmono (fun v M26 h => ?_) (fun _ _ h => h) h)
    obtain ⟨r27, rfl, h⟩ := h
    show kz_Z G (d + 9) mc ms mX11_wouldPay Qr Qx 62 [(5, .ref r19), (4, .ref y9), (0, .ref a0), (1, .int p1), (2, .int p2), (3, .int p3)] [.int r27, .int r22] M26 (0 + mc3 + mc8 + mc20) (0 + ms3 + ms8 + ms20)
    refine kz_isub (pc := 62) dX11_wouldPay_62 ?_
    exact kz_iret (pc := 63) rfl hc20 hs20 dX11_wouldPay_63 h
theorem dX11_submit_0 : decode cX11_submit 0 = .ok (.aload_n 0, 1) := by decide +kernel
theorem dX11_submit_1 : decode cX11_submit 1 = .ok (.iload_n 1, 1) := by decide +kernel
theorem dX11_submit_2 : decode cX11_submit 2 = .ok (.iload_n 2, 1) := by decide +kernel
theorem dX11_submit_3 : decode cX11_submit 3 = .ok (.iload_n 3, 1) := by decide +kernel
theorem dX11_submit_4 : decode cX11_submit 4 = .ok (.invokevirtual 312, 3) := by decide +kernel
theorem dX11_submit_7 : decode cX11_submit 7 = .ok (.aload_n 0, 1) := by decide +kernel
theorem dX11_submit_8 : decode cX11_submit 8 = .ok (.getfield 10, 3) := by decide +kernel
theorem dX11_submit_11 : decode cX11_submit 11 = .ok (.iload_n 2, 1) := by decide +kernel
theorem dX11_submit_12 : decode cX11_submit 12 = .ok (.iload_n 3, 1) := by decide +kernel
theorem dX11_submit_13 : decode cX11_submit 13 = .ok (.invokestatic 316, 3) := by decide +kernel
theorem dX11_submit_16 : decode cX11_submit 16 = .ok (.astore 4, 2) := by decide +kernel
theorem dX11_submit_18 : decode cX11_submit 18 = .ok (.aload_n 0, 1) := by decide +kernel
theorem dX11_submit_19 : decode cX11_submit 19 = .ok (.getfield 10, 3) := by decide +kernel
theorem dX11_submit_22 : decode cX11_submit 22 = .ok (.iconst 0, 1) := by decide +kernel
theorem dX11_submit_23 : decode cX11_submit 23 = .ok (.putfield 83, 3) := by decide +kernel
theorem dX11_submit_26 : decode cX11_submit 26 = .ok (.aload 4, 2) := by decide +kernel
theorem dX11_submit_28 : decode cX11_submit 28 = .ok (.ifnonnull 6, 3) := by decide +kernel
theorem dX11_submit_31 : decode cX11_submit 31 = .ok (.bipush (-2), 2) := by decide +kernel
theorem dX11_submit_33 : decode cX11_submit 33 = .ok (.ireturn, 1) := by decide +kernel
theorem dX11_submit_34 : decode cX11_submit 34 = .ok (.aload_n 0, 1) := by decide +kernel
theorem dX11_submit_35 : decode cX11_submit 35 = .ok (.getfield 26, 3) := by decide +kernel
theorem dX11_submit_38 : decode cX11_submit 38 = .ok (.getfield 105, 3) := by decide +kernel
theorem dX11_submit_41 : decode cX11_submit 41 = .ok (.bipush 12, 2) := by decide +kernel
theorem dX11_submit_43 : decode cX11_submit 43 = .ok (.if_icmp .lt 6, 3) := by decide +kernel
theorem dX11_submit_46 : decode cX11_submit 46 = .ok (.bipush (-3), 2) := by decide +kernel
theorem dX11_submit_48 : decode cX11_submit 48 = .ok (.ireturn, 1) := by decide +kernel
theorem dX11_submit_49 : decode cX11_submit 49 = .ok (.aload_n 0, 1) := by decide +kernel
theorem dX11_submit_50 : decode cX11_submit 50 = .ok (.getfield 36, 3) := by decide +kernel
theorem dX11_submit_53 : decode cX11_submit 53 = .ok (.aload_n 0, 1) := by decide +kernel
theorem dX11_submit_54 : decode cX11_submit 54 = .ok (.getfield 26, 3) := by decide +kernel
theorem dX11_submit_57 : decode cX11_submit 57 = .ok (.invokevirtual 362, 3) := by decide +kernel
theorem dX11_submit_60 : decode cX11_submit 60 = .ok (.aload_n 0, 1) := by decide +kernel
theorem dX11_submit_61 : decode cX11_submit 61 = .ok (.getfield 26, 3) := by decide +kernel
theorem dX11_submit_64 : decode cX11_submit 64 = .ok (.aload_n 0, 1) := by decide +kernel
theorem dX11_submit_65 : decode cX11_submit 65 = .ok (.aload 4, 2) := by decide +kernel
theorem dX11_submit_67 : decode cX11_submit 67 = .ok (.iload_n 1, 1) := by decide +kernel
theorem dX11_submit_68 : decode cX11_submit 68 = .ok (.aload_n 0, 1) := by decide +kernel
theorem dX11_submit_69 : decode cX11_submit 69 = .ok (.getfield 26, 3) := by decide +kernel
theorem dX11_submit_72 : decode cX11_submit 72 = .ok (.getfield 319, 3) := by decide +kernel
theorem dX11_submit_75 : decode cX11_submit 75 = .ok (.aload_n 0, 1) := by decide +kernel
theorem dX11_submit_76 : decode cX11_submit 76 = .ok (.getfield 26, 3) := by decide +kernel
theorem dX11_submit_79 : decode cX11_submit 79 = .ok (.getfield 105, 3) := by decide +kernel
theorem dX11_submit_82 : decode cX11_submit 82 = .ok (.invokevirtual 323, 3) := by decide +kernel
theorem dX11_submit_85 : decode cX11_submit 85 = .ok (.invokevirtual 365, 3) := by decide +kernel
theorem dX11_submit_88 : decode cX11_submit 88 = .ok (.ireturn, 1) := by decide +kernel
theorem rX11_submit_0 {G : kz_G} {d : Nat} {mc ms : Nat} {Qr : Option Value → kz_M → Prop} {Qx : String → kz_M → Prop} {a0 : Nat} {p1 : Int32} {p2 : Int32} {p3 : Int32}  {M : kz_M} (h : (∃ fs44, (M).1 a0 = some (.inl (10, fs44))) ∧ ∃ mc3 ms3, 0 + mc3 ≤ mc ∧ 0 + ms3 ≤ ms ∧ kz_C G (d + 8) mc3 ms3 mX11_checkSubmission [.ref a0, .int p1, .int p2, .int p3] M (fun v M1 => v = none ∧ (∃ fs4 v5, (M1).1 a0 = some (.inl (10, fs4)) ∧ fs4[0]? = some (.ref v5) ∧ (∃ mc8 ms8, 0 + mc3 + mc8 ≤ mc ∧ 0 + ms3 + ms8 ≤ ms ∧ kz_C G (d + 8) mc8 ms8 mX6_read [.ref v5, .int p2, .int p3] M1 (fun v M6 => ∃ r7 : Option Nat, v = some (kz_rf r7) ∧ (∃ fs9 v10, (M6).1 a0 = some (.inl (10, fs9)) ∧ fs9[0]? = some (.ref v10) ∧ (∃ fs11, (M6).1 v10 = some (.inl (1, fs11)) ∧ 1 < fs11.length ∧ ((r7 = none → Qr (some (.int ((-2)))) (kz_up M6 v10 (.inl (1, fs11.set 1 (.int 0))))) ∧ (∀ y12, r7 = some y12 → ∃ fs13 v14, ((kz_up M6 v10 (.inl (1, fs11.set 1 (.int 0))))).1 a0 = some (.inl (10, fs13)) ∧ fs13[2]? = some (.ref v14) ∧ (∃ fs15 v16, ((kz_up M6 v10 (.inl (1, fs11.set 1 (.int 0))))).1 v14 = some (.inl (8, fs15)) ∧ fs15[3]? = some (.int v16) ∧ ((v16 < (12 : Int32) → ∃ fs17 v18, ((kz_up M6 v10 (.inl (1, fs11.set 1 (.int 0))))).1 a0 = some (.inl (10, fs17)) ∧ fs17[4]? = some (.ref v18) ∧ (∃ fs19 v20, ((kz_up M6 v10 (.inl (1, fs11.set 1 (.int 0))))).1 a0 = some (.inl (10, fs19)) ∧ fs19[2]? = some (.ref v20) ∧ ((∃ fs42, ((kz_up M6 v10 (.inl (1, fs11.set 1 (.int 0))))).1 v18 = some (.inl (0, fs42))) ∧ kz_C G (d + 8) 0 0 mX0_keep [.ref v18, .ref v20] (kz_up M6 v10 (.inl (1, fs11.set 1 (.int 0)))) (fun v M21 => v = none ∧ (∃ fs24 v25, (M21).1 a0 = some (.inl (10, fs24)) ∧ fs24[2]? = some (.ref v25) ∧ (∃ fs26 v27, (M21).1 a0 = some (.inl (10, fs26)) ∧ fs26[2]? = some (.ref v27) ∧ (∃ fs28 v29, (M21).1 v27 = some (.inl (8, fs28)) ∧ fs28[4]? = some (.ref v29) ∧ (∃ fs30 v31, (M21).1 a0 = some (.inl (10, fs30)) ∧ fs30[2]? = some (.ref v31) ∧ (∃ fs32 v33, (M21).1 v31 = some (.inl (8, fs32)) ∧ fs32[3]? = some (.int v33) ∧ ((∃ fs41, (M21).1 a0 = some (.inl (10, fs41))) ∧ ∃ mc36 ms36, 0 + mc3 + mc8 + mc36 ≤ mc ∧ 0 + ms3 + ms8 + ms36 ≤ ms ∧ kz_C G (d + 8) mc36 ms36 mX11_judged [.ref a0, .ref y12, .int p1, .ref v29, .int v33] M21 (fun v M34 => ∃ r35 : Nat, v = some (.ref r35) ∧ ((∃ fs40, (M34).1 v25 = some (.inl (8, fs40))) ∧ kz_C G (d + 8) 0 0 mX9_handIn [.ref v25, .ref r35] M34 (fun v M37 => ∃ r38 : Int32, v = some (.int r38) ∧ (Qr (some (.int r38)) M37)) Qx)) Qx))))))) Qx))) ∧ (¬ v16 < (12 : Int32) → Qr (some (.int ((-3)))) (kz_up M6 v10 (.inl (1, fs11.set 1 (.int 0)))))))))))) Qx))) Qx) : kz_C G (d + 9) mc ms mX11_submit [.ref a0, .int p1, .int p2, .int p3] M Qr Qx := by
  refine kz_enter (n := 3) kmX11_submit.1 (Nat.le_of_ble_eq_true rfl) (ls := [(0, .ref a0), (1, .int p1), (2, .int p2), (3, .int p3)]) rfl ?_
  refine kz_aload_n (pc := 0) 0 (v := .ref a0) (i := 0) rfl rfl rfl dX11_submit_0 ?_
  refine kz_iload_n (pc := 1) 1 (i := 1) rfl rfl dX11_submit_1 ?_
  refine kz_iload_n (pc := 2) 2 (i := 2) rfl rfl dX11_submit_2 ?_
  refine kz_iload_n (pc := 3) 3 (i := 3) rfl rfl dX11_submit_3 ?_
  obtain ⟨⟨fs44, he⟩, h⟩ := h
  obtain ⟨mc3, ms3, hc3, hs3, h⟩ := h
  refine kz_callV (pc := 4) (μ' := mX11_checkSubmission) (ci := 10) (q := (RX11, TX11, 10)) (b := a0) (d' := d + 8) (mc' := mc3) (ms' := ms3) (As := [.int p1, .int p2, .int p3]) (st := []) (c := 0) (sl := 0) kmX11_checkSubmission kw_1076 (by omega) rfl (Nat.le_of_ble_eq_true rfl) he rfl rfl hc3 hs3 dX11_submit_4 (fun E M9 hx => kz_Tout rfl hc3 hs3 hx) (kz_Cmono (fun v M1 h => ?_) (fun _ _ h => h) h)
  obtain ⟨rfl, h⟩ := h
  show kz_Z G (d + 9) mc ms mX11_submit Qr Qx 7 [(0, .ref a0), (1, .int p1), (2, .int p2), (3, .int p3)] [] M1 (0 + mc3) (0 + ms3)
  refine kz_aload_n (pc := 7) 0 (v := .ref a0) (i := 0) rfl rfl rfl dX11_submit_7 ?_
  obtain ⟨fs4, v5, hM, hv, h⟩ := h
  refine kz_getf (pc := 8) (k := 0) kcX11 hM hv (by decide) kw_282 dX11_submit_8 ?_
  refine kz_iload_n (pc := 11) 2 (i := 2) rfl rfl dX11_submit_11 ?_
  refine kz_iload_n (pc := 12) 3 (i := 3) rfl rfl dX11_submit_12 ?_
  obtain ⟨mc8, ms8, hc8, hs8, h⟩ := h
  refine kz_callS (pc := 13) (μ' := mX6_read) (d' := d + 8) (mc' := mc8) (ms' := ms8) (As := [.ref v5, .int p2, .int p3]) (st := []) (c := 0 + mc3) (sl := 0 + ms3) kmX6_read kw_1082 (by omega) rfl (Nat.le_of_ble_eq_true rfl) hc8 hs8 dX11_submit_13 (fun E M9 hx => kz_Tout rfl hc8 hs8 hx) (kz_Cmono (fun v M6 h => ?_) (fun _ _ h => h) h)
  obtain ⟨r7, rfl, h⟩ := h
  show kz_Z G (d + 9) mc ms mX11_submit Qr Qx 16 [(0, .ref a0), (1, .int p1), (2, .int p2), (3, .int p3)] [kz_rf r7] M6 (0 + mc3 + mc8) (0 + ms3 + ms8)
  refine kz_astore (pc := 16) (i := 4) (v := kz_rf r7) (ls' := [(0, .ref a0), (1, .int p1), (2, .int p2), (3, .int p3)]) (kz_isr_rf _) (by decide) rfl dX11_submit_16 ?_
  refine kz_aload_n (pc := 18) 1 (v := .ref a0) (i := 0) rfl rfl rfl dX11_submit_18 ?_
  obtain ⟨fs9, v10, hM, hv, h⟩ := h
  refine kz_getf (pc := 19) (k := 0) kcX11 hM hv (by decide) kw_282 dX11_submit_19 ?_
  refine kz_iconst (pc := 22) (v := 0) (by decide) dX11_submit_22 ?_
  obtain ⟨fs11, hM, hlen, h⟩ := h
  refine kz_putf (pc := 23) (k := 1) kcX1 hM (by decide) hlen kw_54 rfl rfl rfl dX11_submit_23 ?_
  refine kz_aload (pc := 26) 0 (v := kz_rf r7) (i := 4) rfl (kz_isr_rf _) dX11_submit_26 ?_
  rcases r7 with _ | y12
  · replace h := h.1 rfl
    refine kz_ifnonnull (pc := 28) (tgt := 34) rfl (by decide) dX11_submit_28 (fun hn => absurd rfl hn) (fun _ => ?_)
    refine kz_bipush (pc := 31) (v := (-2)) (by decide) dX11_submit_31 ?_
    exact kz_iret (pc := 33) rfl hc8 hs8 dX11_submit_33 h
  · replace h := h.2 y12 rfl
    refine kz_ifnonnull (pc := 28) (tgt := 34) rfl (by decide) dX11_submit_28 (fun _ => ?_) (fun hn => by cases hn)
    refine kz_aload_n (pc := 34) 1 (v := .ref a0) (i := 0) rfl rfl rfl dX11_submit_34 ?_
    obtain ⟨fs13, v14, hM, hv, h⟩ := h
    refine kz_getf (pc := 35) (k := 2) kcX11 hM hv (by decide) kw_284 dX11_submit_35 ?_
    obtain ⟨fs15, v16, hM, hv, h⟩ := h
    refine kz_getf (pc := 38) (k := 3) kcX9 hM hv (by decide) kw_116 dX11_submit_38 ?_
    refine kz_bipush (pc := 41) (v := 12) (by decide) dX11_submit_41 ?_
    refine kz_icmp_lt (pc := 43) (tgt := 49) (by decide) dX11_submit_43 (fun hb => ?_) (fun hb => ?_)
    · replace h := h.1 hb
      refine kz_aload_n (pc := 49) 1 (v := .ref a0) (i := 0) rfl rfl rfl dX11_submit_49 ?_
      obtain ⟨fs17, v18, hM, hv, h⟩ := h
      refine kz_getf (pc := 50) (k := 4) kcX11 hM hv (by decide) kw_286 dX11_submit_50 ?_
      refine kz_aload_n (pc := 53) 1 (v := .ref a0) (i := 0) rfl rfl rfl dX11_submit_53 ?_
      obtain ⟨fs19, v20, hM, hv, h⟩ := h
      refine kz_getf (pc := 54) (k := 2) kcX11 hM hv (by decide) kw_284 dX11_submit_54 ?_
      obtain ⟨⟨fs42, he⟩, h⟩ := h
      refine kz_callV (pc := 57) (μ' := mX0_keep) (ci := 0) (q := (RX0, TX0, 3)) (b := v18) (d' := d + 8) (mc' := 0) (ms' := 0) (As := [.ref v20]) (st := []) (c := 0 + mc3 + mc8) (sl := 0 + ms3 + ms8) kmX0_keep kw_1422 (by omega) rfl (Nat.le_of_ble_eq_true rfl) he rfl rfl hc8 hs8 dX11_submit_57 (fun E M9 hx => kz_Tout rfl hc8 hs8 hx) (kz_Cmono (fun v M21 h => ?_) (fun _ _ h => h) h)
      obtain ⟨rfl, h⟩ := h
      show kz_Z G (d + 9) mc ms mX11_submit Qr Qx 60 [(4, .ref y12), (0, .ref a0), (1, .int p1), (2, .int p2), (3, .int p3)] [] M21 (0 + mc3 + mc8) (0 + ms3 + ms8)
      refine kz_aload_n (pc := 60) 1 (v := .ref a0) (i := 0) rfl rfl rfl dX11_submit_60 ?_
      obtain ⟨fs24, v25, hM, hv, h⟩ := h
      refine kz_getf (pc := 61) (k := 2) kcX11 hM hv (by decide) kw_284 dX11_submit_61 ?_
      refine kz_aload_n (pc := 64) 1 (v := .ref a0) (i := 0) rfl rfl rfl dX11_submit_64 ?_
      refine kz_aload (pc := 65) 0 (v := .ref y12) (i := 4) rfl rfl dX11_submit_65 ?_
      refine kz_iload_n (pc := 67) 2 (i := 1) rfl rfl dX11_submit_67 ?_
      refine kz_aload_n (pc := 68) 1 (v := .ref a0) (i := 0) rfl rfl rfl dX11_submit_68 ?_
      obtain ⟨fs26, v27, hM, hv, h⟩ := h
      refine kz_getf (pc := 69) (k := 2) kcX11 hM hv (by decide) kw_284 dX11_submit_69 ?_
      obtain ⟨fs28, v29, hM, hv, h⟩ := h
      refine kz_getf (pc := 72) (k := 4) kcX9 hM hv (by decide) kw_119 dX11_submit_72 ?_
      refine kz_aload_n (pc := 75) 1 (v := .ref a0) (i := 0) rfl rfl rfl dX11_submit_75 ?_
      obtain ⟨fs30, v31, hM, hv, h⟩ := h
      refine kz_getf (pc := 76) (k := 2) kcX11 hM hv (by decide) kw_284 dX11_submit_76 ?_
      obtain ⟨fs32, v33, hM, hv, h⟩ := h
      refine kz_getf (pc := 79) (k := 3) kcX9 hM hv (by decide) kw_116 dX11_submit_79 ?_
      obtain ⟨⟨fs41, he⟩, h⟩ := h
      obtain ⟨mc36, ms36, hc36, hs36, h⟩ := h
      refine kz_callV (pc := 82) (μ' := mX11_judged) (ci := 10) (q := (RX11, TX11, 10)) (b := a0) (d' := d + 8) (mc' := mc36) (ms' := ms36) (As := [.ref y12, .int p1, .ref v29, .int v33]) (st := [.ref v25]) (c := 0 + mc3 + mc8) (sl := 0 + ms3 + ms8) kmX11_judged kw_1114 (by omega) rfl (Nat.le_of_ble_eq_true rfl) he rfl rfl hc36 hs36 dX11_submit_82 (fun E M9 hx => kz_Tout rfl hc36 hs36 hx) (kz_Cmono (fun v M34 h => ?_) (fun _ _ h => h) h)
      obtain ⟨r35, rfl, h⟩ := h
      show kz_Z G (d + 9) mc ms mX11_submit Qr Qx 85 [(4, .ref y12), (0, .ref a0), (1, .int p1), (2, .int p2), (3, .int p3)] [.ref r35, .ref v25] M34 (0 + mc3 + mc8 + mc36) (0 + ms3 + ms8 + ms36)
      obtain ⟨⟨fs40, he⟩, h⟩ := h
      refine kz_callV (pc := 85) (μ' := mX9_handIn) (ci := 8) (q := (RX9, TX9, 10)) (b := v25) (d' := d + 8) (mc' := 0) (ms' := 0) (As := [.ref r35]) (st := []) (c := 0 + mc3 + mc8 + mc36) (sl := 0 + ms3 + ms8 + ms36) kmX9_handIn kw_1431 (by omega) rfl (Nat.le_of_ble_eq_true rfl) he rfl rfl hc36 hs36 dX11_submit_85 (fun E M9 hx => kz_Tout rfl hc36 hs36 hx) (kz_Cmono (fun v M37 h => ?_) (fun _ _ h => h) h)
      obtain ⟨r38, rfl, h⟩ := h
      show kz_Z G (d + 9) mc ms mX11_submit Qr Qx 88 [(4, .ref y12), (0, .ref a0), (1, .int p1), (2, .int p2), (3, .int p3)] [.int r38] M37 (0 + mc3 + mc8 + mc36) (0 + ms3 + ms8 + ms36)
      exact kz_iret (pc := 88) rfl hc36 hs36 dX11_submit_88 h
    · replace h := h.2 hb
      refine kz_bipush (pc := 46) (v := (-3)) (by decide) dX11_submit_46 ?_
      exact kz_iret (pc := 48) rfl hc8 hs8 dX11_submit_48 h
