/-! The rules of 60.rmodel1: printed by program (wip/whole/rules.py) -/
theorem dX12_init_0 : decode cX12_init 0 = .ok (.aload_n 0, 1) := by decide +kernel
theorem dX12_init_1 : decode cX12_init 1 = .ok (.invokespecial 1, 3) := by decide +kernel
theorem dX12_init_4 : decode cX12_init 4 = .ok (.aload_n 0, 1) := by decide +kernel
theorem dX12_init_5 : decode cX12_init 5 = .ok (.sipush 3813, 3) := by decide +kernel
theorem dX12_init_8 : decode cX12_init 8 = .ok (.newarray .int, 2) := by decide +kernel
theorem dX12_init_10 : decode cX12_init 10 = .ok (.putfield 7, 3) := by decide +kernel
theorem dX12_init_13 : decode cX12_init 13 = .ok (.aload_n 0, 1) := by decide +kernel
theorem dX12_init_14 : decode cX12_init 14 = .ok (.sipush 3813, 3) := by decide +kernel
theorem dX12_init_17 : decode cX12_init 17 = .ok (.newarray .int, 2) := by decide +kernel
theorem dX12_init_19 : decode cX12_init 19 = .ok (.putfield 13, 3) := by decide +kernel
theorem dX12_init_22 : decode cX12_init 22 = .ok (.aload_n 0, 1) := by decide +kernel
theorem dX12_init_23 : decode cX12_init 23 = .ok (.sipush 3813, 3) := by decide +kernel
theorem dX12_init_26 : decode cX12_init 26 = .ok (.newarray .int, 2) := by decide +kernel
theorem dX12_init_28 : decode cX12_init 28 = .ok (.putfield 16, 3) := by decide +kernel
theorem dX12_init_31 : decode cX12_init 31 = .ok (.aload_n 0, 1) := by decide +kernel
theorem dX12_init_32 : decode cX12_init 32 = .ok (.sipush 30504, 3) := by decide +kernel
theorem dX12_init_35 : decode cX12_init 35 = .ok (.newarray .int, 2) := by decide +kernel
theorem dX12_init_37 : decode cX12_init 37 = .ok (.putfield 19, 3) := by decide +kernel
theorem dX12_init_40 : decode cX12_init 40 = .ok (.aload_n 0, 1) := by decide +kernel
theorem dX12_init_41 : decode cX12_init 41 = .ok (.sipush 732, 3) := by decide +kernel
theorem dX12_init_44 : decode cX12_init 44 = .ok (.newarray .long, 2) := by decide +kernel
theorem dX12_init_46 : decode cX12_init 46 = .ok (.putfield 22, 3) := by decide +kernel
theorem dX12_init_49 : decode cX12_init 49 = .ok (.aload_n 0, 1) := by decide +kernel
theorem dX12_init_50 : decode cX12_init 50 = .ok (.sipush 732, 3) := by decide +kernel
theorem dX12_init_53 : decode cX12_init 53 = .ok (.newarray .long, 2) := by decide +kernel
theorem dX12_init_55 : decode cX12_init 55 = .ok (.putfield 26, 3) := by decide +kernel
theorem dX12_init_58 : decode cX12_init 58 = .ok (.aload_n 0, 1) := by decide +kernel
theorem dX12_init_59 : decode cX12_init 59 = .ok (.sipush 5856, 3) := by decide +kernel
theorem dX12_init_62 : decode cX12_init 62 = .ok (.newarray .long, 2) := by decide +kernel
theorem dX12_init_64 : decode cX12_init 64 = .ok (.putfield 29, 3) := by decide +kernel
theorem dX12_init_67 : decode cX12_init 67 = .ok (.aload_n 0, 1) := by decide +kernel
theorem dX12_init_68 : decode cX12_init 68 = .ok (.bipush 60, 2) := by decide +kernel
theorem dX12_init_70 : decode cX12_init 70 = .ok (.newarray .long, 2) := by decide +kernel
theorem dX12_init_72 : decode cX12_init 72 = .ok (.putfield 32, 3) := by decide +kernel
theorem dX12_init_75 : decode cX12_init 75 = .ok (.aload_n 0, 1) := by decide +kernel
theorem dX12_init_76 : decode cX12_init 76 = .ok (.bipush 60, 2) := by decide +kernel
theorem dX12_init_78 : decode cX12_init 78 = .ok (.newarray .int, 2) := by decide +kernel
theorem dX12_init_80 : decode cX12_init 80 = .ok (.putfield 35, 3) := by decide +kernel
theorem dX12_init_83 : decode cX12_init 83 = .ok (.aload_n 0, 1) := by decide +kernel
theorem dX12_init_84 : decode cX12_init 84 = .ok (.bipush 60, 2) := by decide +kernel
theorem dX12_init_86 : decode cX12_init 86 = .ok (.newarray .int, 2) := by decide +kernel
theorem dX12_init_88 : decode cX12_init 88 = .ok (.putfield 38, 3) := by decide +kernel
theorem dX12_init_91 : decode cX12_init 91 = .ok (.aload_n 0, 1) := by decide +kernel
theorem dX12_init_92 : decode cX12_init 92 = .ok (.bipush 60, 2) := by decide +kernel
theorem dX12_init_94 : decode cX12_init 94 = .ok (.newarray .int, 2) := by decide +kernel
theorem dX12_init_96 : decode cX12_init 96 = .ok (.putfield 41, 3) := by decide +kernel
theorem dX12_init_99 : decode cX12_init 99 = .ok (.aload_n 0, 1) := by decide +kernel
theorem dX12_init_100 : decode cX12_init 100 = .ok (.bipush 60, 2) := by decide +kernel
theorem dX12_init_102 : decode cX12_init 102 = .ok (.newarray .int, 2) := by decide +kernel
theorem dX12_init_104 : decode cX12_init 104 = .ok (.putfield 44, 3) := by decide +kernel
theorem dX12_init_107 : decode cX12_init 107 = .ok (.aload_n 0, 1) := by decide +kernel
theorem dX12_init_108 : decode cX12_init 108 = .ok (.sipush 600, 3) := by decide +kernel
theorem dX12_init_111 : decode cX12_init 111 = .ok (.newarray .int, 2) := by decide +kernel
theorem dX12_init_113 : decode cX12_init 113 = .ok (.putfield 47, 3) := by decide +kernel
theorem dX12_init_116 : decode cX12_init 116 = .ok (.aload_n 0, 1) := by decide +kernel
theorem dX12_init_117 : decode cX12_init 117 = .ok (.iconst (-1), 1) := by decide +kernel
theorem dX12_init_118 : decode cX12_init 118 = .ok (.putfield 50, 3) := by decide +kernel
theorem dX12_init_121 : decode cX12_init 121 = .ok (.aload_n 0, 1) := by decide +kernel
theorem dX12_init_122 : decode cX12_init 122 = .ok (.sipush 400, 3) := by decide +kernel
theorem dX12_init_125 : decode cX12_init 125 = .ok (.newarray .int, 2) := by decide +kernel
theorem dX12_init_127 : decode cX12_init 127 = .ok (.putfield 54, 3) := by decide +kernel
theorem dX12_init_130 : decode cX12_init 130 = .ok (.aload_n 0, 1) := by decide +kernel
theorem dX12_init_131 : decode cX12_init 131 = .ok (.invokevirtual 57, 3) := by decide +kernel
theorem dX12_init_134 : decode cX12_init 134 = .ok (.aload_n 0, 1) := by decide +kernel
theorem dX12_init_135 : decode cX12_init 135 = .ok (.getfield 7, 3) := by decide +kernel
theorem dX12_init_138 : decode cX12_init 138 = .ok (.iconst 0, 1) := by decide +kernel
theorem dX12_init_139 : decode cX12_init 139 = .ok (.iconst 1, 1) := by decide +kernel
theorem dX12_init_140 : decode cX12_init 140 = .ok (.iastore, 1) := by decide +kernel
theorem dX12_init_141 : decode cX12_init 141 = .ok (.aload_n 0, 1) := by decide +kernel
theorem dX12_init_142 : decode cX12_init 142 = .ok (.getfield 7, 3) := by decide +kernel
theorem dX12_init_145 : decode cX12_init 145 = .ok (.bipush 15, 2) := by decide +kernel
theorem dX12_init_147 : decode cX12_init 147 = .ok (.iconst 1, 1) := by decide +kernel
theorem dX12_init_148 : decode cX12_init 148 = .ok (.iastore, 1) := by decide +kernel
theorem dX12_init_149 : decode cX12_init 149 = .ok (.return_, 1) := by decide +kernel
def zX12_init_13 (G : kz_G) (d mc ms : Nat) (Qr : Option Value → kz_M → Prop) (Qx : String → kz_M → Prop) (x0 : Nat)  (M : kz_M) (c sl : Nat) : Prop := kz_Z G (d + 2) mc ms mX12_init Qr Qx 13 [(0, .ref x0)] [] M c sl
def zX12_init_22 (G : kz_G) (d mc ms : Nat) (Qr : Option Value → kz_M → Prop) (Qx : String → kz_M → Prop) (x0 : Nat)  (M : kz_M) (c sl : Nat) : Prop := kz_Z G (d + 2) mc ms mX12_init Qr Qx 22 [(0, .ref x0)] [] M c sl
def zX12_init_31 (G : kz_G) (d mc ms : Nat) (Qr : Option Value → kz_M → Prop) (Qx : String → kz_M → Prop) (x0 : Nat)  (M : kz_M) (c sl : Nat) : Prop := kz_Z G (d + 2) mc ms mX12_init Qr Qx 31 [(0, .ref x0)] [] M c sl
def zX12_init_40 (G : kz_G) (d mc ms : Nat) (Qr : Option Value → kz_M → Prop) (Qx : String → kz_M → Prop) (x0 : Nat)  (M : kz_M) (c sl : Nat) : Prop := kz_Z G (d + 2) mc ms mX12_init Qr Qx 40 [(0, .ref x0)] [] M c sl
def zX12_init_49 (G : kz_G) (d mc ms : Nat) (Qr : Option Value → kz_M → Prop) (Qx : String → kz_M → Prop) (x0 : Nat)  (M : kz_M) (c sl : Nat) : Prop := kz_Z G (d + 2) mc ms mX12_init Qr Qx 49 [(0, .ref x0)] [] M c sl
def zX12_init_58 (G : kz_G) (d mc ms : Nat) (Qr : Option Value → kz_M → Prop) (Qx : String → kz_M → Prop) (x0 : Nat)  (M : kz_M) (c sl : Nat) : Prop := kz_Z G (d + 2) mc ms mX12_init Qr Qx 58 [(0, .ref x0)] [] M c sl
def zX12_init_67 (G : kz_G) (d mc ms : Nat) (Qr : Option Value → kz_M → Prop) (Qx : String → kz_M → Prop) (x0 : Nat)  (M : kz_M) (c sl : Nat) : Prop := kz_Z G (d + 2) mc ms mX12_init Qr Qx 67 [(0, .ref x0)] [] M c sl
def zX12_init_75 (G : kz_G) (d mc ms : Nat) (Qr : Option Value → kz_M → Prop) (Qx : String → kz_M → Prop) (x0 : Nat)  (M : kz_M) (c sl : Nat) : Prop := kz_Z G (d + 2) mc ms mX12_init Qr Qx 75 [(0, .ref x0)] [] M c sl
def zX12_init_83 (G : kz_G) (d mc ms : Nat) (Qr : Option Value → kz_M → Prop) (Qx : String → kz_M → Prop) (x0 : Nat)  (M : kz_M) (c sl : Nat) : Prop := kz_Z G (d + 2) mc ms mX12_init Qr Qx 83 [(0, .ref x0)] [] M c sl
def zX12_init_91 (G : kz_G) (d mc ms : Nat) (Qr : Option Value → kz_M → Prop) (Qx : String → kz_M → Prop) (x0 : Nat)  (M : kz_M) (c sl : Nat) : Prop := kz_Z G (d + 2) mc ms mX12_init Qr Qx 91 [(0, .ref x0)] [] M c sl
def zX12_init_99 (G : kz_G) (d mc ms : Nat) (Qr : Option Value → kz_M → Prop) (Qx : String → kz_M → Prop) (x0 : Nat)  (M : kz_M) (c sl : Nat) : Prop := kz_Z G (d + 2) mc ms mX12_init Qr Qx 99 [(0, .ref x0)] [] M c sl
def zX12_init_107 (G : kz_G) (d mc ms : Nat) (Qr : Option Value → kz_M → Prop) (Qx : String → kz_M → Prop) (x0 : Nat)  (M : kz_M) (c sl : Nat) : Prop := kz_Z G (d + 2) mc ms mX12_init Qr Qx 107 [(0, .ref x0)] [] M c sl
def zX12_init_116 (G : kz_G) (d mc ms : Nat) (Qr : Option Value → kz_M → Prop) (Qx : String → kz_M → Prop) (x0 : Nat)  (M : kz_M) (c sl : Nat) : Prop := kz_Z G (d + 2) mc ms mX12_init Qr Qx 116 [(0, .ref x0)] [] M c sl
def zX12_init_130 (G : kz_G) (d mc ms : Nat) (Qr : Option Value → kz_M → Prop) (Qx : String → kz_M → Prop) (x0 : Nat)  (M : kz_M) (c sl : Nat) : Prop := kz_Z G (d + 2) mc ms mX12_init Qr Qx 130 [(0, .ref x0)] [] M c sl
theorem rX12_init_0 {G : kz_G} {d : Nat} {mc ms : Nat} {Qr : Option Value → kz_M → Prop} {Qx : String → kz_M → Prop} {a0 : Nat}  {M : kz_M} (h : ∃ N1, ¬ (3813 : Int32) < 0 ∧ (3813 : Int32).toNatClampNeg = N1 ∧ N1 ≤ 60000000 ∧ 0 + 1 ≤ mc ∧ 0 + N1 ≤ ms ∧ (∃ fs3, ((kz_nw M (.inr (.int, N1, .inl (fun _ => 0))))).1 a0 = some (.inl (11, fs3)) ∧ 0 < fs3.length ∧ (zX12_init_13 G d mc ms Qr Qx a0 (kz_up (kz_nw M (.inr (.int, N1, .inl (fun _ => 0)))) a0 (.inl (11, fs3.set 0 (.ref ((M).2))))) (0 + 1) (0 + N1)))) : kz_C G (d + 2) mc ms mX12_init [.ref a0] M Qr Qx := by
  refine kz_enter (n := 0) kmX12_init.1 (Nat.le_of_ble_eq_true rfl) (ls := [(0, .ref a0)]) rfl ?_
  refine kz_aload_n (pc := 0) 0 (v := .ref a0) (i := 0) rfl rfl rfl dX12_init_0 ?_
  refine kz_objInit (pc := 1) kw_1369 kw_34 kw_35 (by omega) (Nat.le_of_ble_eq_true rfl) dX12_init_1 ?_
  refine kz_aload_n (pc := 4) 0 (v := .ref a0) (i := 0) rfl rfl rfl dX12_init_4 ?_
  refine kz_sipush (pc := 5) (v := 3813) (by decide) dX12_init_5 ?_
  obtain ⟨N1, hn, hN, hb8, hc2, hs2, h⟩ := h
  refine kz_newaI (pc := 8) N1 kw_91 hn hN hb8 hc2 hs2 dX12_init_8 ?_
  obtain ⟨fs3, hM, hlen, h⟩ := h
  refine kz_putF (pc := 10) (k := 0) kcX12 hM (by decide) hlen rfl rfl kw_1378 rfl rfl rfl dX12_init_10 ?_
  exact h
theorem rX12_init_13 {G : kz_G} {d : Nat} {mc ms : Nat} {Qr : Option Value → kz_M → Prop} {Qx : String → kz_M → Prop} {x0 : Nat}  {M : kz_M} {c sl : Nat} (hc : c ≤ mc) (hs : sl ≤ ms) (h : ∃ N1, ¬ (3813 : Int32) < 0 ∧ (3813 : Int32).toNatClampNeg = N1 ∧ N1 ≤ 60000000 ∧ c + 1 ≤ mc ∧ sl + N1 ≤ ms ∧ (∃ fs3, ((kz_nw M (.inr (.int, N1, .inl (fun _ => 0))))).1 x0 = some (.inl (11, fs3)) ∧ 1 < fs3.length ∧ (zX12_init_22 G d mc ms Qr Qx x0 (kz_up (kz_nw M (.inr (.int, N1, .inl (fun _ => 0)))) x0 (.inl (11, fs3.set 1 (.ref ((M).2))))) (c + 1) (sl + N1)))) : zX12_init_13 G d mc ms Qr Qx x0  M c sl := by
  show kz_Z G (d + 2) mc ms mX12_init Qr Qx 13 [(0, .ref x0)] [] M c sl
  refine kz_aload_n (pc := 13) 0 (v := .ref x0) (i := 0) rfl rfl rfl dX12_init_13 ?_
  refine kz_sipush (pc := 14) (v := 3813) (by decide) dX12_init_14 ?_
  obtain ⟨N1, hn, hN, hb8, hc2, hs2, h⟩ := h
  refine kz_newaI (pc := 17) N1 kw_91 hn hN hb8 hc2 hs2 dX12_init_17 ?_
  obtain ⟨fs3, hM, hlen, h⟩ := h
  refine kz_putF (pc := 19) (k := 1) kcX12 hM (by decide) hlen rfl rfl kw_1379 rfl rfl rfl dX12_init_19 ?_
  exact h
theorem rX12_init_22 {G : kz_G} {d : Nat} {mc ms : Nat} {Qr : Option Value → kz_M → Prop} {Qx : String → kz_M → Prop} {x0 : Nat}  {M : kz_M} {c sl : Nat} (hc : c ≤ mc) (hs : sl ≤ ms) (h : ∃ N1, ¬ (3813 : Int32) < 0 ∧ (3813 : Int32).toNatClampNeg = N1 ∧ N1 ≤ 60000000 ∧ c + 1 ≤ mc ∧ sl + N1 ≤ ms ∧ (∃ fs3, ((kz_nw M (.inr (.int, N1, .inl (fun _ => 0))))).1 x0 = some (.inl (11, fs3)) ∧ 2 < fs3.length ∧ (zX12_init_31 G d mc ms Qr Qx x0 (kz_up (kz_nw M (.inr (.int, N1, .inl (fun _ => 0)))) x0 (.inl (11, fs3.set 2 (.ref ((M).2))))) (c + 1) (sl + N1)))) : zX12_init_22 G d mc ms Qr Qx x0  M c sl := by
  show kz_Z G (d + 2) mc ms mX12_init Qr Qx 22 [(0, .ref x0)] [] M c sl
  refine kz_aload_n (pc := 22) 0 (v := .ref x0) (i := 0) rfl rfl rfl dX12_init_22 ?_
  refine kz_sipush (pc := 23) (v := 3813) (by decide) dX12_init_23 ?_
  obtain ⟨N1, hn, hN, hb8, hc2, hs2, h⟩ := h
  refine kz_newaI (pc := 26) N1 kw_91 hn hN hb8 hc2 hs2 dX12_init_26 ?_
  obtain ⟨fs3, hM, hlen, h⟩ := h
  refine kz_putF (pc := 28) (k := 2) kcX12 hM (by decide) hlen rfl rfl kw_1380 rfl rfl rfl dX12_init_28 ?_
  exact h
theorem rX12_init_31 {G : kz_G} {d : Nat} {mc ms : Nat} {Qr : Option Value → kz_M → Prop} {Qx : String → kz_M → Prop} {x0 : Nat}  {M : kz_M} {c sl : Nat} (hc : c ≤ mc) (hs : sl ≤ ms) (h : ∃ N1, ¬ (30504 : Int32) < 0 ∧ (30504 : Int32).toNatClampNeg = N1 ∧ N1 ≤ 60000000 ∧ c + 1 ≤ mc ∧ sl + N1 ≤ ms ∧ (∃ fs3, ((kz_nw M (.inr (.int, N1, .inl (fun _ => 0))))).1 x0 = some (.inl (11, fs3)) ∧ 3 < fs3.length ∧ (zX12_init_40 G d mc ms Qr Qx x0 (kz_up (kz_nw M (.inr (.int, N1, .inl (fun _ => 0)))) x0 (.inl (11, fs3.set 3 (.ref ((M).2))))) (c + 1) (sl + N1)))) : zX12_init_31 G d mc ms Qr Qx x0  M c sl := by
  show kz_Z G (d + 2) mc ms mX12_init Qr Qx 31 [(0, .ref x0)] [] M c sl
  refine kz_aload_n (pc := 31) 0 (v := .ref x0) (i := 0) rfl rfl rfl dX12_init_31 ?_
  refine kz_sipush (pc := 32) (v := 30504) (by decide) dX12_init_32 ?_
  obtain ⟨N1, hn, hN, hb8, hc2, hs2, h⟩ := h
  refine kz_newaI (pc := 35) N1 kw_91 hn hN hb8 hc2 hs2 dX12_init_35 ?_
  obtain ⟨fs3, hM, hlen, h⟩ := h
  refine kz_putF (pc := 37) (k := 3) kcX12 hM (by decide) hlen rfl rfl kw_1381 rfl rfl rfl dX12_init_37 ?_
  exact h
theorem rX12_init_40 {G : kz_G} {d : Nat} {mc ms : Nat} {Qr : Option Value → kz_M → Prop} {Qx : String → kz_M → Prop} {x0 : Nat}  {M : kz_M} {c sl : Nat} (hc : c ≤ mc) (hs : sl ≤ ms) (h : ∃ N1, ¬ (732 : Int32) < 0 ∧ (732 : Int32).toNatClampNeg = N1 ∧ N1 ≤ 60000000 ∧ c + 1 ≤ mc ∧ sl + N1 ≤ ms ∧ (∃ fs3, ((kz_nw M (.inr (.long, N1, .inr (.inl (fun _ => 0)))))).1 x0 = some (.inl (11, fs3)) ∧ 4 < fs3.length ∧ (zX12_init_49 G d mc ms Qr Qx x0 (kz_up (kz_nw M (.inr (.long, N1, .inr (.inl (fun _ => 0))))) x0 (.inl (11, fs3.set 4 (.ref ((M).2))))) (c + 1) (sl + N1)))) : zX12_init_40 G d mc ms Qr Qx x0  M c sl := by
  show kz_Z G (d + 2) mc ms mX12_init Qr Qx 40 [(0, .ref x0)] [] M c sl
  refine kz_aload_n (pc := 40) 0 (v := .ref x0) (i := 0) rfl rfl rfl dX12_init_40 ?_
  refine kz_sipush (pc := 41) (v := 732) (by decide) dX12_init_41 ?_
  obtain ⟨N1, hn, hN, hb8, hc2, hs2, h⟩ := h
  refine kz_newaL (pc := 44) N1 kw_92 hn hN hb8 hc2 hs2 dX12_init_44 ?_
  obtain ⟨fs3, hM, hlen, h⟩ := h
  refine kz_putF (pc := 46) (k := 4) kcX12 hM (by decide) hlen rfl rfl kw_1382 rfl rfl rfl dX12_init_46 ?_
  exact h
theorem rX12_init_49 {G : kz_G} {d : Nat} {mc ms : Nat} {Qr : Option Value → kz_M → Prop} {Qx : String → kz_M → Prop} {x0 : Nat}  {M : kz_M} {c sl : Nat} (hc : c ≤ mc) (hs : sl ≤ ms) (h : ∃ N1, ¬ (732 : Int32) < 0 ∧ (732 : Int32).toNatClampNeg = N1 ∧ N1 ≤ 60000000 ∧ c + 1 ≤ mc ∧ sl + N1 ≤ ms ∧ (∃ fs3, ((kz_nw M (.inr (.long, N1, .inr (.inl (fun _ => 0)))))).1 x0 = some (.inl (11, fs3)) ∧ 5 < fs3.length ∧ (zX12_init_58 G d mc ms Qr Qx x0 (kz_up (kz_nw M (.inr (.long, N1, .inr (.inl (fun _ => 0))))) x0 (.inl (11, fs3.set 5 (.ref ((M).2))))) (c + 1) (sl + N1)))) : zX12_init_49 G d mc ms Qr Qx x0  M c sl := by
  show kz_Z G (d + 2) mc ms mX12_init Qr Qx 49 [(0, .ref x0)] [] M c sl
  refine kz_aload_n (pc := 49) 0 (v := .ref x0) (i := 0) rfl rfl rfl dX12_init_49 ?_
  refine kz_sipush (pc := 50) (v := 732) (by decide) dX12_init_50 ?_
  obtain ⟨N1, hn, hN, hb8, hc2, hs2, h⟩ := h
  refine kz_newaL (pc := 53) N1 kw_92 hn hN hb8 hc2 hs2 dX12_init_53 ?_
  obtain ⟨fs3, hM, hlen, h⟩ := h
  refine kz_putF (pc := 55) (k := 5) kcX12 hM (by decide) hlen rfl rfl kw_1383 rfl rfl rfl dX12_init_55 ?_
  exact h
theorem rX12_init_58 {G : kz_G} {d : Nat} {mc ms : Nat} {Qr : Option Value → kz_M → Prop} {Qx : String → kz_M → Prop} {x0 : Nat}  {M : kz_M} {c sl : Nat} (hc : c ≤ mc) (hs : sl ≤ ms) (h : ∃ N1, ¬ (5856 : Int32) < 0 ∧ (5856 : Int32).toNatClampNeg = N1 ∧ N1 ≤ 60000000 ∧ c + 1 ≤ mc ∧ sl + N1 ≤ ms ∧ (∃ fs3, ((kz_nw M (.inr (.long, N1, .inr (.inl (fun _ => 0)))))).1 x0 = some (.inl (11, fs3)) ∧ 6 < fs3.length ∧ (zX12_init_67 G d mc ms Qr Qx x0 (kz_up (kz_nw M (.inr (.long, N1, .inr (.inl (fun _ => 0))))) x0 (.inl (11, fs3.set 6 (.ref ((M).2))))) (c + 1) (sl + N1)))) : zX12_init_58 G d mc ms Qr Qx x0  M c sl := by
  show kz_Z G (d + 2) mc ms mX12_init Qr Qx 58 [(0, .ref x0)] [] M c sl
  refine kz_aload_n (pc := 58) 0 (v := .ref x0) (i := 0) rfl rfl rfl dX12_init_58 ?_
  refine kz_sipush (pc := 59) (v := 5856) (by decide) dX12_init_59 ?_
  obtain ⟨N1, hn, hN, hb8, hc2, hs2, h⟩ := h
  refine kz_newaL (pc := 62) N1 kw_92 hn hN hb8 hc2 hs2 dX12_init_62 ?_
  obtain ⟨fs3, hM, hlen, h⟩ := h
  refine kz_putF (pc := 64) (k := 6) kcX12 hM (by decide) hlen rfl rfl kw_1384 rfl rfl rfl dX12_init_64 ?_
  exact h
theorem rX12_init_67 {G : kz_G} {d : Nat} {mc ms : Nat} {Qr : Option Value → kz_M → Prop} {Qx : String → kz_M → Prop} {x0 : Nat}  {M : kz_M} {c sl : Nat} (hc : c ≤ mc) (hs : sl ≤ ms) (h : ∃ N1, ¬ (60 : Int32) < 0 ∧ (60 : Int32).toNatClampNeg = N1 ∧ N1 ≤ 60000000 ∧ c + 1 ≤ mc ∧ sl + N1 ≤ ms ∧ (∃ fs3, ((kz_nw M (.inr (.long, N1, .inr (.inl (fun _ => 0)))))).1 x0 = some (.inl (11, fs3)) ∧ 10 < fs3.length ∧ (zX12_init_75 G d mc ms Qr Qx x0 (kz_up (kz_nw M (.inr (.long, N1, .inr (.inl (fun _ => 0))))) x0 (.inl (11, fs3.set 10 (.ref ((M).2))))) (c + 1) (sl + N1)))) : zX12_init_67 G d mc ms Qr Qx x0  M c sl := by
  show kz_Z G (d + 2) mc ms mX12_init Qr Qx 67 [(0, .ref x0)] [] M c sl
  refine kz_aload_n (pc := 67) 0 (v := .ref x0) (i := 0) rfl rfl rfl dX12_init_67 ?_
  refine kz_bipush (pc := 68) (v := 60) (by decide) dX12_init_68 ?_
  obtain ⟨N1, hn, hN, hb8, hc2, hs2, h⟩ := h
  refine kz_newaL (pc := 70) N1 kw_92 hn hN hb8 hc2 hs2 dX12_init_70 ?_
  obtain ⟨fs3, hM, hlen, h⟩ := h
  refine kz_putF (pc := 72) (k := 10) kcX12 hM (by decide) hlen rfl rfl kw_1388 rfl rfl rfl dX12_init_72 ?_
  exact h
theorem rX12_init_75 {G : kz_G} {d : Nat} {mc ms : Nat} {Qr : Option Value → kz_M → Prop} {Qx : String → kz_M → Prop} {x0 : Nat}  {M : kz_M} {c sl : Nat} (hc : c ≤ mc) (hs : sl ≤ ms) (h : ∃ N1, ¬ (60 : Int32) < 0 ∧ (60 : Int32).toNatClampNeg = N1 ∧ N1 ≤ 60000000 ∧ c + 1 ≤ mc ∧ sl + N1 ≤ ms ∧ (∃ fs3, ((kz_nw M (.inr (.int, N1, .inl (fun _ => 0))))).1 x0 = some (.inl (11, fs3)) ∧ 14 < fs3.length ∧ (zX12_init_83 G d mc ms Qr Qx x0 (kz_up (kz_nw M (.inr (.int, N1, .inl (fun _ => 0)))) x0 (.inl (11, fs3.set 14 (.ref ((M).2))))) (c + 1) (sl + N1)))) : zX12_init_75 G d mc ms Qr Qx x0  M c sl := by
  show kz_Z G (d + 2) mc ms mX12_init Qr Qx 75 [(0, .ref x0)] [] M c sl
  refine kz_aload_n (pc := 75) 0 (v := .ref x0) (i := 0) rfl rfl rfl dX12_init_75 ?_
  refine kz_bipush (pc := 76) (v := 60) (by decide) dX12_init_76 ?_
  obtain ⟨N1, hn, hN, hb8, hc2, hs2, h⟩ := h
  refine kz_newaI (pc := 78) N1 kw_91 hn hN hb8 hc2 hs2 dX12_init_78 ?_
  obtain ⟨fs3, hM, hlen, h⟩ := h
  refine kz_putF (pc := 80) (k := 14) kcX12 hM (by decide) hlen rfl rfl kw_1392 rfl rfl rfl dX12_init_80 ?_
  exact h
theorem rX12_init_83 {G : kz_G} {d : Nat} {mc ms : Nat} {Qr : Option Value → kz_M → Prop} {Qx : String → kz_M → Prop} {x0 : Nat}  {M : kz_M} {c sl : Nat} (hc : c ≤ mc) (hs : sl ≤ ms) (h : ∃ N1, ¬ (60 : Int32) < 0 ∧ (60 : Int32).toNatClampNeg = N1 ∧ N1 ≤ 60000000 ∧ c + 1 ≤ mc ∧ sl + N1 ≤ ms ∧ (∃ fs3, ((kz_nw M (.inr (.int, N1, .inl (fun _ => 0))))).1 x0 = some (.inl (11, fs3)) ∧ 15 < fs3.length ∧ (zX12_init_91 G d mc ms Qr Qx x0 (kz_up (kz_nw M (.inr (.int, N1, .inl (fun _ => 0)))) x0 (.inl (11, fs3.set 15 (.ref ((M).2))))) (c + 1) (sl + N1)))) : zX12_init_83 G d mc ms Qr Qx x0  M c sl := by
  show kz_Z G (d + 2) mc ms mX12_init Qr Qx 83 [(0, .ref x0)] [] M c sl
  refine kz_aload_n (pc := 83) 0 (v := .ref x0) (i := 0) rfl rfl rfl dX12_init_83 ?_
  refine kz_bipush (pc := 84) (v := 60) (by decide) dX12_init_84 ?_
  obtain ⟨N1, hn, hN, hb8, hc2, hs2, h⟩ := h
  refine kz_newaI (pc := 86) N1 kw_91 hn hN hb8 hc2 hs2 dX12_init_86 ?_
  obtain ⟨fs3, hM, hlen, h⟩ := h
  refine kz_putF (pc := 88) (k := 15) kcX12 hM (by decide) hlen rfl rfl kw_1393 rfl rfl rfl dX12_init_88 ?_
  exact h
theorem rX12_init_91 {G : kz_G} {d : Nat} {mc ms : Nat} {Qr : Option Value → kz_M → Prop} {Qx : String → kz_M → Prop} {x0 : Nat}  {M : kz_M} {c sl : Nat} (hc : c ≤ mc) (hs : sl ≤ ms) (h : ∃ N1, ¬ (60 : Int32) < 0 ∧ (60 : Int32).toNatClampNeg = N1 ∧ N1 ≤ 60000000 ∧ c + 1 ≤ mc ∧ sl + N1 ≤ ms ∧ (∃ fs3, ((kz_nw M (.inr (.int, N1, .inl (fun _ => 0))))).1 x0 = some (.inl (11, fs3)) ∧ 16 < fs3.length ∧ (zX12_init_99 G d mc ms Qr Qx x0 (kz_up (kz_nw M (.inr (.int, N1, .inl (fun _ => 0)))) x0 (.inl (11, fs3.set 16 (.ref ((M).2))))) (c + 1) (sl + N1)))) : zX12_init_91 G d mc ms Qr Qx x0  M c sl := by
  show kz_Z G (d + 2) mc ms mX12_init Qr Qx 91 [(0, .ref x0)] [] M c sl
  refine kz_aload_n (pc := 91) 0 (v := .ref x0) (i := 0) rfl rfl rfl dX12_init_91 ?_
  refine kz_bipush (pc := 92) (v := 60) (by decide) dX12_init_92 ?_
  obtain ⟨N1, hn, hN, hb8, hc2, hs2, h⟩ := h
  refine kz_newaI (pc := 94) N1 kw_91 hn hN hb8 hc2 hs2 dX12_init_94 ?_
  obtain ⟨fs3, hM, hlen, h⟩ := h
  refine kz_putF (pc := 96) (k := 16) kcX12 hM (by decide) hlen rfl rfl kw_1394 rfl rfl rfl dX12_init_96 ?_
  exact h
theorem rX12_init_99 {G : kz_G} {d : Nat} {mc ms : Nat} {Qr : Option Value → kz_M → Prop} {Qx : String → kz_M → Prop} {x0 : Nat}  {M : kz_M} {c sl : Nat} (hc : c ≤ mc) (hs : sl ≤ ms) (h : ∃ N1, ¬ (60 : Int32) < 0 ∧ (60 : Int32).toNatClampNeg = N1 ∧ N1 ≤ 60000000 ∧ c + 1 ≤ mc ∧ sl + N1 ≤ ms ∧ (∃ fs3, ((kz_nw M (.inr (.int, N1, .inl (fun _ => 0))))).1 x0 = some (.inl (11, fs3)) ∧ 17 < fs3.length ∧ (zX12_init_107 G d mc ms Qr Qx x0 (kz_up (kz_nw M (.inr (.int, N1, .inl (fun _ => 0)))) x0 (.inl (11, fs3.set 17 (.ref ((M).2))))) (c + 1) (sl + N1)))) : zX12_init_99 G d mc ms Qr Qx x0  M c sl := by
  show kz_Z G (d + 2) mc ms mX12_init Qr Qx 99 [(0, .ref x0)] [] M c sl
  refine kz_aload_n (pc := 99) 0 (v := .ref x0) (i := 0) rfl rfl rfl dX12_init_99 ?_
  refine kz_bipush (pc := 100) (v := 60) (by decide) dX12_init_100 ?_
  obtain ⟨N1, hn, hN, hb8, hc2, hs2, h⟩ := h
  refine kz_newaI (pc := 102) N1 kw_91 hn hN hb8 hc2 hs2 dX12_init_102 ?_
  obtain ⟨fs3, hM, hlen, h⟩ := h
  refine kz_putF (pc := 104) (k := 17) kcX12 hM (by decide) hlen rfl rfl kw_1395 rfl rfl rfl dX12_init_104 ?_
  exact h
theorem rX12_init_107 {G : kz_G} {d : Nat} {mc ms : Nat} {Qr : Option Value → kz_M → Prop} {Qx : String → kz_M → Prop} {x0 : Nat}  {M : kz_M} {c sl : Nat} (hc : c ≤ mc) (hs : sl ≤ ms) (h : ∃ N1, ¬ (600 : Int32) < 0 ∧ (600 : Int32).toNatClampNeg = N1 ∧ N1 ≤ 60000000 ∧ c + 1 ≤ mc ∧ sl + N1 ≤ ms ∧ (∃ fs3, ((kz_nw M (.inr (.int, N1, .inl (fun _ => 0))))).1 x0 = some (.inl (11, fs3)) ∧ 18 < fs3.length ∧ (zX12_init_116 G d mc ms Qr Qx x0 (kz_up (kz_nw M (.inr (.int, N1, .inl (fun _ => 0)))) x0 (.inl (11, fs3.set 18 (.ref ((M).2))))) (c + 1) (sl + N1)))) : zX12_init_107 G d mc ms Qr Qx x0  M c sl := by
  show kz_Z G (d + 2) mc ms mX12_init Qr Qx 107 [(0, .ref x0)] [] M c sl
  refine kz_aload_n (pc := 107) 0 (v := .ref x0) (i := 0) rfl rfl rfl dX12_init_107 ?_
  refine kz_sipush (pc := 108) (v := 600) (by decide) dX12_init_108 ?_
  obtain ⟨N1, hn, hN, hb8, hc2, hs2, h⟩ := h
  refine kz_newaI (pc := 111) N1 kw_91 hn hN hb8 hc2 hs2 dX12_init_111 ?_
  obtain ⟨fs3, hM, hlen, h⟩ := h
  refine kz_putF (pc := 113) (k := 18) kcX12 hM (by decide) hlen rfl rfl kw_1396 rfl rfl rfl dX12_init_113 ?_
  exact h
theorem rX12_init_116 {G : kz_G} {d : Nat} {mc ms : Nat} {Qr : Option Value → kz_M → Prop} {Qx : String → kz_M → Prop} {x0 : Nat}  {M : kz_M} {c sl : Nat} (hc : c ≤ mc) (hs : sl ≤ ms) (h : ∃ fs1, (M).1 x0 = some (.inl (11, fs1)) ∧ 21 < fs1.length ∧ (∃ N2, ¬ (400 : Int32) < 0 ∧ (400 : Int32).toNatClampNeg = N2 ∧ N2 ≤ 60000000 ∧ c + 1 ≤ mc ∧ sl + N2 ≤ ms ∧ (∃ fs4, ((kz_nw (kz_up M x0 (.inl (11, fs1.set 21 (.int ((-1)))))) (.inr (.int, N2, .inl (fun _ => 0))))).1 x0 = some (.inl (11, fs4)) ∧ 30 < fs4.length ∧ (∀ M5, M5 = kz_up (kz_nw (kz_up M x0 (.inl (11, fs1.set 21 (.int ((-1)))))) (.inr (.int, N2, .inl (fun _ => 0)))) x0 (.inl (11, fs4.set 30 (.ref ((kz_up M x0 (.inl (11, fs1.set 21 (.int ((-1)))))).2)))) → zX12_init_130 G d mc ms Qr Qx x0 M5 (c + 1) (sl + N2))))) : zX12_init_116 G d mc ms Qr Qx x0  M c sl := by
  show kz_Z G (d + 2) mc ms mX12_init Qr Qx 116 [(0, .ref x0)] [] M c sl
  refine kz_aload_n (pc := 116) 0 (v := .ref x0) (i := 0) rfl rfl rfl dX12_init_116 ?_
  refine kz_iconst (pc := 117) (v := (-1)) (by decide) dX12_init_117 ?_
  obtain ⟨fs1, hM, hlen, h⟩ := h
  refine kz_putf (pc := 118) (k := 21) kcX12 hM (by decide) hlen kw_1399 rfl rfl rfl dX12_init_118 ?_
  refine kz_aload_n (pc := 121) 0 (v := .ref x0) (i := 0) rfl rfl rfl dX12_init_121 ?_
  refine kz_sipush (pc := 122) (v := 400) (by decide) dX12_init_122 ?_
  obtain ⟨N2, hn, hN, hb8, hc3, hs3, h⟩ := h
  refine kz_newaI (pc := 125) N2 kw_91 hn hN hb8 hc3 hs3 dX12_init_125 ?_
  obtain ⟨fs4, hM, hlen, h⟩ := h
  refine kz_putF (pc := 127) (k := 30) kcX12 hM (by decide) hlen rfl rfl kw_1408 rfl rfl rfl dX12_init_127 ?_
  refine kz_nameM (fun M5 e9 => ?_)
  replace h := h M5 e9
  exact h
theorem rX12_init_130 {G : kz_G} {d : Nat} {mc ms : Nat} {Qr : Option Value → kz_M → Prop} {Qx : String → kz_M → Prop} {x0 : Nat}  {M : kz_M} {c sl : Nat} (hc : c ≤ mc) (hs : sl ≤ ms) (h : (∃ fs12, (M).1 x0 = some (.inl (11, fs12))) ∧ kz_C G (d + 1) 0 0 mX12_begins [.ref x0] M (fun v M1 => v = none ∧ (∃ fs4 v5, (M1).1 x0 = some (.inl (11, fs4)) ∧ fs4[0]? = some (.ref v5) ∧ (∃ n6 f7, (M1).1 v5 = some (.inr (.int, n6, .inl f7)) ∧ vp_in (0 : Int32) n6 ∧ (∃ fs8 v9, ((kz_up M1 v5 (.inr (.int, n6, .inl (upd f7 (0 : Int32).toNatClampNeg 1))))).1 x0 = some (.inl (11, fs8)) ∧ fs8[0]? = some (.ref v9) ∧ (∃ n10 f11, ((kz_up M1 v5 (.inr (.int, n6, .inl (upd f7 (0 : Int32).toNatClampNeg 1))))).1 v9 = some (.inr (.int, n10, .inl f11)) ∧ vp_in (15 : Int32) n10 ∧ (Qr none (kz_up (kz_up M1 v5 (.inr (.int, n6, .inl (upd f7 (0 : Int32).toNatClampNeg 1)))) v9 (.inr (.int, n10, .inl (upd f11 (15 : Int32).toNatClampNeg 1)))))))))) Qx) : zX12_init_130 G d mc ms Qr Qx x0  M c sl := by
  show kz_Z G (d + 2) mc ms mX12_init Qr Qx 130 [(0, .ref x0)] [] M c sl
  refine kz_aload_n (pc := 130) 0 (v := .ref x0) (i := 0) rfl rfl rfl dX12_init_130 ?_
  obtain ⟨⟨fs12, he⟩, h⟩ := h
  refine kz_callV (pc := 131) (μ' := mX12_begins) (ci := 11) (q := (RX12, TX12, 32)) (b := x0) (d' := d + 1) (mc' := 0) (ms' := 0) (As := []) (st := []) (c := c) (sl := sl) kmX12_begins kw_1370 (by omega) rfl (Nat.le_of_ble_eq_true rfl) he rfl rfl hc hs dX12_init_131 (fun E M9 hx => kz_Tout rfl hc hs hx) (kz_Cmono (fun v M1 h => ?_) (fun _ _ h => h) h)
  obtain ⟨rfl, h⟩ := h
  show kz_Z G (d + 2) mc ms mX12_init Qr Qx 134 [(0, .ref x0)] [] M1 c sl
  refine kz_aload_n (pc := 134) 0 (v := .ref x0) (i := 0) rfl rfl rfl dX12_init_134 ?_
  obtain ⟨fs4, v5, hM, hv, h⟩ := h
  refine kz_getf (pc := 135) (k := 0) kcX12 hM hv (by decide) kw_1378 dX12_init_135 ?_
  refine kz_iconst (pc := 138) (v := 0) (by decide) dX12_init_138 ?_
  refine kz_iconst (pc := 139) (v := 1) (by decide) dX12_init_139 ?_
  obtain ⟨n6, f7, hM, hi, h⟩ := h
  refine kz_iast (pc := 140) hM hi dX12_init_140 ?_
  refine kz_aload_n (pc := 141) 0 (v := .ref x0) (i := 0) rfl rfl rfl dX12_init_141 ?_
  obtain ⟨fs8, v9, hM, hv, h⟩ := h
  refine kz_getf (pc := 142) (k := 0) kcX12 hM hv (by decide) kw_1378 dX12_init_142 ?_
  refine kz_bipush (pc := 145) (v := 15) (by decide) dX12_init_145 ?_
  refine kz_iconst (pc := 147) (v := 1) (by decide) dX12_init_147 ?_
  obtain ⟨n10, f11, hM, hi, h⟩ := h
  refine kz_iast (pc := 148) hM hi dX12_init_148 ?_
  exact kz_vret (pc := 149) rfl hc hs dX12_init_149 h
theorem dX12_thrown_0 : decode cX12_thrown 0 = .ok (.aload_n 0, 1) := by decide +kernel
theorem dX12_thrown_1 : decode cX12_thrown 1 = .ok (.getfield 60, 3) := by decide +kernel
theorem dX12_thrown_4 : decode cX12_thrown 4 = .ok (.ireturn, 1) := by decide +kernel
theorem rX12_thrown_0 {G : kz_G} {d : Nat} {Qr : Option Value → kz_M → Prop} {Qx : String → kz_M → Prop} {a0 : Nat}  {M : kz_M} (h : ∃ fs1 v2, (M).1 a0 = some (.inl (11, fs1)) ∧ fs1[9]? = some (.int v2) ∧ (Qr (some (.int v2)) M)) : kz_C G d 0 0 mX12_thrown [.ref a0] M Qr Qx := by
  refine kz_enter (n := 0) kmX12_thrown.1 (Nat.le_of_ble_eq_true rfl) (ls := [(0, .ref a0)]) rfl ?_
  refine kz_aload_n (pc := 0) 0 (v := .ref a0) (i := 0) rfl rfl rfl dX12_thrown_0 ?_
  obtain ⟨fs1, v2, hM, hv, h⟩ := h
  refine kz_getf (pc := 1) (k := 9) kcX12 hM hv (by decide) kw_1387 dX12_thrown_1 ?_
  exact kz_iret (pc := 4) rfl (Nat.le_refl _) (Nat.le_refl _) dX12_thrown_4 h
theorem dX12_inRange_0 : decode cX12_inRange 0 = .ok (.iload_n 0, 1) := by decide +kernel
theorem dX12_inRange_1 : decode cX12_inRange 1 = .ok (.iload_n 1, 1) := by decide +kernel
theorem dX12_inRange_2 : decode cX12_inRange 2 = .ok (.if_icmp .lt 12, 3) := by decide +kernel
theorem dX12_inRange_5 : decode cX12_inRange 5 = .ok (.iload_n 0, 1) := by decide +kernel
theorem dX12_inRange_6 : decode cX12_inRange 6 = .ok (.iload_n 2, 1) := by decide +kernel
theorem dX12_inRange_7 : decode cX12_inRange 7 = .ok (.if_icmp .gt 7, 3) := by decide +kernel
theorem dX12_inRange_10 : decode cX12_inRange 10 = .ok (.iconst 1, 1) := by decide +kernel
theorem dX12_inRange_11 : decode cX12_inRange 11 = .ok (.goto 4, 3) := by decide +kernel
theorem dX12_inRange_14 : decode cX12_inRange 14 = .ok (.iconst 0, 1) := by decide +kernel
theorem dX12_inRange_15 : decode cX12_inRange 15 = .ok (.ireturn, 1) := by decide +kernel
theorem rX12_inRange_0 {G : kz_G} {d : Nat} {Qr : Option Value → kz_M → Prop} {Qx : String → kz_M → Prop} {p0 : Int32} {p1 : Int32} {p2 : Int32}  {M : kz_M} (h : (p0 < p1 → Qr (some (.int 0)) M) ∧ (¬ p0 < p1 → (p2 < p0 → Qr (some (.int 0)) M) ∧ (¬ p2 < p0 → Qr (some (.int 1)) M))) : kz_C G d 0 0 mX12_inRange [.int p0, .int p1, .int p2] M Qr Qx := by
  refine kz_enter (n := 3) kmX12_inRange.1 (Nat.le_of_ble_eq_true rfl) (ls := [(0, .int p0), (1, .int p1), (2, .int p2)]) rfl ?_
  refine kz_iload_n (pc := 0) 0 (i := 0) rfl rfl dX12_inRange_0 ?_
  refine kz_iload_n (pc := 1) 1 (i := 1) rfl rfl dX12_inRange_1 ?_
  refine kz_icmp_lt (pc := 2) (tgt := 14) (by decide) dX12_inRange_2 (fun hb => ?_) (fun hb => ?_)
  · replace h := h.1 hb
    refine kz_iconst (pc := 14) (v := 0) (by decide) dX12_inRange_14 ?_
    exact kz_zret (pc := 15) (ty := .boolean) rfl (by decide) (Nat.le_refl _) (Nat.le_refl _) dX12_inRange_15 h
  · replace h := h.2 hb
    refine kz_iload_n (pc := 5) 0 (i := 0) rfl rfl dX12_inRange_5 ?_
    refine kz_iload_n (pc := 6) 2 (i := 2) rfl rfl dX12_inRange_6 ?_
    refine kz_icmp_gt (pc := 7) (tgt := 14) (by decide) dX12_inRange_7 (fun hb => ?_) (fun hb => ?_)
    · replace h := h.1 hb
      refine kz_iconst (pc := 14) (v := 0) (by decide) dX12_inRange_14 ?_
      exact kz_zret (pc := 15) (ty := .boolean) rfl (by decide) (Nat.le_refl _) (Nat.le_refl _) dX12_inRange_15 h
    · replace h := h.2 hb
      refine kz_iconst (pc := 10) (v := 1) (by decide) dX12_inRange_10 ?_
      refine kz_goto (pc := 11) (tgt := 15) (by decide) dX12_inRange_11 ?_
      exact kz_zret (pc := 15) (ty := .boolean) rfl (by decide) (Nat.le_refl _) (Nat.le_refl _) dX12_inRange_15 h
theorem dX12_fails_0 : decode cX12_fails 0 = .ok (.iload_n 1, 1) := by decide +kernel
theorem dX12_fails_1 : decode cX12_fails 1 = .ok (.ifCond .eq 8, 3) := by decide +kernel
theorem dX12_fails_4 : decode cX12_fails 4 = .ok (.aload_n 0, 1) := by decide +kernel
theorem dX12_fails_5 : decode cX12_fails 5 = .ok (.iload_n 2, 1) := by decide +kernel
theorem dX12_fails_6 : decode cX12_fails 6 = .ok (.putfield 60, 3) := by decide +kernel
theorem dX12_fails_9 : decode cX12_fails 9 = .ok (.iload_n 1, 1) := by decide +kernel
theorem dX12_fails_10 : decode cX12_fails 10 = .ok (.ireturn, 1) := by decide +kernel
theorem rX12_fails_0 {G : kz_G} {d : Nat} {Qr : Option Value → kz_M → Prop} {Qx : String → kz_M → Prop} {a0 : Nat} {p1 : Int32} {p2 : Int32}  {M : kz_M} (h : (p1 = 0 → narrow .boolean (.int p1) = .int p1 ∧ Qr (some (.int p1)) M) ∧ (¬ p1 = 0 → ∃ fs1, (M).1 a0 = some (.inl (11, fs1)) ∧ 9 < fs1.length ∧ (narrow .boolean (.int p1) = .int p1 ∧ Qr (some (.int p1)) (kz_up M a0 (.inl (11, fs1.set 9 (.int p2))))))) : kz_C G d 0 0 mX12_fails [.ref a0, .int p1, .int p2] M Qr Qx := by
  refine kz_enter (n := 2) kmX12_fails.1 (Nat.le_of_ble_eq_true rfl) (ls := [(0, .ref a0), (1, .int p1), (2, .int p2)]) rfl ?_
  refine kz_iload_n (pc := 0) 1 (i := 1) rfl rfl dX12_fails_0 ?_
  refine kz_if_eq (pc := 1) (tgt := 9) (by decide) dX12_fails_1 (fun hb => ?_) (fun hb => ?_)
  · replace h := h.1 hb
    refine kz_iload_n (pc := 9) 1 (i := 1) rfl rfl dX12_fails_9 ?_
    exact kz_zret (pc := 10) (ty := .boolean) rfl h.1 (Nat.le_refl _) (Nat.le_refl _) dX12_fails_10 h.2
  · replace h := h.2 hb
    refine kz_aload_n (pc := 4) 0 (v := .ref a0) (i := 0) rfl rfl rfl dX12_fails_4 ?_
    refine kz_iload_n (pc := 5) 2 (i := 2) rfl rfl dX12_fails_5 ?_
    obtain ⟨fs1, hM, hlen, h⟩ := h
    refine kz_putf (pc := 6) (k := 9) kcX12 hM (by decide) hlen kw_1387 rfl rfl rfl dX12_fails_6 ?_
    refine kz_iload_n (pc := 9) 1 (i := 1) rfl rfl dX12_fails_9 ?_
    exact kz_zret (pc := 10) (ty := .boolean) rfl h.1 (Nat.le_refl _) (Nat.le_refl _) dX12_fails_10 h.2
theorem dX12_copies_0 : decode cX12_copies 0 = .ok (.iconst 0, 1) := by decide +kernel
theorem dX12_copies_1 : decode cX12_copies 1 = .ok (.istore 5, 2) := by decide +kernel
theorem dX12_copies_3 : decode cX12_copies 3 = .ok (.iload 5, 2) := by decide +kernel
theorem dX12_copies_5 : decode cX12_copies 5 = .ok (.iload 4, 2) := by decide +kernel
theorem dX12_copies_7 : decode cX12_copies 7 = .ok (.if_icmp .ge 21, 3) := by decide +kernel
theorem dX12_copies_10 : decode cX12_copies 10 = .ok (.aload_n 2, 1) := by decide +kernel
theorem dX12_copies_11 : decode cX12_copies 11 = .ok (.iload_n 3, 1) := by decide +kernel
theorem dX12_copies_12 : decode cX12_copies 12 = .ok (.iload 5, 2) := by decide +kernel
theorem dX12_copies_14 : decode cX12_copies 14 = .ok (.iadd, 1) := by decide +kernel
theorem dX12_copies_15 : decode cX12_copies 15 = .ok (.aload_n 0, 1) := by decide +kernel
theorem dX12_copies_16 : decode cX12_copies 16 = .ok (.iload_n 1, 1) := by decide +kernel
theorem dX12_copies_17 : decode cX12_copies 17 = .ok (.iload 5, 2) := by decide +kernel
theorem dX12_copies_19 : decode cX12_copies 19 = .ok (.iadd, 1) := by decide +kernel
theorem dX12_copies_20 : decode cX12_copies 20 = .ok (.iaload, 1) := by decide +kernel
theorem dX12_copies_21 : decode cX12_copies 21 = .ok (.iastore, 1) := by decide +kernel
theorem dX12_copies_22 : decode cX12_copies 22 = .ok (.iinc 5 1, 3) := by decide +kernel
theorem dX12_copies_25 : decode cX12_copies 25 = .ok (.goto (-22), 3) := by decide +kernel
theorem dX12_copies_28 : decode cX12_copies 28 = .ok (.return_, 1) := by decide +kernel
def zX12_copies_3 (G : kz_G) (d : Nat) (Qr : Option Value → kz_M → Prop) (Qx : String → kz_M → Prop) (x0 : Nat) (x1 : Int32) (x2 : Nat) (x3 : Int32) (x4 : Int32) (x5 : Int32)  (M : kz_M) : Prop := kz_Z G d 0 0 mX12_copies Qr Qx 3 [(0, .ref x0), (1, .int x1), (2, .ref x2), (3, .int x3), (4, .int x4), (5, .int x5)] [] M 0 0
theorem rX12_copies_0 {G : kz_G} {d : Nat} {Qr : Option Value → kz_M → Prop} {Qx : String → kz_M → Prop} {p0 : Nat} {p1 : Int32} {p2 : Nat} {p3 : Int32} {p4 : Int32}  {M : kz_M} (h : zX12_copies_3 G d Qr Qx p0 p1 p2 p3 p4 0 M) : kz_C G d 0 0 mX12_copies [.ref p0, .int p1, .ref p2, .int p3, .int p4] M Qr Qx := by
  refine kz_enter (n := 5) kmX12_copies.1 (Nat.le_of_ble_eq_true rfl) (ls := [(0, .ref p0), (1, .int p1), (2, .ref p2), (3, .int p3), (4, .int p4)]) rfl ?_
  refine kz_iconst (pc := 0) (v := 0) (by decide) dX12_copies_0 ?_
  refine kz_istore (pc := 1) (i := 5) (ls' := [(0, .ref p0), (1, .int p1), (2, .ref p2), (3, .int p3), (4, .int p4)]) (by decide) rfl dX12_copies_1 ?_
  refine kz_sub [1, 2, 3, 4, 5, 0] rfl ?_
  exact h
theorem rX12_copies_3 {G : kz_G} {d : Nat} {Qr : Option Value → kz_M → Prop} {Qx : String → kz_M → Prop} {x0 : Nat} {x1 : Int32} {x2 : Nat} {x3 : Int32} {x4 : Int32} {x5 : Int32}  {M : kz_M} (h : (x4 ≤ x5 → Qr none M) ∧ (¬ x4 ≤ x5 → ∃ n1 f2, (M).1 x0 = some (.inr (.int, n1, .inl f2)) ∧ vp_in (x1 + x5) n1 ∧ (∃ n3 f4, (M).1 x2 = some (.inr (.int, n3, .inl f4)) ∧ vp_in (x3 + x5) n3 ∧ (zX12_copies_3 G d Qr Qx x0 x1 x2 x3 x4 (x5 + 1) (kz_up M x2 (.inr (.int, n3, .inl (upd f4 (x3 + x5 : Int32).toNatClampNeg (f2 (x1 + x5).toNatClampNeg))))))))) : zX12_copies_3 G d Qr Qx x0 x1 x2 x3 x4 x5  M := by
  show kz_Z G d 0 0 mX12_copies Qr Qx 3 [(0, .ref x0), (1, .int x1), (2, .ref x2), (3, .int x3), (4, .int x4), (5, .int x5)] [] M 0 0
  refine kz_iload (pc := 3) 5 (i := 5) rfl dX12_copies_3 ?_
  refine kz_iload (pc := 5) 4 (i := 4) rfl dX12_copies_5 ?_
  refine kz_icmp_ge (pc := 7) (tgt := 28) (by decide) dX12_copies_7 (fun hb => ?_) (fun hb => ?_)
  · replace h := h.1 hb
    exact kz_vret (pc := 28) rfl (Nat.le_refl _) (Nat.le_refl _) dX12_copies_28 h
  · replace h := h.2 hb
    refine kz_aload_n (pc := 10) 2 (v := .ref x2) (i := 2) rfl rfl rfl dX12_copies_10 ?_
    refine kz_iload_n (pc := 11) 3 (i := 3) rfl rfl dX12_copies_11 ?_
    refine kz_iload (pc := 12) 5 (i := 5) rfl dX12_copies_12 ?_
    refine kz_iadd (pc := 14) dX12_copies_14 ?_
    refine kz_aload_n (pc := 15) 0 (v := .ref x0) (i := 0) rfl rfl rfl dX12_copies_15 ?_
    refine kz_iload_n (pc := 16) 1 (i := 1) rfl rfl dX12_copies_16 ?_
    refine kz_iload (pc := 17) 5 (i := 5) rfl dX12_copies_17 ?_
    refine kz_iadd (pc := 19) dX12_copies_19 ?_
    obtain ⟨n1, f2, hM, hi, h⟩ := h
    refine kz_iald (pc := 20) hM hi dX12_copies_20 ?_
    obtain ⟨n3, f4, hM, hi, h⟩ := h
    refine kz_iast (pc := 21) hM hi dX12_copies_21 ?_
    refine kz_iinc (pc := 22) 5 (i := 5) (v := x5 + 1) (ls' := [(0, .ref x0), (1, .int x1), (2, .ref x2), (3, .int x3), (4, .int x4)]) rfl (congrArg (fun z => x5 + z) (by decide)) (by decide) rfl dX12_copies_22 ?_
    refine kz_goto (pc := 25) (tgt := 3) (by decide) dX12_copies_25 ?_
    refine kz_sub [1, 2, 3, 4, 5, 0] rfl ?_
    exact h
theorem dX12_copiesWords_0 : decode cX12_copiesWords 0 = .ok (.iconst 0, 1) := by decide +kernel
theorem dX12_copiesWords_1 : decode cX12_copiesWords 1 = .ok (.istore 5, 2) := by decide +kernel
theorem dX12_copiesWords_3 : decode cX12_copiesWords 3 = .ok (.iload 5, 2) := by decide +kernel
theorem dX12_copiesWords_5 : decode cX12_copiesWords 5 = .ok (.iload 4, 2) := by decide +kernel
theorem dX12_copiesWords_7 : decode cX12_copiesWords 7 = .ok (.if_icmp .ge 21, 3) := by decide +kernel
theorem dX12_copiesWords_10 : decode cX12_copiesWords 10 = .ok (.aload_n 2, 1) := by decide +kernel
theorem dX12_copiesWords_11 : decode cX12_copiesWords 11 = .ok (.iload_n 3, 1) := by decide +kernel
theorem dX12_copiesWords_12 : decode cX12_copiesWords 12 = .ok (.iload 5, 2) := by decide +kernel
theorem dX12_copiesWords_14 : decode cX12_copiesWords 14 = .ok (.iadd, 1) := by decide +kernel
theorem dX12_copiesWords_15 : decode cX12_copiesWords 15 = .ok (.aload_n 0, 1) := by decide +kernel
theorem dX12_copiesWords_16 : decode cX12_copiesWords 16 = .ok (.iload_n 1, 1) := by decide +kernel
theorem dX12_copiesWords_17 : decode cX12_copiesWords 17 = .ok (.iload 5, 2) := by decide +kernel
theorem dX12_copiesWords_19 : decode cX12_copiesWords 19 = .ok (.iadd, 1) := by decide +kernel
theorem dX12_copiesWords_20 : decode cX12_copiesWords 20 = .ok (.laload, 1) := by decide +kernel
theorem dX12_copiesWords_21 : decode cX12_copiesWords 21 = .ok (.lastore, 1) := by decide +kernel
theorem dX12_copiesWords_22 : decode cX12_copiesWords 22 = .ok (.iinc 5 1, 3) := by decide +kernel
theorem dX12_copiesWords_25 : decode cX12_copiesWords 25 = .ok (.goto (-22), 3) := by decide +kernel
theorem dX12_copiesWords_28 : decode cX12_copiesWords 28 = .ok (.return_, 1) := by decide +kernel
def zX12_copiesWords_3 (G : kz_G) (d : Nat) (Qr : Option Value → kz_M → Prop) (Qx : String → kz_M → Prop) (x0 : Nat) (x1 : Int32) (x2 : Nat) (x3 : Int32) (x4 : Int32) (x5 : Int32)  (M : kz_M) : Prop := kz_Z G d 0 0 mX12_copiesWords Qr Qx 3 [(0, .ref x0), (1, .int x1), (2, .ref x2), (3, .int x3), (4, .int x4), (5, .int x5)] [] M 0 0
theorem rX12_copiesWords_0 {G : kz_G} {d : Nat} {Qr : Option Value → kz_M → Prop} {Qx : String → kz_M → Prop} {p0 : Nat} {p1 : Int32} {p2 : Nat} {p3 : Int32} {p4 : Int32}  {M : kz_M} (h : zX12_copiesWords_3 G d Qr Qx p0 p1 p2 p3 p4 0 M) : kz_C G d 0 0 mX12_copiesWords [.ref p0, .int p1, .ref p2, .int p3, .int p4] M Qr Qx := by
  refine kz_enter (n := 5) kmX12_copiesWords.1 (Nat.le_of_ble_eq_true rfl) (ls := [(0, .ref p0), (1, .int p1), (2, .ref p2), (3, .int p3), (4, .int p4)]) rfl ?_
  refine kz_iconst (pc := 0) (v := 0) (by decide) dX12_copiesWords_0 ?_
  refine kz_istore (pc := 1) (i := 5) (ls' := [(0, .ref p0), (1, .int p1), (2, .ref p2), (3, .int p3), (4, .int p4)]) (by decide) rfl dX12_copiesWords_1 ?_
  refine kz_sub [1, 2, 3, 4, 5, 0] rfl ?_
  exact h
theorem rX12_copiesWords_3 {G : kz_G} {d : Nat} {Qr : Option Value → kz_M → Prop} {Qx : String → kz_M → Prop} {x0 : Nat} {x1 : Int32} {x2 : Nat} {x3 : Int32} {x4 : Int32} {x5 : Int32}  {M : kz_M} (h : (x4 ≤ x5 → Qr none M) ∧ (¬ x4 ≤ x5 → ∃ n1 f2, (M).1 x0 = some (.inr (.long, n1, .inr (.inl f2))) ∧ vp_in (x1 + x5) n1 ∧ (∃ n3 f4, (M).1 x2 = some (.inr (.long, n3, .inr (.inl f4))) ∧ vp_in (x3 + x5) n3 ∧ (zX12_copiesWords_3 G d Qr Qx x0 x1 x2 x3 x4 (x5 + 1) (kz_up M x2 (.inr (.long, n3, .inr (.inl (vp_updL f4 (x3 + x5 : Int32).toNatClampNeg (f2 (x1 + x5).toNatClampNeg)))))))))) : zX12_copiesWords_3 G d Qr Qx x0 x1 x2 x3 x4 x5  M := by
  show kz_Z G d 0 0 mX12_copiesWords Qr Qx 3 [(0, .ref x0), (1, .int x1), (2, .ref x2), (3, .int x3), (4, .int x4), (5, .int x5)] [] M 0 0
  refine kz_iload (pc := 3) 5 (i := 5) rfl dX12_copiesWords_3 ?_
  refine kz_iload (pc := 5) 4 (i := 4) rfl dX12_copiesWords_5 ?_
  refine kz_icmp_ge (pc := 7) (tgt := 28) (by decide) dX12_copiesWords_7 (fun hb => ?_) (fun hb => ?_)
  · replace h := h.1 hb
    exact kz_vret (pc := 28) rfl (Nat.le_refl _) (Nat.le_refl _) dX12_copiesWords_28 h
  · replace h := h.2 hb
    refine kz_aload_n (pc := 10) 2 (v := .ref x2) (i := 2) rfl rfl rfl dX12_copiesWords_10 ?_
    refine kz_iload_n (pc := 11) 3 (i := 3) rfl rfl dX12_copiesWords_11 ?_
    refine kz_iload (pc := 12) 5 (i := 5) rfl dX12_copiesWords_12 ?_
    refine kz_iadd (pc := 14) dX12_copiesWords_14 ?_
    refine kz_aload_n (pc := 15) 0 (v := .ref x0) (i := 0) rfl rfl rfl dX12_copiesWords_15 ?_
    refine kz_iload_n (pc := 16) 1 (i := 1) rfl rfl dX12_copiesWords_16 ?_
    refine kz_iload (pc := 17) 5 (i := 5) rfl dX12_copiesWords_17 ?_
    refine kz_iadd (pc := 19) dX12_copiesWords_19 ?_
    obtain ⟨n1, f2, hM, hi, h⟩ := h
    refine kz_lald (pc := 20) hM hi dX12_copiesWords_20 ?_
    obtain ⟨n3, f4, hM, hi, h⟩ := h
    refine kz_last (pc := 21) hM hi dX12_copiesWords_21 ?_
    refine kz_iinc (pc := 22) 5 (i := 5) (v := x5 + 1) (ls' := [(0, .ref x0), (1, .int x1), (2, .ref x2), (3, .int x3), (4, .int x4)]) rfl (congrArg (fun z => x5 + z) (by decide)) (by decide) rfl dX12_copiesWords_22 ?_
    refine kz_goto (pc := 25) (tgt := 3) (by decide) dX12_copiesWords_25 ?_
    refine kz_sub [1, 2, 3, 4, 5, 0] rfl ?_
    exact h
theorem dX12_begins_0 : decode cX12_begins 0 = .ok (.iconst 0, 1) := by decide +kernel
theorem dX12_begins_1 : decode cX12_begins 1 = .ok (.istore_n 1, 1) := by decide +kernel
theorem dX12_begins_2 : decode cX12_begins 2 = .ok (.iload_n 1, 1) := by decide +kernel
theorem dX12_begins_3 : decode cX12_begins 3 = .ok (.sipush 3813, 3) := by decide +kernel
theorem dX12_begins_6 : decode cX12_begins 6 = .ok (.if_icmp .ge 16, 3) := by decide +kernel
theorem dX12_begins_9 : decode cX12_begins 9 = .ok (.aload_n 0, 1) := by decide +kernel
theorem dX12_begins_10 : decode cX12_begins 10 = .ok (.getfield 7, 3) := by decide +kernel
theorem dX12_begins_13 : decode cX12_begins 13 = .ok (.iload_n 1, 1) := by decide +kernel
theorem dX12_begins_14 : decode cX12_begins 14 = .ok (.iconst 0, 1) := by decide +kernel
theorem dX12_begins_15 : decode cX12_begins 15 = .ok (.iastore, 1) := by decide +kernel
theorem dX12_begins_16 : decode cX12_begins 16 = .ok (.iinc 1 1, 3) := by decide +kernel
theorem dX12_begins_19 : decode cX12_begins 19 = .ok (.goto (-17), 3) := by decide +kernel
theorem dX12_begins_22 : decode cX12_begins 22 = .ok (.aload_n 0, 1) := by decide +kernel
theorem dX12_begins_23 : decode cX12_begins 23 = .ok (.iconst 0, 1) := by decide +kernel
theorem dX12_begins_24 : decode cX12_begins 24 = .ok (.bipush 20, 2) := by decide +kernel
theorem dX12_begins_26 : decode cX12_begins 26 = .ok (.invokevirtual 63, 3) := by decide +kernel
theorem dX12_begins_29 : decode cX12_begins 29 = .ok (.aload_n 0, 1) := by decide +kernel
theorem dX12_begins_30 : decode cX12_begins 30 = .ok (.iconst 1, 1) := by decide +kernel
theorem dX12_begins_31 : decode cX12_begins 31 = .ok (.iconst 3, 1) := by decide +kernel
theorem dX12_begins_32 : decode cX12_begins 32 = .ok (.invokevirtual 63, 3) := by decide +kernel
theorem dX12_begins_35 : decode cX12_begins 35 = .ok (.aload_n 0, 1) := by decide +kernel
theorem dX12_begins_36 : decode cX12_begins 36 = .ok (.iconst 2, 1) := by decide +kernel
theorem dX12_begins_37 : decode cX12_begins 37 = .ok (.iconst 4, 1) := by decide +kernel
theorem dX12_begins_38 : decode cX12_begins 38 = .ok (.invokevirtual 63, 3) := by decide +kernel
theorem dX12_begins_41 : decode cX12_begins 41 = .ok (.aload_n 0, 1) := by decide +kernel
theorem dX12_begins_42 : decode cX12_begins 42 = .ok (.iconst 3, 1) := by decide +kernel
theorem dX12_begins_43 : decode cX12_begins 43 = .ok (.iconst 2, 1) := by decide +kernel
theorem dX12_begins_44 : decode cX12_begins 44 = .ok (.invokevirtual 63, 3) := by decide +kernel
theorem dX12_begins_47 : decode cX12_begins 47 = .ok (.aload_n 0, 1) := by decide +kernel
theorem dX12_begins_48 : decode cX12_begins 48 = .ok (.iconst 4, 1) := by decide +kernel
theorem dX12_begins_49 : decode cX12_begins 49 = .ok (.bipush 7, 2) := by decide +kernel
theorem dX12_begins_51 : decode cX12_begins 51 = .ok (.invokevirtual 63, 3) := by decide +kernel
theorem dX12_begins_54 : decode cX12_begins 54 = .ok (.aload_n 0, 1) := by decide +kernel
theorem dX12_begins_55 : decode cX12_begins 55 = .ok (.iconst 5, 1) := by decide +kernel
theorem dX12_begins_56 : decode cX12_begins 56 = .ok (.iconst 3, 1) := by decide +kernel
theorem dX12_begins_57 : decode cX12_begins 57 = .ok (.invokevirtual 63, 3) := by decide +kernel
theorem dX12_begins_60 : decode cX12_begins 60 = .ok (.aload_n 0, 1) := by decide +kernel
theorem dX12_begins_61 : decode cX12_begins 61 = .ok (.bipush 6, 2) := by decide +kernel
theorem dX12_begins_63 : decode cX12_begins 63 = .ok (.iconst 1, 1) := by decide +kernel
theorem dX12_begins_64 : decode cX12_begins 64 = .ok (.invokevirtual 63, 3) := by decide +kernel
theorem dX12_begins_67 : decode cX12_begins 67 = .ok (.aload_n 0, 1) := by decide +kernel
theorem dX12_begins_68 : decode cX12_begins 68 = .ok (.bipush 7, 2) := by decide +kernel
theorem dX12_begins_70 : decode cX12_begins 70 = .ok (.bipush 10, 2) := by decide +kernel
theorem dX12_begins_72 : decode cX12_begins 72 = .ok (.invokevirtual 63, 3) := by decide +kernel
theorem dX12_begins_75 : decode cX12_begins 75 = .ok (.aload_n 0, 1) := by decide +kernel
theorem dX12_begins_76 : decode cX12_begins 76 = .ok (.bipush 8, 2) := by decide +kernel
theorem dX12_begins_78 : decode cX12_begins 78 = .ok (.bipush 8, 2) := by decide +kernel
theorem dX12_begins_80 : decode cX12_begins 80 = .ok (.invokevirtual 63, 3) := by decide +kernel
theorem dX12_begins_83 : decode cX12_begins 83 = .ok (.aload_n 0, 1) := by decide +kernel
theorem dX12_begins_84 : decode cX12_begins 84 = .ok (.bipush 9, 2) := by decide +kernel
theorem dX12_begins_86 : decode cX12_begins 86 = .ok (.iconst 5, 1) := by decide +kernel
theorem dX12_begins_87 : decode cX12_begins 87 = .ok (.invokevirtual 63, 3) := by decide +kernel
theorem dX12_begins_90 : decode cX12_begins 90 = .ok (.return_, 1) := by decide +kernel
def zX12_begins_2 (G : kz_G) (d : Nat) (Qr : Option Value → kz_M → Prop) (Qx : String → kz_M → Prop) (x0 : Nat) (x1 : Int32)  (M : kz_M) : Prop := kz_Z G (d + 1) 0 0 mX12_begins Qr Qx 2 [(0, .ref x0), (1, .int x1)] [] M 0 0
theorem rX12_begins_0 {G : kz_G} {d : Nat} {Qr : Option Value → kz_M → Prop} {Qx : String → kz_M → Prop} {a0 : Nat}  {M : kz_M} (h : zX12_begins_2 G d Qr Qx a0 0 M) : kz_C G (d + 1) 0 0 mX12_begins [.ref a0] M Qr Qx := by
  refine kz_enter (n := 0) kmX12_begins.1 (Nat.le_of_ble_eq_true rfl) (ls := [(0, .ref a0)]) rfl ?_
  refine kz_iconst (pc := 0) (v := 0) (by decide) dX12_begins_0 ?_
  refine kz_istore_n (pc := 1) (i := 1) (ls' := [(0, .ref a0)]) rfl (by decide) rfl dX12_begins_1 ?_
  refine kz_sub [1, 0] rfl ?_
  exact h
theorem rX12_begins_2 {G : kz_G} {d : Nat} {Qr : Option Value → kz_M → Prop} {Qx : String → kz_M → Prop} {x0 : Nat} {x1 : Int32}  {M : kz_M} (h : ((3813 : Int32) ≤ x1 → (∃ fs40, (M).1 x0 = some (.inl (11, fs40))) ∧ kz_C G (d + 0) 0 0 mX12_sets [.ref x0, .int 0, .int 20] M (fun v M1 => v = none ∧ ((∃ fs39, (M1).1 x0 = some (.inl (11, fs39))) ∧ kz_C G (d + 0) 0 0 mX12_sets [.ref x0, .int 1, .int 3] M1 (fun v M4 => v = none ∧ ((∃ fs38, (M4).1 x0 = some (.inl (11, fs38))) ∧ kz_C G (d + 0) 0 0 mX12_sets [.ref x0, .int 2, .int 4] M4 (fun v M7 => v = none ∧ ((∃ fs37, (M7).1 x0 = some (.inl (11, fs37))) ∧ kz_C G (d + 0) 0 0 mX12_sets [.ref x0, .int 3, .int 2] M7 (fun v M10 => v = none ∧ ((∃ fs36, (M10).1 x0 = some (.inl (11, fs36))) ∧ kz_C G (d + 0) 0 0 mX12_sets [.ref x0, .int 4, .int 7] M10 (fun v M13 => v = none ∧ ((∃ fs35, (M13).1 x0 = some (.inl (11, fs35))) ∧ kz_C G (d + 0) 0 0 mX12_sets [.ref x0, .int 5, .int 3] M13 (fun v M16 => v = none ∧ ((∃ fs34, (M16).1 x0 = some (.inl (11, fs34))) ∧ kz_C G (d + 0) 0 0 mX12_sets [.ref x0, .int 6, .int 1] M16 (fun v M19 => v = none ∧ ((∃ fs33, (M19).1 x0 = some (.inl (11, fs33))) ∧ kz_C G (d + 0) 0 0 mX12_sets [.ref x0, .int 7, .int 10] M19 (fun v M22 => v = none ∧ ((∃ fs32, (M22).1 x0 = some (.inl (11, fs32))) ∧ kz_C G (d + 0) 0 0 mX12_sets [.ref x0, .int 8, .int 8] M22 (fun v M25 => v = none ∧ ((∃ fs31, (M25).1 x0 = some (.inl (11, fs31))) ∧ kz_C G (d + 0) 0 0 mX12_sets [.ref x0, .int 9, .int 5] M25 (fun v M28 => v = none ∧ (Qr none M28)) Qx)) Qx)) Qx)) Qx)) Qx)) Qx)) Qx)) Qx)) Qx)) Qx) ∧ (¬ (3813 : Int32) ≤ x1 → ∃ fs41 v42, (M).1 x0 = some (.inl (11, fs41)) ∧ fs41[0]? = some (.ref v42) ∧ (∃ n43 f44, (M).1 v42 = some (.inr (.int, n43, .inl f44)) ∧ vp_in x1 n43 ∧ (zX12_begins_2 G d Qr Qx x0 (x1 + 1) (kz_up M v42 (.inr (.int, n43, .inl (upd f44 (x1 : Int32).toNatClampNeg 0)))))))) : zX12_begins_2 G d Qr Qx x0 x1  M := by
  show kz_Z G (d + 1) 0 0 mX12_begins Qr Qx 2 [(0, .ref x0), (1, .int x1)] [] M 0 0
  refine kz_iload_n (pc := 2) 1 (i := 1) rfl rfl dX12_begins_2 ?_
  refine kz_sipush (pc := 3) (v := 3813) (by decide) dX12_begins_3 ?_
  refine kz_icmp_ge (pc := 6) (tgt := 22) (by decide) dX12_begins_6 (fun hb => ?_) (fun hb => ?_)
  · replace h := h.1 hb
    refine kz_aload_n (pc := 22) 0 (v := .ref x0) (i := 0) rfl rfl rfl dX12_begins_22 ?_
    refine kz_iconst (pc := 23) (v := 0) (by decide) dX12_begins_23 ?_
    refine kz_bipush (pc := 24) (v := 20) (by decide) dX12_begins_24 ?_
    obtain ⟨⟨fs40, he⟩, h⟩ := h
    refine kz_callV (pc := 26) (μ' := mX12_sets) (ci := 11) (q := (RX12, TX12, 32)) (b := x0) (d' := d + 0) (mc' := 0) (ms' := 0) (As := [.int 0, .int 20]) (st := []) (c := 0) (sl := 0) kmX12_sets kw_1374 (by omega) rfl (Nat.le_of_ble_eq_true rfl) he rfl rfl (Nat.le_refl _) (Nat.le_refl _) dX12_begins_26 (fun E M9 hx => kz_Tout rfl (Nat.le_refl _) (Nat.le_refl _) hx) (kz_Cmono (fun v M1 h => ?_) (fun _ _ h => h) h)
    obtain ⟨rfl, h⟩ := h
    show kz_Z G (d + 1) 0 0 mX12_begins Qr Qx 29 [(0, .ref x0), (1, .int x1)] [] M1 0 0
    refine kz_aload_n (pc := 29) 0 (v := .ref x0) (i := 0) rfl rfl rfl dX12_begins_29 ?_
    refine kz_iconst (pc := 30) (v := 1) (by decide) dX12_begins_30 ?_
    refine kz_iconst (pc := 31) (v := 3) (by decide) dX12_begins_31 ?_
    obtain ⟨⟨fs39, he⟩, h⟩ := h
    refine kz_callV (pc := 32) (μ' := mX12_sets) (ci := 11) (q := (RX12, TX12, 32)) (b := x0) (d' := d + 0) (mc' := 0) (ms' := 0) (As := [.int 1, .int 3]) (st := []) (c := 0) (sl := 0) kmX12_sets kw_1374 (by omega) rfl (Nat.le_of_ble_eq_true rfl) he rfl rfl (Nat.le_refl _) (Nat.le_refl _) dX12_begins_32 (fun E M9 hx => kz_Tout rfl (Nat.le_refl _) (Nat.le_refl _) hx) (kz_Cmono (fun v M4 h => ?_) (fun _ _ h => h) h)
    obtain ⟨rfl, h⟩ := h
    show kz_Z G (d + 1) 0 0 mX12_begins Qr Qx 35 [(0, .ref x0), (1, .int x1)] [] M4 0 0
    refine kz_aload_n (pc := 35) 0 (v := .ref x0) (i := 0) rfl rfl rfl dX12_begins_35 ?_
    refine kz_iconst (pc := 36) (v := 2) (by decide) dX12_begins_36 ?_
    refine kz_iconst (pc := 37) (v := 4) (by decide) dX12_begins_37 ?_
    obtain ⟨⟨fs38, he⟩, h⟩ := h
    refine kz_callV (pc := 38) (μ' := mX12_sets) (ci := 11) (q := (RX12, TX12, 32)) (b := x0) (d' := d + 0) (mc' := 0) (ms' := 0) (As := [.int 2, .int 4]) (st := []) (c := 0) (sl := 0) kmX12_sets kw_1374 (by omega) rfl (Nat.le_of_ble_eq_true rfl) he rfl rfl (Nat.le_refl _) (Nat.le_refl _) dX12_begins_38 (fun E M9 hx => kz_Tout rfl (Nat.le_refl _) (Nat.le_refl _) hx) (kz_Cmono (fun v M7 h => ?_) (fun _ _ h => h) h)
    obtain ⟨rfl, h⟩ := h
    show kz_Z G (d + 1) 0 0 mX12_begins Qr Qx 41 [(0, .ref x0), (1, .int x1)] [] M7 0 0
    refine kz_aload_n (pc := 41) 0 (v := .ref x0) (i := 0) rfl rfl rfl dX12_begins_41 ?_
    refine kz_iconst (pc := 42) (v := 3) (by decide) dX12_begins_42 ?_
    refine kz_iconst (pc := 43) (v := 2) (by decide) dX12_begins_43 ?_
    obtain ⟨⟨fs37, he⟩, h⟩ := h
    refine kz_callV (pc := 44) (μ' := mX12_sets) (ci := 11) (q := (RX12, TX12, 32)) (b := x0) (d' := d + 0) (mc' := 0) (ms' := 0) (As := [.int 3, .int 2]) (st := []) (c := 0) (sl := 0) kmX12_sets kw_1374 (by omega) rfl (Nat.le_of_ble_eq_true rfl) he rfl rfl (Nat.le_refl _) (Nat.le_refl _) dX12_begins_44 (fun E M9 hx => kz_Tout rfl (Nat.le_refl _) (Nat.le_refl _) hx) (kz_Cmono (fun v M10 h => ?_) (fun _ _ h => h) h)
    obtain ⟨rfl, h⟩ := h
    show kz_Z G (d + 1) 0 0 mX12_begins Qr Qx 47 [(0, .ref x0), (1, .int x1)] [] M10 0 0
    refine kz_aload_n (pc := 47) 0 (v := .ref x0) (i := 0) rfl rfl rfl dX12_begins_47 ?_
    refine kz_iconst (pc := 48) (v := 4) (by decide) dX12_begins_48 ?_
    refine kz_bipush (pc := 49) (v := 7) (by decide) dX12_begins_49 ?_
    obtain ⟨⟨fs36, he⟩, h⟩ := h
    refine kz_callV (pc := 51) (μ' := mX12_sets) (ci := 11) (q := (RX12, TX12, 32)) (b := x0) (d' := d + 0) (mc' := 0) (ms' := 0) (As := [.int 4, .int 7]) (st := []) (c := 0) (sl := 0) kmX12_sets kw_1374 (by omega) rfl (Nat.le_of_ble_eq_true rfl) he rfl rfl (Nat.le_refl _) (Nat.le_refl _) dX12_begins_51 (fun E M9 hx => kz_Tout rfl (Nat.le_refl _) (Nat.le_refl _) hx) (kz_Cmono (fun v M13 h => ?_) (fun _ _ h => h) h)
    obtain ⟨rfl, h⟩ := h
    show kz_Z G (d + 1) 0 0 mX12_begins Qr Qx 54 [(0, .ref x0), (1, .int x1)] [] M13 0 0
    refine kz_aload_n (pc := 54) 0 (v := .ref x0) (i := 0) rfl rfl rfl dX12_begins_54 ?_
    refine kz_iconst (pc := 55) (v := 5) (by decide) dX12_begins_55 ?_
    refine kz_iconst (pc := 56) (v := 3) (by decide) dX12_begins_56 ?_
    obtain ⟨⟨fs35, he⟩, h⟩ := h
    refine kz_callV (pc := 57) (μ' := mX12_sets) (ci := 11) (q := (RX12, TX12, 32)) (b := x0) (d' := d + 0) (mc' := 0) (ms' := 0) (As := [.int 5, .int 3]) (st := []) (c := 0) (sl := 0) kmX12_sets kw_1374 (by omega) rfl (Nat.le_of_ble_eq_true rfl) he rfl rfl (Nat.le_refl _) (Nat.le_refl _) dX12_begins_57 (fun E M9 hx => kz_Tout rfl (Nat.le_refl _) (Nat.le_refl _) hx) (kz_Cmono (fun v M16 h => ?_) (fun _ _ h => h) h)
    obtain ⟨rfl, h⟩ := h
    show kz_Z G (d + 1) 0 0 mX12_begins Qr Qx 60 [(0, .ref x0), (1, .int x1)] [] M16 0 0
    refine kz_aload_n (pc := 60) 0 (v := .ref x0) (i := 0) rfl rfl rfl dX12_begins_60 ?_
    refine kz_bipush (pc := 61) (v := 6) (by decide) dX12_begins_61 ?_
    refine kz_iconst (pc := 63) (v := 1) (by decide) dX12_begins_63 ?_
    obtain ⟨⟨fs34, he⟩, h⟩ := h
    refine kz_callV (pc := 64) (μ' := mX12_sets) (ci := 11) (q := (RX12, TX12, 32)) (b := x0) (d' := d + 0) (mc' := 0) (ms' := 0) (As := [.int 6, .int 1]) (st := []) (c := 0) (sl := 0) kmX12_sets kw_1374 (by omega) rfl (Nat.le_of_ble_eq_true rfl) he rfl rfl (Nat.le_refl _) (Nat.le_refl _) dX12_begins_64 (fun E M9 hx => kz_Tout rfl (Nat.le_refl _) (Nat.le_refl _) hx) (kz_Cmono (fun v M19 h => ?_) (fun _ _ h => h) h)
    obtain ⟨rfl, h⟩ := h
    show kz_Z G (d + 1) 0 0 mX12_begins Qr Qx 67 [(0, .ref x0), (1, .int x1)] [] M19 0 0
    refine kz_aload_n (pc := 67) 0 (v := .ref x0) (i := 0) rfl rfl rfl dX12_begins_67 ?_
    refine kz_bipush (pc := 68) (v := 7) (by decide) dX12_begins_68 ?_
    refine kz_bipush (pc := 70) (v := 10) (by decide) dX12_begins_70 ?_
    obtain ⟨⟨fs33, he⟩, h⟩ := h
    refine kz_callV (pc := 72) (μ' := mX12_sets) (ci := 11) (q := (RX12, TX12, 32)) (b := x0) (d' := d + 0) (mc' := 0) (ms' := 0) (As := [.int 7, .int 10]) (st := []) (c := 0) (sl := 0) kmX12_sets kw_1374 (by omega) rfl (Nat.le_of_ble_eq_true rfl) he rfl rfl (Nat.le_refl _) (Nat.le_refl _) dX12_begins_72 (fun E M9 hx => kz_Tout rfl (Nat.le_refl _) (Nat.le_refl _) hx) (kz_Cmono (fun v M22 h => ?_) (fun _ _ h => h) h)
    obtain ⟨rfl, h⟩ := h
    show kz_Z G (d + 1) 0 0 mX12_begins Qr Qx 75 [(0, .ref x0), (1, .int x1)] [] M22 0 0
    refine kz_aload_n (pc := 75) 0 (v := .ref x0) (i := 0) rfl rfl rfl dX12_begins_75 ?_
    refine kz_bipush (pc := 76) (v := 8) (by decide) dX12_begins_76 ?_
    refine kz_bipush (pc := 78) (v := 8) (by decide) dX12_begins_78 ?_
    obtain ⟨⟨fs32, he⟩, h⟩ := h
    refine kz_callV (pc := 80) (μ' := mX12_sets) (ci := 11) (q := (RX12, TX12, 32)) (b := x0) (d' := d + 0) (mc' := 0) (ms' := 0) (As := [.int 8, .int 8]) (st := []) (c := 0) (sl := 0) kmX12_sets kw_1374 (by omega) rfl (Nat.le_of_ble_eq_true rfl) he rfl rfl (Nat.le_refl _) (Nat.le_refl _) dX12_begins_80 (fun E M9 hx => kz_Tout rfl (Nat.le_refl _) (Nat.le_refl _) hx) (kz_Cmono (fun v M25 h => ?_) (fun _ _ h => h) h)
    obtain ⟨rfl, h⟩ := h
    show kz_Z G (d + 1) 0 0 mX12_begins Qr Qx 83 [(0, .ref x0), (1, .int x1)] [] M25 0 0
    refine kz_aload_n (pc := 83) 0 (v := .ref x0) (i := 0) rfl rfl rfl dX12_begins_83 ?_
    refine kz_bipush (pc := 84) (v := 9) (by decide) dX12_begins_84 ?_
    refine kz_iconst (pc := 86) (v := 5) (by decide) dX12_begins_86 ?_
    obtain ⟨⟨fs31, he⟩, h⟩ := h
    refine kz_callV (pc := 87) (μ' := mX12_sets) (ci := 11) (q := (RX12, TX12, 32)) (b := x0) (d' := d + 0) (mc' := 0) (ms' := 0) (As := [.int 9, .int 5]) (st := []) (c := 0) (sl := 0) kmX12_sets kw_1374 (by omega) rfl (Nat.le_of_ble_eq_true rfl) he rfl rfl (Nat.le_refl _) (Nat.le_refl _) dX12_begins_87 (fun E M9 hx => kz_Tout rfl (Nat.le_refl _) (Nat.le_refl _) hx) (kz_Cmono (fun v M28 h => ?_) (fun _ _ h => h) h)
    obtain ⟨rfl, h⟩ := h
    show kz_Z G (d + 1) 0 0 mX12_begins Qr Qx 90 [(0, .ref x0), (1, .int x1)] [] M28 0 0
    exact kz_vret (pc := 90) rfl (Nat.le_refl _) (Nat.le_refl _) dX12_begins_90 h
  · replace h := h.2 hb
    refine kz_aload_n (pc := 9) 0 (v := .ref x0) (i := 0) rfl rfl rfl dX12_begins_9 ?_
    obtain ⟨fs41, v42, hM, hv, h⟩ := h
    refine kz_getf (pc := 10) (k := 0) kcX12 hM hv (by decide) kw_1378 dX12_begins_10 ?_
    refine kz_iload_n (pc := 13) 1 (i := 1) rfl rfl dX12_begins_13 ?_
    refine kz_iconst (pc := 14) (v := 0) (by decide) dX12_begins_14 ?_
    obtain ⟨n43, f44, hM, hi, h⟩ := h
    refine kz_iast (pc := 15) hM hi dX12_begins_15 ?_
    refine kz_iinc (pc := 16) 1 (i := 1) (v := x1 + 1) (ls' := [(0, .ref x0)]) rfl (congrArg (fun z => x1 + z) (by decide)) (by decide) rfl dX12_begins_16 ?_
    refine kz_goto (pc := 19) (tgt := 2) (by decide) dX12_begins_19 ?_
    refine kz_sub [1, 0] rfl ?_
    exact h
theorem dX12_its_0 : decode cX12_its 0 = .ok (.aload_n 0, 1) := by decide +kernel
theorem dX12_its_1 : decode cX12_its 1 = .ok (.getfield 7, 3) := by decide +kernel
theorem dX12_its_4 : decode cX12_its 4 = .ok (.iconst 5, 1) := by decide +kernel
theorem dX12_its_5 : decode cX12_its 5 = .ok (.iload_n 1, 1) := by decide +kernel
theorem dX12_its_6 : decode cX12_its 6 = .ok (.iadd, 1) := by decide +kernel
theorem dX12_its_7 : decode cX12_its 7 = .ok (.iaload, 1) := by decide +kernel
theorem dX12_its_8 : decode cX12_its 8 = .ok (.ireturn, 1) := by decide +kernel
theorem rX12_its_0 {G : kz_G} {d : Nat} {Qr : Option Value → kz_M → Prop} {Qx : String → kz_M → Prop} {a0 : Nat} {p1 : Int32}  {M : kz_M} (h : ∃ fs1 v2, (M).1 a0 = some (.inl (11, fs1)) ∧ fs1[0]? = some (.ref v2) ∧ (∃ n3 f4, (M).1 v2 = some (.inr (.int, n3, .inl f4)) ∧ vp_in (5 + p1) n3 ∧ (Qr (some (.int (f4 (5 + p1).toNatClampNeg))) M))) : kz_C G d 0 0 mX12_its [.ref a0, .int p1] M Qr Qx := by
  refine kz_enter (n := 1) kmX12_its.1 (Nat.le_of_ble_eq_true rfl) (ls := [(0, .ref a0), (1, .int p1)]) rfl ?_
  refine kz_aload_n (pc := 0) 0 (v := .ref a0) (i := 0) rfl rfl rfl dX12_its_0 ?_
  obtain ⟨fs1, v2, hM, hv, h⟩ := h
  refine kz_getf (pc := 1) (k := 0) kcX12 hM hv (by decide) kw_1378 dX12_its_1 ?_
  refine kz_iconst (pc := 4) (v := 5) (by decide) dX12_its_4 ?_
  refine kz_iload_n (pc := 5) 1 (i := 1) rfl rfl dX12_its_5 ?_
  refine kz_iadd (pc := 6) dX12_its_6 ?_
  obtain ⟨n3, f4, hM, hi, h⟩ := h
  refine kz_iald (pc := 7) hM hi dX12_its_7 ?_
  exact kz_iret (pc := 8) rfl (Nat.le_refl _) (Nat.le_refl _) dX12_its_8 h
theorem dX12_sets_0 : decode cX12_sets 0 = .ok (.aload_n 0, 1) := by decide +kernel
theorem dX12_sets_1 : decode cX12_sets 1 = .ok (.getfield 7, 3) := by decide +kernel
theorem dX12_sets_4 : decode cX12_sets 4 = .ok (.iconst 5, 1) := by decide +kernel
theorem dX12_sets_5 : decode cX12_sets 5 = .ok (.iload_n 1, 1) := by decide +kernel
theorem dX12_sets_6 : decode cX12_sets 6 = .ok (.iadd, 1) := by decide +kernel
theorem dX12_sets_7 : decode cX12_sets 7 = .ok (.iload_n 2, 1) := by decide +kernel
theorem dX12_sets_8 : decode cX12_sets 8 = .ok (.iastore, 1) := by decide +kernel
theorem dX12_sets_9 : decode cX12_sets 9 = .ok (.return_, 1) := by decide +kernel
theorem rX12_sets_0 {G : kz_G} {d : Nat} {Qr : Option Value → kz_M → Prop} {Qx : String → kz_M → Prop} {a0 : Nat} {p1 : Int32} {p2 : Int32}  {M : kz_M} (h : ∃ fs1 v2, (M).1 a0 = some (.inl (11, fs1)) ∧ fs1[0]? = some (.ref v2) ∧ (∃ n3 f4, (M).1 v2 = some (.inr (.int, n3, .inl f4)) ∧ vp_in (5 + p1) n3 ∧ (Qr none (kz_up M v2 (.inr (.int, n3, .inl (upd f4 (5 + p1 : Int32).toNatClampNeg p2))))))) : kz_C G d 0 0 mX12_sets [.ref a0, .int p1, .int p2] M Qr Qx := by
  refine kz_enter (n := 2) kmX12_sets.1 (Nat.le_of_ble_eq_true rfl) (ls := [(0, .ref a0), (1, .int p1), (2, .int p2)]) rfl ?_
  refine kz_aload_n (pc := 0) 0 (v := .ref a0) (i := 0) rfl rfl rfl dX12_sets_0 ?_
  obtain ⟨fs1, v2, hM, hv, h⟩ := h
  refine kz_getf (pc := 1) (k := 0) kcX12 hM hv (by decide) kw_1378 dX12_sets_1 ?_
  refine kz_iconst (pc := 4) (v := 5) (by decide) dX12_sets_4 ?_
  refine kz_iload_n (pc := 5) 1 (i := 1) rfl rfl dX12_sets_5 ?_
  refine kz_iadd (pc := 6) dX12_sets_6 ?_
  refine kz_iload_n (pc := 7) 2 (i := 2) rfl rfl dX12_sets_7 ?_
  obtain ⟨n3, f4, hM, hi, h⟩ := h
  refine kz_iast (pc := 8) hM hi dX12_sets_8 ?_
  exact kz_vret (pc := 9) rfl (Nat.le_refl _) (Nat.le_refl _) dX12_sets_9 h
theorem dX12_leastOf_0 : decode cX12_leastOf 0 = .ok (.iload_n 0, 1) := by decide +kernel
theorem dX12_leastOf_1 : decode cX12_leastOf 1 = .ok (.tableswitch 48 0 5 #[39, 42, 44, 48, 48, 46], 39) := by decide +kernel
theorem dX12_leastOf_40 : decode cX12_leastOf 40 = .ok (.bipush 6, 2) := by decide +kernel
theorem dX12_leastOf_42 : decode cX12_leastOf 42 = .ok (.ireturn, 1) := by decide +kernel
theorem dX12_leastOf_43 : decode cX12_leastOf 43 = .ok (.iconst 2, 1) := by decide +kernel
theorem dX12_leastOf_44 : decode cX12_leastOf 44 = .ok (.ireturn, 1) := by decide +kernel
theorem dX12_leastOf_45 : decode cX12_leastOf 45 = .ok (.iconst 1, 1) := by decide +kernel
theorem dX12_leastOf_46 : decode cX12_leastOf 46 = .ok (.ireturn, 1) := by decide +kernel
theorem dX12_leastOf_47 : decode cX12_leastOf 47 = .ok (.iconst 1, 1) := by decide +kernel
theorem dX12_leastOf_48 : decode cX12_leastOf 48 = .ok (.ireturn, 1) := by decide +kernel
theorem dX12_leastOf_49 : decode cX12_leastOf 49 = .ok (.iconst 0, 1) := by decide +kernel
theorem dX12_leastOf_50 : decode cX12_leastOf 50 = .ok (.ireturn, 1) := by decide +kernel
theorem rX12_leastOf_0 {G : kz_G} {d : Nat} {Qr : Option Value → kz_M → Prop} {Qx : String → kz_M → Prop} {p0 : Int32}  {M : kz_M} (h : (p0 = 0 → Qr (some (.int 6)) M) ∧ (p0 = 1 → Qr (some (.int 2)) M) ∧ (p0 = 2 → Qr (some (.int 1)) M) ∧ (p0 = 3 → Qr (some (.int 0)) M) ∧ (p0 = 4 → Qr (some (.int 0)) M) ∧ (p0 = 5 → Qr (some (.int 1)) M) ∧ (¬ p0 = 0 → ¬ p0 = 1 → ¬ p0 = 2 → ¬ p0 = 3 → ¬ p0 = 4 → ¬ p0 = 5 → Qr (some (.int 0)) M)) : kz_C G d 0 0 mX12_leastOf [.int p0] M Qr Qx := by
  refine kz_enter (n := 1) kmX12_leastOf.1 (Nat.le_of_ble_eq_true rfl) (ls := [(0, .int p0)]) rfl ?_
  refine kz_iload_n (pc := 0) 0 (i := 0) rfl rfl dX12_leastOf_0 ?_
  by_cases hk0 : p0 = 0
  · replace h := h.1 hk0
    refine kz_tableIn (pc := 1) (off := 39) (tgt := 40) (by rw [hk0]; decide) (by rw [hk0]; decide) (by rw [hk0]; decide) (by decide) dX12_leastOf_1 ?_
    refine kz_bipush (pc := 40) (v := 6) (by decide) dX12_leastOf_40 ?_
    exact kz_iret (pc := 42) rfl (Nat.le_refl _) (Nat.le_refl _) dX12_leastOf_42 h
  by_cases hk1 : p0 = 1
  · replace h := h.2.1 hk1
    refine kz_tableIn (pc := 1) (off := 42) (tgt := 43) (by rw [hk1]; decide) (by rw [hk1]; decide) (by rw [hk1]; decide) (by decide) dX12_leastOf_1 ?_
    refine kz_iconst (pc := 43) (v := 2) (by decide) dX12_leastOf_43 ?_
    exact kz_iret (pc := 44) rfl (Nat.le_refl _) (Nat.le_refl _) dX12_leastOf_44 h
  by_cases hk2 : p0 = 2
  · replace h := h.2.2.1 hk2
    refine kz_tableIn (pc := 1) (off := 44) (tgt := 45) (by rw [hk2]; decide) (by rw [hk2]; decide) (by rw [hk2]; decide) (by decide) dX12_leastOf_1 ?_
    refine kz_iconst (pc := 45) (v := 1) (by decide) dX12_leastOf_45 ?_
    exact kz_iret (pc := 46) rfl (Nat.le_refl _) (Nat.le_refl _) dX12_leastOf_46 h
  by_cases hk3 : p0 = 3
  · replace h := h.2.2.2.1 hk3
    refine kz_tableIn (pc := 1) (off := 48) (tgt := 49) (by rw [hk3]; decide) (by rw [hk3]; decide) (by rw [hk3]; decide) (by decide) dX12_leastOf_1 ?_
    refine kz_iconst (pc := 49) (v := 0) (by decide) dX12_leastOf_49 ?_
    exact kz_iret (pc := 50) rfl (Nat.le_refl _) (Nat.le_refl _) dX12_leastOf_50 h
  by_cases hk4 : p0 = 4
  · replace h := h.2.2.2.2.1 hk4
    refine kz_tableIn (pc := 1) (off := 48) (tgt := 49) (by rw [hk4]; decide) (by rw [hk4]; decide) (by rw [hk4]; decide) (by decide) dX12_leastOf_1 ?_
    refine kz_iconst (pc := 49) (v := 0) (by decide) dX12_leastOf_49 ?_
    exact kz_iret (pc := 50) rfl (Nat.le_refl _) (Nat.le_refl _) dX12_leastOf_50 h
  by_cases hk5 : p0 = 5
  · replace h := h.2.2.2.2.2.1 hk5
    refine kz_tableIn (pc := 1) (off := 46) (tgt := 47) (by rw [hk5]; decide) (by rw [hk5]; decide) (by rw [hk5]; decide) (by decide) dX12_leastOf_1 ?_
    refine kz_iconst (pc := 47) (v := 1) (by decide) dX12_leastOf_47 ?_
    exact kz_iret (pc := 48) rfl (Nat.le_refl _) (Nat.le_refl _) dX12_leastOf_48 h
  replace h := h.2.2.2.2.2.2 hk0 hk1 hk2 hk3 hk4 hk5
  refine kz_tableOut (pc := 1) (tgt := 49) (kz_swout (lo := 0) (n := 6) (by decide) (by decide) (kz_all6 (kz_swne (by decide) hk0) (kz_swne (by decide) hk1) (kz_swne (by decide) hk2) (kz_swne (by decide) hk3) (kz_swne (by decide) hk4) (kz_swne (by decide) hk5))) (by decide) dX12_leastOf_1 ?_
  refine kz_iconst (pc := 49) (v := 0) (by decide) dX12_leastOf_49 ?_
  exact kz_iret (pc := 50) rfl (Nat.le_refl _) (Nat.le_refl _) dX12_leastOf_50 h
theorem dX12_mostOf_0 : decode cX12_mostOf 0 = .ok (.iload_n 0, 1) := by decide +kernel
theorem dX12_mostOf_1 : decode cX12_mostOf 1 = .ok (.tableswitch 51 0 5 #[39, 42, 51, 51, 45, 48], 39) := by decide +kernel
theorem dX12_mostOf_40 : decode cX12_mostOf 40 = .ok (.bipush 30, 2) := by decide +kernel
theorem dX12_mostOf_42 : decode cX12_mostOf 42 = .ok (.ireturn, 1) := by decide +kernel
theorem dX12_mostOf_43 : decode cX12_mostOf 43 = .ok (.bipush 9, 2) := by decide +kernel
theorem dX12_mostOf_45 : decode cX12_mostOf 45 = .ok (.ireturn, 1) := by decide +kernel
theorem dX12_mostOf_46 : decode cX12_mostOf 46 = .ok (.bipush 30, 2) := by decide +kernel
theorem dX12_mostOf_48 : decode cX12_mostOf 48 = .ok (.ireturn, 1) := by decide +kernel
theorem dX12_mostOf_49 : decode cX12_mostOf 49 = .ok (.bipush 9, 2) := by decide +kernel
theorem dX12_mostOf_51 : decode cX12_mostOf 51 = .ok (.ireturn, 1) := by decide +kernel
theorem dX12_mostOf_52 : decode cX12_mostOf 52 = .ok (.bipush 99, 2) := by decide +kernel
theorem dX12_mostOf_54 : decode cX12_mostOf 54 = .ok (.ireturn, 1) := by decide +kernel
theorem rX12_mostOf_0 {G : kz_G} {d : Nat} {Qr : Option Value → kz_M → Prop} {Qx : String → kz_M → Prop} {p0 : Int32}  {M : kz_M} (h : (p0 = 0 → Qr (some (.int 30)) M) ∧ (p0 = 1 → Qr (some (.int 9)) M) ∧ (p0 = 2 → Qr (some (.int 99)) M) ∧ (p0 = 3 → Qr (some (.int 99)) M) ∧ (p0 = 4 → Qr (some (.int 30)) M) ∧ (p0 = 5 → Qr (some (.int 9)) M) ∧ (¬ p0 = 0 → ¬ p0 = 1 → ¬ p0 = 2 → ¬ p0 = 3 → ¬ p0 = 4 → ¬ p0 = 5 → Qr (some (.int 99)) M)) : kz_C G d 0 0 mX12_mostOf [.int p0] M Qr Qx := by
  refine kz_enter (n := 1) kmX12_mostOf.1 (Nat.le_of_ble_eq_true rfl) (ls := [(0, .int p0)]) rfl ?_
  refine kz_iload_n (pc := 0) 0 (i := 0) rfl rfl dX12_mostOf_0 ?_
  by_cases hk0 : p0 = 0
  · replace h := h.1 hk0
    refine kz_tableIn (pc := 1) (off := 39) (tgt := 40) (by rw [hk0]; decide) (by rw [hk0]; decide) (by rw [hk0]; decide) (by decide) dX12_mostOf_1 ?_
    refine kz_bipush (pc := 40) (v := 30) (by decide) dX12_mostOf_40 ?_
    exact kz_iret (pc := 42) rfl (Nat.le_refl _) (Nat.le_refl _) dX12_mostOf_42 h
  by_cases hk1 : p0 = 1
  · replace h := h.2.1 hk1
    refine kz_tableIn (pc := 1) (off := 42) (tgt := 43) (by rw [hk1]; decide) (by rw [hk1]; decide) (by rw [hk1]; decide) (by decide) dX12_mostOf_1 ?_
    refine kz_bipush (pc := 43) (v := 9) (by decide) dX12_mostOf_43 ?_
    exact kz_iret (pc := 45) rfl (Nat.le_refl _) (Nat.le_refl _) dX12_mostOf_45 h
  by_cases hk2 : p0 = 2
  · replace h := h.2.2.1 hk2
    refine kz_tableIn (pc := 1) (off := 51) (tgt := 52) (by rw [hk2]; decide) (by rw [hk2]; decide) (by rw [hk2]; decide) (by decide) dX12_mostOf_1 ?_
    refine kz_bipush (pc := 52) (v := 99) (by decide) dX12_mostOf_52 ?_
    exact kz_iret (pc := 54) rfl (Nat.le_refl _) (Nat.le_refl _) dX12_mostOf_54 h
  by_cases hk3 : p0 = 3
  · replace h := h.2.2.2.1 hk3
    refine kz_tableIn (pc := 1) (off := 51) (tgt := 52) (by rw [hk3]; decide) (by rw [hk3]; decide) (by rw [hk3]; decide) (by decide) dX12_mostOf_1 ?_
    refine kz_bipush (pc := 52) (v := 99) (by decide) dX12_mostOf_52 ?_
    exact kz_iret (pc := 54) rfl (Nat.le_refl _) (Nat.le_refl _) dX12_mostOf_54 h
  by_cases hk4 : p0 = 4
  · replace h := h.2.2.2.2.1 hk4
    refine kz_tableIn (pc := 1) (off := 45) (tgt := 46) (by rw [hk4]; decide) (by rw [hk4]; decide) (by rw [hk4]; decide) (by decide) dX12_mostOf_1 ?_
    refine kz_bipush (pc := 46) (v := 30) (by decide) dX12_mostOf_46 ?_
    exact kz_iret (pc := 48) rfl (Nat.le_refl _) (Nat.le_refl _) dX12_mostOf_48 h
  by_cases hk5 : p0 = 5
  · replace h := h.2.2.2.2.2.1 hk5
    refine kz_tableIn (pc := 1) (off := 48) (tgt := 49) (by rw [hk5]; decide) (by rw [hk5]; decide) (by rw [hk5]; decide) (by decide) dX12_mostOf_1 ?_
    refine kz_bipush (pc := 49) (v := 9) (by decide) dX12_mostOf_49 ?_
    exact kz_iret (pc := 51) rfl (Nat.le_refl _) (Nat.le_refl _) dX12_mostOf_51 h
  replace h := h.2.2.2.2.2.2 hk0 hk1 hk2 hk3 hk4 hk5
  refine kz_tableOut (pc := 1) (tgt := 52) (kz_swout (lo := 0) (n := 6) (by decide) (by decide) (kz_all6 (kz_swne (by decide) hk0) (kz_swne (by decide) hk1) (kz_swne (by decide) hk2) (kz_swne (by decide) hk3) (kz_swne (by decide) hk4) (kz_swne (by decide) hk5))) (by decide) dX12_mostOf_1 ?_
  refine kz_bipush (pc := 52) (v := 99) (by decide) dX12_mostOf_52 ?_
  exact kz_iret (pc := 54) rfl (Nat.le_refl _) (Nat.le_refl _) dX12_mostOf_54 h
theorem dX12_mayBe_0 : decode cX12_mayBe 0 = .ok (.iload_n 0, 1) := by decide +kernel
theorem dX12_mayBe_1 : decode cX12_mayBe 1 = .ok (.iconst 0, 1) := by decide +kernel
theorem dX12_mayBe_2 : decode cX12_mayBe 2 = .ok (.bipush 9, 2) := by decide +kernel
theorem dX12_mayBe_4 : decode cX12_mayBe 4 = .ok (.invokestatic 67, 3) := by decide +kernel
theorem dX12_mayBe_7 : decode cX12_mayBe 7 = .ok (.ifCond .eq 22, 3) := by decide +kernel
theorem dX12_mayBe_10 : decode cX12_mayBe 10 = .ok (.iload_n 1, 1) := by decide +kernel
theorem dX12_mayBe_11 : decode cX12_mayBe 11 = .ok (.iload_n 0, 1) := by decide +kernel
theorem dX12_mayBe_12 : decode cX12_mayBe 12 = .ok (.invokestatic 71, 3) := by decide +kernel
theorem dX12_mayBe_15 : decode cX12_mayBe 15 = .ok (.iload_n 0, 1) := by decide +kernel
theorem dX12_mayBe_16 : decode cX12_mayBe 16 = .ok (.invokestatic 75, 3) := by decide +kernel
theorem dX12_mayBe_19 : decode cX12_mayBe 19 = .ok (.invokestatic 67, 3) := by decide +kernel
theorem dX12_mayBe_22 : decode cX12_mayBe 22 = .ok (.ifCond .eq 7, 3) := by decide +kernel
theorem dX12_mayBe_25 : decode cX12_mayBe 25 = .ok (.iconst 1, 1) := by decide +kernel
theorem dX12_mayBe_26 : decode cX12_mayBe 26 = .ok (.goto 4, 3) := by decide +kernel
theorem dX12_mayBe_29 : decode cX12_mayBe 29 = .ok (.iconst 0, 1) := by decide +kernel
theorem dX12_mayBe_30 : decode cX12_mayBe 30 = .ok (.ireturn, 1) := by decide +kernel
theorem rX12_mayBe_0 {G : kz_G} {d : Nat} {Qr : Option Value → kz_M → Prop} {Qx : String → kz_M → Prop} {p0 : Int32} {p1 : Int32}  {M : kz_M} (h : kz_C G (d + 0) 0 0 mX12_inRange [.int p0, .int 0, .int 9] M (fun v M1 => ∃ r2 : Int32, v = some (.int r2) ∧ ((r2 = 0 → Qr (some (.int 0)) M1) ∧ (¬ r2 = 0 → kz_C G (d + 0) 0 0 mX12_leastOf [.int p0] M1 (fun v M4 => ∃ r5 : Int32, v = some (.int r5) ∧ (kz_C G (d + 0) 0 0 mX12_mostOf [.int p0] M4 (fun v M7 => ∃ r8 : Int32, v = some (.int r8) ∧ (kz_C G (d + 0) 0 0 mX12_inRange [.int p1, .int r5, .int r8] M7 (fun v M10 => ∃ r11 : Int32, v = some (.int r11) ∧ ((r11 = 0 → Qr (some (.int 0)) M10) ∧ (¬ r11 = 0 → Qr (some (.int 1)) M10))) Qx)) Qx)) Qx))) Qx) : kz_C G (d + 1) 0 0 mX12_mayBe [.int p0, .int p1] M Qr Qx := by
  refine kz_enter (n := 2) kmX12_mayBe.1 (Nat.le_of_ble_eq_true rfl) (ls := [(0, .int p0), (1, .int p1)]) rfl ?_
  refine kz_iload_n (pc := 0) 0 (i := 0) rfl rfl dX12_mayBe_0 ?_
  refine kz_iconst (pc := 1) (v := 0) (by decide) dX12_mayBe_1 ?_
  refine kz_bipush (pc := 2) (v := 9) (by decide) dX12_mayBe_2 ?_
  refine kz_callS (pc := 4) (μ' := mX12_inRange) (d' := d + 0) (mc' := 0) (ms' := 0) (As := [.int p0, .int 0, .int 9]) (st := []) (c := 0) (sl := 0) kmX12_inRange kw_1491 (by omega) rfl (Nat.le_of_ble_eq_true rfl) (Nat.le_refl _) (Nat.le_refl _) dX12_mayBe_4 (fun E M9 hx => kz_Tout rfl (Nat.le_refl _) (Nat.le_refl _) hx) (kz_Cmono (fun v M1 h => ?_) (fun _ _ h => h) h)
  obtain ⟨r2, rfl, h⟩ := h
  show kz_Z G (d + 1) 0 0 mX12_mayBe Qr Qx 7 [(0, .int p0), (1, .int p1)] [.int r2] M1 0 0
  refine kz_if_eq (pc := 7) (tgt := 29) (by decide) dX12_mayBe_7 (fun hb => ?_) (fun hb => ?_)
  · replace h := h.1 hb
    refine kz_iconst (pc := 29) (v := 0) (by decide) dX12_mayBe_29 ?_
    exact kz_zret (pc := 30) (ty := .boolean) rfl (by decide) (Nat.le_refl _) (Nat.le_refl _) dX12_mayBe_30 h
  · replace h := h.2 hb
    refine kz_iload_n (pc := 10) 1 (i := 1) rfl rfl dX12_mayBe_10 ?_
    refine kz_iload_n (pc := 11) 0 (i := 0) rfl rfl dX12_mayBe_11 ?_
    refine kz_callS (pc := 12) (μ' := mX12_leastOf) (d' := d + 0) (mc' := 0) (ms' := 0) (As := [.int p0]) (st := [.int p1]) (c := 0) (sl := 0) kmX12_leastOf kw_1594 (by omega) rfl (Nat.le_of_ble_eq_true rfl) (Nat.le_refl _) (Nat.le_refl _) dX12_mayBe_12 (fun E M9 hx => kz_Tout rfl (Nat.le_refl _) (Nat.le_refl _) hx) (kz_Cmono (fun v M4 h => ?_) (fun _ _ h => h) h)
    obtain ⟨r5, rfl, h⟩ := h
    show kz_Z G (d + 1) 0 0 mX12_mayBe Qr Qx 15 [(0, .int p0), (1, .int p1)] [.int r5, .int p1] M4 0 0
    refine kz_iload_n (pc := 15) 0 (i := 0) rfl rfl dX12_mayBe_15 ?_
    refine kz_callS (pc := 16) (μ' := mX12_mostOf) (d' := d + 0) (mc' := 0) (ms' := 0) (As := [.int p0]) (st := [.int r5, .int p1]) (c := 0) (sl := 0) kmX12_mostOf kw_1597 (by omega) rfl (Nat.le_of_ble_eq_true rfl) (Nat.le_refl _) (Nat.le_refl _) dX12_mayBe_16 (fun E M9 hx => kz_Tout rfl (Nat.le_refl _) (Nat.le_refl _) hx) (kz_Cmono (fun v M7 h => ?_) (fun _ _ h => h) h)
    obtain ⟨r8, rfl, h⟩ := h
    show kz_Z G (d + 1) 0 0 mX12_mayBe Qr Qx 19 [(0, .int p0), (1, .int p1)] [.int r8, .int r5, .int p1] M7 0 0
    refine kz_callS (pc := 19) (μ' := mX12_inRange) (d' := d + 0) (mc' := 0) (ms' := 0) (As := [.int p1, .int r5, .int r8]) (st := []) (c := 0) (sl := 0) kmX12_inRange kw_1491 (by omega) rfl (Nat.le_of_ble_eq_true rfl) (Nat.le_refl _) (Nat.le_refl _) dX12_mayBe_19 (fun E M9 hx => kz_Tout rfl (Nat.le_refl _) (Nat.le_refl _) hx) (kz_Cmono (fun v M10 h => ?_) (fun _ _ h => h) h)
    obtain ⟨r11, rfl, h⟩ := h
    show kz_Z G (d + 1) 0 0 mX12_mayBe Qr Qx 22 [(0, .int p0), (1, .int p1)] [.int r11] M10 0 0
    refine kz_if_eq (pc := 22) (tgt := 29) (by decide) dX12_mayBe_22 (fun hb => ?_) (fun hb => ?_)
    · replace h := h.1 hb
      refine kz_iconst (pc := 29) (v := 0) (by decide) dX12_mayBe_29 ?_
      exact kz_zret (pc := 30) (ty := .boolean) rfl (by decide) (Nat.le_refl _) (Nat.le_refl _) dX12_mayBe_30 h
    · replace h := h.2 hb
      refine kz_iconst (pc := 25) (v := 1) (by decide) dX12_mayBe_25 ?_
      refine kz_goto (pc := 26) (tgt := 30) (by decide) dX12_mayBe_26 ?_
      exact kz_zret (pc := 30) (ty := .boolean) rfl (by decide) (Nat.le_refl _) (Nat.le_refl _) dX12_mayBe_30 h
theorem dX12_remembers_0 : decode cX12_remembers 0 = .ok (.aload_n 0, 1) := by decide +kernel
theorem dX12_remembers_1 : decode cX12_remembers 1 = .ok (.getfield 78, 3) := by decide +kernel
theorem dX12_remembers_4 : decode cX12_remembers 4 = .ok (.bipush 8, 2) := by decide +kernel
theorem dX12_remembers_6 : decode cX12_remembers 6 = .ok (.if_icmp .ne 49, 3) := by decide +kernel
theorem dX12_remembers_9 : decode cX12_remembers 9 = .ok (.aload_n 0, 1) := by decide +kernel
theorem dX12_remembers_10 : decode cX12_remembers 10 = .ok (.getfield 19, 3) := by decide +kernel
theorem dX12_remembers_13 : decode cX12_remembers 13 = .ok (.sipush 3813, 3) := by decide +kernel
theorem dX12_remembers_16 : decode cX12_remembers 16 = .ok (.aload_n 0, 1) := by decide +kernel
theorem dX12_remembers_17 : decode cX12_remembers 17 = .ok (.getfield 19, 3) := by decide +kernel
theorem dX12_remembers_20 : decode cX12_remembers 20 = .ok (.iconst 0, 1) := by decide +kernel
theorem dX12_remembers_21 : decode cX12_remembers 21 = .ok (.sipush 26691, 3) := by decide +kernel
theorem dX12_remembers_24 : decode cX12_remembers 24 = .ok (.invokestatic 81, 3) := by decide +kernel
theorem dX12_remembers_27 : decode cX12_remembers 27 = .ok (.aload_n 0, 1) := by decide +kernel
theorem dX12_remembers_28 : decode cX12_remembers 28 = .ok (.getfield 29, 3) := by decide +kernel
theorem dX12_remembers_31 : decode cX12_remembers 31 = .ok (.sipush 732, 3) := by decide +kernel
theorem dX12_remembers_34 : decode cX12_remembers 34 = .ok (.aload_n 0, 1) := by decide +kernel
theorem dX12_remembers_35 : decode cX12_remembers 35 = .ok (.getfield 29, 3) := by decide +kernel
theorem dX12_remembers_38 : decode cX12_remembers 38 = .ok (.iconst 0, 1) := by decide +kernel
theorem dX12_remembers_39 : decode cX12_remembers 39 = .ok (.sipush 5124, 3) := by decide +kernel
theorem dX12_remembers_42 : decode cX12_remembers 42 = .ok (.invokestatic 85, 3) := by decide +kernel
theorem dX12_remembers_45 : decode cX12_remembers 45 = .ok (.aload_n 0, 1) := by decide +kernel
theorem dX12_remembers_46 : decode cX12_remembers 46 = .ok (.dup, 1) := by decide +kernel
theorem dX12_remembers_47 : decode cX12_remembers 47 = .ok (.getfield 78, 3) := by decide +kernel
theorem dX12_remembers_50 : decode cX12_remembers 50 = .ok (.iconst 1, 1) := by decide +kernel
theorem dX12_remembers_51 : decode cX12_remembers 51 = .ok (.isub, 1) := by decide +kernel
theorem dX12_remembers_52 : decode cX12_remembers 52 = .ok (.putfield 78, 3) := by decide +kernel
theorem dX12_remembers_55 : decode cX12_remembers 55 = .ok (.aload_n 0, 1) := by decide +kernel
theorem dX12_remembers_56 : decode cX12_remembers 56 = .ok (.getfield 7, 3) := by decide +kernel
theorem dX12_remembers_59 : decode cX12_remembers 59 = .ok (.iconst 0, 1) := by decide +kernel
theorem dX12_remembers_60 : decode cX12_remembers 60 = .ok (.aload_n 0, 1) := by decide +kernel
theorem dX12_remembers_61 : decode cX12_remembers 61 = .ok (.getfield 19, 3) := by decide +kernel
theorem dX12_remembers_64 : decode cX12_remembers 64 = .ok (.sipush 3813, 3) := by decide +kernel
theorem dX12_remembers_67 : decode cX12_remembers 67 = .ok (.aload_n 0, 1) := by decide +kernel
theorem dX12_remembers_68 : decode cX12_remembers 68 = .ok (.getfield 78, 3) := by decide +kernel
theorem dX12_remembers_71 : decode cX12_remembers 71 = .ok (.imul, 1) := by decide +kernel
theorem dX12_remembers_72 : decode cX12_remembers 72 = .ok (.sipush 3813, 3) := by decide +kernel
theorem dX12_remembers_75 : decode cX12_remembers 75 = .ok (.invokestatic 81, 3) := by decide +kernel
theorem dX12_remembers_78 : decode cX12_remembers 78 = .ok (.aload_n 0, 1) := by decide +kernel
theorem dX12_remembers_79 : decode cX12_remembers 79 = .ok (.getfield 22, 3) := by decide +kernel
theorem dX12_remembers_82 : decode cX12_remembers 82 = .ok (.iconst 0, 1) := by decide +kernel
theorem dX12_remembers_83 : decode cX12_remembers 83 = .ok (.aload_n 0, 1) := by decide +kernel
theorem dX12_remembers_84 : decode cX12_remembers 84 = .ok (.getfield 29, 3) := by decide +kernel
theorem dX12_remembers_87 : decode cX12_remembers 87 = .ok (.sipush 732, 3) := by decide +kernel
theorem dX12_remembers_90 : decode cX12_remembers 90 = .ok (.aload_n 0, 1) := by decide +kernel
theorem dX12_remembers_91 : decode cX12_remembers 91 = .ok (.getfield 78, 3) := by decide +kernel
theorem dX12_remembers_94 : decode cX12_remembers 94 = .ok (.imul, 1) := by decide +kernel
theorem dX12_remembers_95 : decode cX12_remembers 95 = .ok (.sipush 732, 3) := by decide +kernel
theorem dX12_remembers_98 : decode cX12_remembers 98 = .ok (.invokestatic 85, 3) := by decide +kernel
theorem dX12_remembers_101 : decode cX12_remembers 101 = .ok (.aload_n 0, 1) := by decide +kernel
theorem dX12_remembers_102 : decode cX12_remembers 102 = .ok (.dup, 1) := by decide +kernel
theorem dX12_remembers_103 : decode cX12_remembers 103 = .ok (.getfield 78, 3) := by decide +kernel
theorem dX12_remembers_106 : decode cX12_remembers 106 = .ok (.iconst 1, 1) := by decide +kernel
theorem dX12_remembers_107 : decode cX12_remembers 107 = .ok (.iadd, 1) := by decide +kernel
theorem dX12_remembers_108 : decode cX12_remembers 108 = .ok (.putfield 78, 3) := by decide +kernel
theorem dX12_remembers_111 : decode cX12_remembers 111 = .ok (.return_, 1) := by decide +kernel
theorem rX12_remembers_0 {G : kz_G} {d : Nat} {Qr : Option Value → kz_M → Prop} {Qx : String → kz_M → Prop} {a0 : Nat}  {M : kz_M} (h : ∃ fs1 v2, (M).1 a0 = some (.inl (11, fs1)) ∧ fs1[7]? = some (.int v2) ∧ ((¬ v2 = (8 : Int32) → ∃ fs3 v4, (M).1 a0 = some (.inl (11, fs3)) ∧ fs3[0]? = some (.ref v4) ∧ (∃ fs5 v6, (M).1 a0 = some (.inl (11, fs5)) ∧ fs5[3]? = some (.ref v6) ∧ (∃ fs7 v8, (M).1 a0 = some (.inl (11, fs7)) ∧ fs7[7]? = some (.int v8) ∧ (kz_C G (d + 0) 0 0 mX12_copies [.ref v4, .int 0, .ref v6, .int (3813 * v8), .int 3813] M (fun v M9 => v = none ∧ (∃ fs12 v13, (M9).1 a0 = some (.inl (11, fs12)) ∧ fs12[4]? = some (.ref v13) ∧ (∃ fs14 v15, (M9).1 a0 = some (.inl (11, fs14)) ∧ fs14[6]? = some (.ref v15) ∧ (∃ fs16 v17, (M9).1 a0 = some (.inl (11, fs16)) ∧ fs16[7]? = some (.int v17) ∧ (kz_C G (d + 0) 0 0 mX12_copiesWords [.ref v13, .int 0, .ref v15, .int (732 * v17), .int 732] M9 (fun v M18 => v = none ∧ (∃ fs21 v22, (M18).1 a0 = some (.inl (11, fs21)) ∧ fs21[7]? = some (.int v22) ∧ (∃ fs23, (M18).1 a0 = some (.inl (11, fs23)) ∧ 7 < fs23.length ∧ (Qr none (kz_up M18 a0 (.inl (11, fs23.set 7 (.int (v22 + 1))))))))) Qx))))) Qx)))) ∧ (v2 = (8 : Int32) → ∃ fs26 v27, (M).1 a0 = some (.inl (11, fs26)) ∧ fs26[3]? = some (.ref v27) ∧ (∃ fs28 v29, (M).1 a0 = some (.inl (11, fs28)) ∧ fs28[3]? = some (.ref v29) ∧ (kz_C G (d + 0) 0 0 mX12_copies [.ref v27, .int 3813, .ref v29, .int 0, .int 26691] M (fun v M30 => v = none ∧ (∃ fs33 v34, (M30).1 a0 = some (.inl (11, fs33)) ∧ fs33[6]? = some (.ref v34) ∧ (∃ fs35 v36, (M30).1 a0 = some (.inl (11, fs35)) ∧ fs35[6]? = some (.ref v36) ∧ (kz_C G (d + 0) 0 0 mX12_copiesWords [.ref v34, .int 732, .ref v36, .int 0, .int 5124] M30 (fun v M37 => v = none ∧ (∃ fs40 v41, (M37).1 a0 = some (.inl (11, fs40)) ∧ fs40[7]? = some (.int v41) ∧ (∃ fs42, (M37).1 a0 = some (.inl (11, fs42)) ∧ 7 < fs42.length ∧ (∃ fs43 v44, ((kz_up M37 a0 (.inl (11, fs42.set 7 (.int (v41 - 1)))))).1 a0 = some (.inl (11, fs43)) ∧ fs43[0]? = some (.ref v44) ∧ (∃ fs45 v46, ((kz_up M37 a0 (.inl (11, fs42.set 7 (.int (v41 - 1)))))).1 a0 = some (.inl (11, fs45)) ∧ fs45[3]? = some (.ref v46) ∧ (∃ fs47 v48, ((kz_up M37 a0 (.inl (11, fs42.set 7 (.int (v41 - 1)))))).1 a0 = some (.inl (11, fs47)) ∧ fs47[7]? = some (.int v48) ∧ (kz_C G (d + 0) 0 0 mX12_copies [.ref v44, .int 0, .ref v46, .int (3813 * v48), .int 3813] (kz_up M37 a0 (.inl (11, fs42.set 7 (.int (v41 - 1))))) (fun v M49 => v = none ∧ (∃ fs52 v53, (M49).1 a0 = some (.inl (11, fs52)) ∧ fs52[4]? = some (.ref v53) ∧ (∃ fs54 v55, (M49).1 a0 = some (.inl (11, fs54)) ∧ fs54[6]? = some (.ref v55) ∧ (∃ fs56 v57, (M49).1 a0 = some (.inl (11, fs56)) ∧ fs56[7]? = some (.int v57) ∧ (kz_C G (d + 0) 0 0 mX12_copiesWords [.ref v53, .int 0, .ref v55, .int (732 * v57), .int 732] M49 (fun v M58 => v = none ∧ (∃ fs61 v62, (M58).1 a0 = some (.inl (11, fs61)) ∧ fs61[7]? = some (.int v62) ∧ (∃ fs63, (M58).1 a0 = some (.inl (11, fs63)) ∧ 7 < fs63.length ∧ (Qr none (kz_up M58 a0 (.inl (11, fs63.set 7 (.int (v62 + 1))))))))) Qx))))) Qx))))))) Qx)))) Qx))))) : kz_C G (d + 1) 0 0 mX12_remembers [.ref a0] M Qr Qx := by
  refine kz_enter (n := 0) kmX12_remembers.1 (Nat.le_of_ble_eq_true rfl) (ls := [(0, .ref a0)]) rfl ?_
  refine kz_aload_n (pc := 0) 0 (v := .ref a0) (i := 0) rfl rfl rfl dX12_remembers_0 ?_
  obtain ⟨fs1, v2, hM, hv, h⟩ := h
  refine kz_getf (pc := 1) (k := 7) kcX12 hM hv (by decide) kw_1385 dX12_remembers_1 ?_
  refine kz_bipush (pc := 4) (v := 8) (by decide) dX12_remembers_4 ?_
  refine kz_icmp_ne (pc := 6) (tgt := 55) (by decide) dX12_remembers_6 (fun hb => ?_) (fun hb => ?_)
  · replace h := h.1 hb
    refine kz_aload_n (pc := 55) 0 (v := .ref a0) (i := 0) rfl rfl rfl dX12_remembers_55 ?_
    obtain ⟨fs3, v4, hM, hv, h⟩ := h
    refine kz_getf (pc := 56) (k := 0) kcX12 hM hv (by decide) kw_1378 dX12_remembers_56 ?_
    refine kz_iconst (pc := 59) (v := 0) (by decide) dX12_remembers_59 ?_
    refine kz_aload_n (pc := 60) 0 (v := .ref a0) (i := 0) rfl rfl rfl dX12_remembers_60 ?_
    obtain ⟨fs5, v6, hM, hv, h⟩ := h
    refine kz_getf (pc := 61) (k := 3) kcX12 hM hv (by decide) kw_1381 dX12_remembers_61 ?_
    refine kz_sipush (pc := 64) (v := 3813) (by decide) dX12_remembers_64 ?_
    refine kz_aload_n (pc := 67) 0 (v := .ref a0) (i := 0) rfl rfl rfl dX12_remembers_67 ?_
    obtain ⟨fs7, v8, hM, hv, h⟩ := h
    refine kz_getf (pc := 68) (k := 7) kcX12 hM hv (by decide) kw_1385 dX12_remembers_68 ?_
    refine kz_imul (pc := 71) dX12_remembers_71 ?_
    refine kz_sipush (pc := 72) (v := 3813) (by decide) dX12_remembers_72 ?_
    refine kz_callS (pc := 75) (μ' := mX12_copies) (d' := d + 0) (mc' := 0) (ms' := 0) (As := [.ref v4, .int 0, .ref v6, .int (3813 * v8), .int 3813]) (st := []) (c := 0) (sl := 0) kmX12_copies kw_1498 (by omega) rfl (Nat.le_of_ble_eq_true rfl) (Nat.le_refl _) (Nat.le_refl _) dX12_remembers_75 (fun E M9 hx => kz_Tout rfl (Nat.le_refl _) (Nat.le_refl _) hx) (kz_Cmono (fun v M9 h => ?_) (fun _ _ h => h) h)
    obtain ⟨rfl, h⟩ := h
    show kz_Z G (d + 1) 0 0 mX12_remembers Qr Qx 78 [(0, .ref a0)] [] M9 0 0
    refine kz_aload_n (pc := 78) 0 (v := .ref a0) (i := 0) rfl rfl rfl dX12_remembers_78 ?_
    obtain ⟨fs12, v13, hM, hv, h⟩ := h
    refine kz_getf (pc := 79) (k := 4) kcX12 hM hv (by decide) kw_1382 dX12_remembers_79 ?_
    refine kz_iconst (pc := 82) (v := 0) (by decide) dX12_remembers_82 ?_
    refine kz_aload_n (pc := 83) 0 (v := .ref a0) (i := 0) rfl rfl rfl dX12_remembers_83 ?_
    obtain ⟨fs14, v15, hM, hv, h⟩ := h
    refine kz_getf (pc := 84) (k := 6) kcX12 hM hv (by decide) kw_1384 dX12_remembers_84 ?_
    refine kz_sipush (pc := 87) (v := 732) (by decide) dX12_remembers_87 ?_
    refine kz_aload_n (pc := 90) 0 (v := .ref a0) (i := 0) rfl rfl rfl dX12_remembers_90 ?_
    obtain ⟨fs16, v17, hM, hv, h⟩ := h
    refine kz_getf (pc := 91) (k := 7) kcX12 hM hv (by decide) kw_1385 dX12_remembers_91 ?_
    refine kz_imul (pc := 94) dX12_remembers_94 ?_
    refine kz_sipush (pc := 95) (v := 732) (by decide) dX12_remembers_95 ?_
    refine kz_callS (pc := 98) (μ' := mX12_copiesWords) (d' := d + 0) (mc' := 0) (ms' := 0) (As := [.ref v13, .int 0, .ref v15, .int (732 * v17), .int 732]) (st := []) (c := 0) (sl := 0) kmX12_copiesWords kw_1824 (by omega) rfl (Nat.le_of_ble_eq_true rfl) (Nat.le_refl _) (Nat.le_refl _) dX12_remembers_98 (fun E M9 hx => kz_Tout rfl (Nat.le_refl _) (Nat.le_refl _) hx) (kz_Cmono (fun v M18 h => ?_) (fun _ _ h => h) h)
    obtain ⟨rfl, h⟩ := h
    show kz_Z G (d + 1) 0 0 mX12_remembers Qr Qx 101 [(0, .ref a0)] [] M18 0 0
    refine kz_aload_n (pc := 101) 0 (v := .ref a0) (i := 0) rfl rfl rfl dX12_remembers_101 ?_
    refine kz_dup (pc := 102) rfl dX12_remembers_102 ?_
    obtain ⟨fs21, v22, hM, hv, h⟩ := h
    refine kz_getf (pc := 103) (k := 7) kcX12 hM hv (by decide) kw_1385 dX12_remembers_103 ?_
    refine kz_iconst (pc := 106) (v := 1) (by decide) dX12_remembers_106 ?_
    refine kz_iadd (pc := 107) dX12_remembers_107 ?_
    obtain ⟨fs23, hM, hlen, h⟩ := h
    refine kz_putf (pc := 108) (k := 7) kcX12 hM (by decide) hlen kw_1385 rfl rfl rfl dX12_remembers_108 ?_
    exact kz_vret (pc := 111) rfl (Nat.le_refl _) (Nat.le_refl _) dX12_remembers_111 h
  · replace h := h.2 hb
    refine kz_aload_n (pc := 9) 0 (v := .ref a0) (i := 0) rfl rfl rfl dX12_remembers_9 ?_
    obtain ⟨fs26, v27, hM, hv, h⟩ := h
    refine kz_getf (pc := 10) (k := 3) kcX12 hM hv (by decide) kw_1381 dX12_remembers_10 ?_
    refine kz_sipush (pc := 13) (v := 3813) (by decide) dX12_remembers_13 ?_
    refine kz_aload_n (pc := 16) 0 (v := .ref a0) (i := 0) rfl rfl rfl dX12_remembers_16 ?_
    obtain ⟨fs28, v29, hM, hv, h⟩ := h
    refine kz_getf (pc := 17) (k := 3) kcX12 hM hv (by decide) kw_1381 dX12_remembers_17 ?_
    refine kz_iconst (pc := 20) (v := 0) (by decide) dX12_remembers_20 ?_
    refine kz_sipush (pc := 21) (v := 26691) (by decide) dX12_remembers_21 ?_
    refine kz_callS (pc := 24) (μ' := mX12_copies) (d' := d + 0) (mc' := 0) (ms' := 0) (As := [.ref v27, .int 3813, .ref v29, .int 0, .int 26691]) (st := []) (c := 0) (sl := 0) kmX12_copies kw_1498 (by omega) rfl (Nat.le_of_ble_eq_true rfl) (Nat.le_refl _) (Nat.le_refl _) dX12_remembers_24 (fun E M9 hx => kz_Tout rfl (Nat.le_refl _) (Nat.le_refl _) hx) (kz_Cmono (fun v M30 h => ?_) (fun _ _ h => h) h)
    obtain ⟨rfl, h⟩ := h
    show kz_Z G (d + 1) 0 0 mX12_remembers Qr Qx 27 [(0, .ref a0)] [] M30 0 0
    refine kz_aload_n (pc := 27) 0 (v := .ref a0) (i := 0) rfl rfl rfl dX12_remembers_27 ?_
    obtain ⟨fs33, v34, hM, hv, h⟩ := h
    refine kz_getf (pc := 28) (k := 6) kcX12 hM hv (by decide) kw_1384 dX12_remembers_28 ?_
    refine kz_sipush (pc := 31) (v := 732) (by decide) dX12_remembers_31 ?_
    refine kz_aload_n (pc := 34) 0 (v := .ref a0) (i := 0) rfl rfl rfl dX12_remembers_34 ?_
    obtain ⟨fs35, v36, hM, hv, h⟩ := h
    refine kz_getf (pc := 35) (k := 6) kcX12 hM hv (by decide) kw_1384 dX12_remembers_35 ?_
    refine kz_iconst (pc := 38) (v := 0) (by decide) dX12_remembers_38 ?_
    refine kz_sipush (pc := 39) (v := 5124) (by decide) dX12_remembers_39 ?_
    refine kz_callS (pc := 42) (μ' := mX12_copiesWords) (d' := d + 0) (mc' := 0) (ms' := 0) (As := [.ref v34, .int 732, .ref v36, .int 0, .int 5124]) (st := []) (c := 0) (sl := 0) kmX12_copiesWords kw_1824 (by omega) rfl (Nat.le_of_ble_eq_true rfl) (Nat.le_refl _) (Nat.le_refl _) dX12_remembers_42 (fun E M9 hx => kz_Tout rfl (Nat.le_refl _) (Nat.le_refl _) hx) (kz_Cmono (fun v M37 h => ?_) (fun _ _ h => h) h)
    obtain ⟨rfl, h⟩ := h
    show kz_Z G (d + 1) 0 0 mX12_remembers Qr Qx 45 [(0, .ref a0)] [] M37 0 0
    refine kz_aload_n (pc := 45) 0 (v := .ref a0) (i := 0) rfl rfl rfl dX12_remembers_45 ?_
    refine kz_dup (pc := 46) rfl dX12_remembers_46 ?_
    obtain ⟨fs40, v41, hM, hv, h⟩ := h
    refine kz_getf (pc := 47) (k := 7) kcX12 hM hv (by decide) kw_1385 dX12_remembers_47 ?_
    refine kz_iconst (pc := 50) (v := 1) (by decide) dX12_remembers_50 ?_
    refine kz_isub (pc := 51) dX12_remembers_51 ?_
    obtain ⟨fs42, hM, hlen, h⟩ := h
    refine kz_putf (pc := 52) (k := 7) kcX12 hM (by decide) hlen kw_1385 rfl rfl rfl dX12_remembers_52 ?_
    refine kz_aload_n (pc := 55) 0 (v := .ref a0) (i := 0) rfl rfl rfl dX12_remembers_55 ?_
    obtain ⟨fs43, v44, hM, hv, h⟩ := h
    refine kz_getf (pc := 56) (k := 0) kcX12 hM hv (by decide) kw_1378 dX12_remembers_56 ?_
    refine kz_iconst (pc := 59) (v := 0) (by decide) dX12_remembers_59 ?_
    refine kz_aload_n (pc := 60) 0 (v := .ref a0) (i := 0) rfl rfl rfl dX12_remembers_60 ?_
    obtain ⟨fs45, v46, hM, hv, h⟩ := h
    refine kz_getf (pc := 61) (k := 3) kcX12 hM hv (by decide) kw_1381 dX12_remembers_61 ?_
    refine kz_sipush (pc := 64) (v := 3813) (by decide) dX12_remembers_64 ?_
    refine kz_aload_n (pc := 67) 0 (v := .ref a0) (i := 0) rfl rfl rfl dX12_remembers_67 ?_
    obtain ⟨fs47, v48, hM, hv, h⟩ := h
    refine kz_getf (pc := 68) (k := 7) kcX12 hM hv (by decide) kw_1385 dX12_remembers_68 ?_
    refine kz_imul (pc := 71) dX12_remembers_71 ?_
    refine kz_sipush (pc := 72) (v := 3813) (by decide) dX12_remembers_72 ?_
    refine kz_callS (pc := 75) (μ' := mX12_copies) (d' := d + 0) (mc' := 0) (ms' := 0) (As := [.ref v44, .int 0, .ref v46, .int (3813 * v48), .int 3813]) (st := []) (c := 0) (sl := 0) kmX12_copies kw_1498 (by omega) rfl (Nat.le_of_ble_eq_true rfl) (Nat.le_refl _) (Nat.le_refl _) dX12_remembers_75 (fun E M9 hx => kz_Tout rfl (Nat.le_refl _) (Nat.le_refl _) hx) (kz_Cmono (fun v M49 h => ?_) (fun _ _ h => h) h)
    obtain ⟨rfl, h⟩ := h
    show kz_Z G (d + 1) 0 0 mX12_remembers Qr Qx 78 [(0, .ref a0)] [] M49 0 0
    refine kz_aload_n (pc := 78) 0 (v := .ref a0) (i := 0) rfl rfl rfl dX12_remembers_78 ?_
    obtain ⟨fs52, v53, hM, hv, h⟩ := h
    refine kz_getf (pc := 79) (k := 4) kcX12 hM hv (by decide) kw_1382 dX12_remembers_79 ?_
    refine kz_iconst (pc := 82) (v := 0) (by decide) dX12_remembers_82 ?_
    refine kz_aload_n (pc := 83) 0 (v := .ref a0) (i := 0) rfl rfl rfl dX12_remembers_83 ?_
    obtain ⟨fs54, v55, hM, hv, h⟩ := h
    refine kz_getf (pc := 84) (k := 6) kcX12 hM hv (by decide) kw_1384 dX12_remembers_84 ?_
    refine kz_sipush (pc := 87) (v := 732) (by decide) dX12_remembers_87 ?_
    refine kz_aload_n (pc := 90) 0 (v := .ref a0) (i := 0) rfl rfl rfl dX12_remembers_90 ?_
    obtain ⟨fs56, v57, hM, hv, h⟩ := h
    refine kz_getf (pc := 91) (k := 7) kcX12 hM hv (by decide) kw_1385 dX12_remembers_91 ?_
    refine kz_imul (pc := 94) dX12_remembers_94 ?_
    refine kz_sipush (pc := 95) (v := 732) (by decide) dX12_remembers_95 ?_
    refine kz_callS (pc := 98) (μ' := mX12_copiesWords) (d' := d + 0) (mc' := 0) (ms' := 0) (As := [.ref v53, .int 0, .ref v55, .int (732 * v57), .int 732]) (st := []) (c := 0) (sl := 0) kmX12_copiesWords kw_1824 (by omega) rfl (Nat.le_of_ble_eq_true rfl) (Nat.le_refl _) (Nat.le_refl _) dX12_remembers_98 (fun E M9 hx => kz_Tout rfl (Nat.le_refl _) (Nat.le_refl _) hx) (kz_Cmono (fun v M58 h => ?_) (fun _ _ h => h) h)
    obtain ⟨rfl, h⟩ := h
    show kz_Z G (d + 1) 0 0 mX12_remembers Qr Qx 101 [(0, .ref a0)] [] M58 0 0
    refine kz_aload_n (pc := 101) 0 (v := .ref a0) (i := 0) rfl rfl rfl dX12_remembers_101 ?_
    refine kz_dup (pc := 102) rfl dX12_remembers_102 ?_
    obtain ⟨fs61, v62, hM, hv, h⟩ := h
    refine kz_getf (pc := 103) (k := 7) kcX12 hM hv (by decide) kw_1385 dX12_remembers_103 ?_
    refine kz_iconst (pc := 106) (v := 1) (by decide) dX12_remembers_106 ?_
    refine kz_iadd (pc := 107) dX12_remembers_107 ?_
    obtain ⟨fs63, hM, hlen, h⟩ := h
    refine kz_putf (pc := 108) (k := 7) kcX12 hM (by decide) hlen kw_1385 rfl rfl rfl dX12_remembers_108 ?_
    exact kz_vret (pc := 111) rfl (Nat.le_refl _) (Nat.le_refl _) dX12_remembers_111 h
theorem dX12_of_0 : decode cX12_of 0 = .ok (.aload_n 0, 1) := by decide +kernel
theorem dX12_of_1 : decode cX12_of 1 = .ok (.getfield 7, 3) := by decide +kernel
theorem dX12_of_4 : decode cX12_of 4 = .ok (.bipush 33, 2) := by decide +kernel
theorem dX12_of_6 : decode cX12_of 6 = .ok (.sipush 305, 3) := by decide +kernel
theorem dX12_of_9 : decode cX12_of 9 = .ok (.iload_n 1, 1) := by decide +kernel
theorem dX12_of_10 : decode cX12_of 10 = .ok (.imul, 1) := by decide +kernel
theorem dX12_of_11 : decode cX12_of 11 = .ok (.iadd, 1) := by decide +kernel
theorem dX12_of_12 : decode cX12_of 12 = .ok (.iload_n 2, 1) := by decide +kernel
theorem dX12_of_13 : decode cX12_of 13 = .ok (.iadd, 1) := by decide +kernel
theorem dX12_of_14 : decode cX12_of 14 = .ok (.iaload, 1) := by decide +kernel
theorem dX12_of_15 : decode cX12_of 15 = .ok (.ireturn, 1) := by decide +kernel
theorem rX12_of_0 {G : kz_G} {d : Nat} {Qr : Option Value → kz_M → Prop} {Qx : String → kz_M → Prop} {a0 : Nat} {p1 : Int32} {p2 : Int32}  {M : kz_M} (h : ∃ fs1 v2, (M).1 a0 = some (.inl (11, fs1)) ∧ fs1[0]? = some (.ref v2) ∧ (∃ n3 f4, (M).1 v2 = some (.inr (.int, n3, .inl f4)) ∧ vp_in ((33 + (305 * p1)) + p2) n3 ∧ (Qr (some (.int (f4 ((33 + (305 * p1)) + p2).toNatClampNeg))) M))) : kz_C G d 0 0 mX12_of [.ref a0, .int p1, .int p2] M Qr Qx := by
  refine kz_enter (n := 2) kmX12_of.1 (Nat.le_of_ble_eq_true rfl) (ls := [(0, .ref a0), (1, .int p1), (2, .int p2)]) rfl ?_
  refine kz_aload_n (pc := 0) 0 (v := .ref a0) (i := 0) rfl rfl rfl dX12_of_0 ?_
  obtain ⟨fs1, v2, hM, hv, h⟩ := h
  refine kz_getf (pc := 1) (k := 0) kcX12 hM hv (by decide) kw_1378 dX12_of_1 ?_
  refine kz_bipush (pc := 4) (v := 33) (by decide) dX12_of_4 ?_
  refine kz_sipush (pc := 6) (v := 305) (by decide) dX12_of_6 ?_
  refine kz_iload_n (pc := 9) 1 (i := 1) rfl rfl dX12_of_9 ?_
  refine kz_imul (pc := 10) dX12_of_10 ?_
  refine kz_iadd (pc := 11) dX12_of_11 ?_
  refine kz_iload_n (pc := 12) 2 (i := 2) rfl rfl dX12_of_12 ?_
  refine kz_iadd (pc := 13) dX12_of_13 ?_
  obtain ⟨n3, f4, hM, hi, h⟩ := h
  refine kz_iald (pc := 14) hM hi dX12_of_14 ?_
  exact kz_iret (pc := 15) rfl (Nat.le_refl _) (Nat.le_refl _) dX12_of_15 h
theorem dX12_lineAt_0 : decode cX12_lineAt 0 = .ok (.bipush 33, 2) := by decide +kernel
theorem dX12_lineAt_2 : decode cX12_lineAt 2 = .ok (.sipush 305, 3) := by decide +kernel
theorem dX12_lineAt_5 : decode cX12_lineAt 5 = .ok (.iload_n 1, 1) := by decide +kernel
theorem dX12_lineAt_6 : decode cX12_lineAt 6 = .ok (.imul, 1) := by decide +kernel
theorem dX12_lineAt_7 : decode cX12_lineAt 7 = .ok (.iadd, 1) := by decide +kernel
theorem dX12_lineAt_8 : decode cX12_lineAt 8 = .ok (.iconst 5, 1) := by decide +kernel
theorem dX12_lineAt_9 : decode cX12_lineAt 9 = .ok (.iadd, 1) := by decide +kernel
theorem dX12_lineAt_10 : decode cX12_lineAt 10 = .ok (.iconst 5, 1) := by decide +kernel
theorem dX12_lineAt_11 : decode cX12_lineAt 11 = .ok (.iload_n 2, 1) := by decide +kernel
theorem dX12_lineAt_12 : decode cX12_lineAt 12 = .ok (.imul, 1) := by decide +kernel
theorem dX12_lineAt_13 : decode cX12_lineAt 13 = .ok (.iadd, 1) := by decide +kernel
theorem dX12_lineAt_14 : decode cX12_lineAt 14 = .ok (.ireturn, 1) := by decide +kernel
theorem rX12_lineAt_0 {G : kz_G} {d : Nat} {Qr : Option Value → kz_M → Prop} {Qx : String → kz_M → Prop} {a0 : Nat} {p1 : Int32} {p2 : Int32}  {M : kz_M} (h : Qr (some (.int (((33 + (305 * p1)) + 5) + (5 * p2)))) M) : kz_C G d 0 0 mX12_lineAt [.ref a0, .int p1, .int p2] M Qr Qx := by
  refine kz_enter (n := 2) kmX12_lineAt.1 (Nat.le_of_ble_eq_true rfl) (ls := [(0, .ref a0), (1, .int p1), (2, .int p2)]) rfl ?_
  refine kz_bipush (pc := 0) (v := 33) (by decide) dX12_lineAt_0 ?_
  refine kz_sipush (pc := 2) (v := 305) (by decide) dX12_lineAt_2 ?_
  refine kz_iload_n (pc := 5) 1 (i := 1) rfl rfl dX12_lineAt_5 ?_
  refine kz_imul (pc := 6) dX12_lineAt_6 ?_
  refine kz_iadd (pc := 7) dX12_lineAt_7 ?_
  refine kz_iconst (pc := 8) (v := 5) (by decide) dX12_lineAt_8 ?_
  refine kz_iadd (pc := 9) dX12_lineAt_9 ?_
  refine kz_iconst (pc := 10) (v := 5) (by decide) dX12_lineAt_10 ?_
  refine kz_iload_n (pc := 11) 2 (i := 2) rfl rfl dX12_lineAt_11 ?_
  refine kz_imul (pc := 12) dX12_lineAt_12 ?_
  refine kz_iadd (pc := 13) dX12_lineAt_13 ?_
  exact kz_iret (pc := 14) rfl (Nat.le_refl _) (Nat.le_refl _) dX12_lineAt_14 h
theorem dX12_ofLine_0 : decode cX12_ofLine 0 = .ok (.aload_n 0, 1) := by decide +kernel
theorem dX12_ofLine_1 : decode cX12_ofLine 1 = .ok (.getfield 7, 3) := by decide +kernel
theorem dX12_ofLine_4 : decode cX12_ofLine 4 = .ok (.aload_n 0, 1) := by decide +kernel
theorem dX12_ofLine_5 : decode cX12_ofLine 5 = .ok (.iload_n 1, 1) := by decide +kernel
theorem dX12_ofLine_6 : decode cX12_ofLine 6 = .ok (.iload_n 2, 1) := by decide +kernel
theorem dX12_ofLine_7 : decode cX12_ofLine 7 = .ok (.invokevirtual 89, 3) := by decide +kernel
theorem dX12_ofLine_10 : decode cX12_ofLine 10 = .ok (.iload_n 3, 1) := by decide +kernel
theorem dX12_ofLine_11 : decode cX12_ofLine 11 = .ok (.iadd, 1) := by decide +kernel
theorem dX12_ofLine_12 : decode cX12_ofLine 12 = .ok (.iaload, 1) := by decide +kernel
theorem dX12_ofLine_13 : decode cX12_ofLine 13 = .ok (.ireturn, 1) := by decide +kernel
theorem rX12_ofLine_0 {G : kz_G} {d : Nat} {Qr : Option Value → kz_M → Prop} {Qx : String → kz_M → Prop} {a0 : Nat} {p1 : Int32} {p2 : Int32} {p3 : Int32}  {M : kz_M} (h : ∃ fs1 v2, (M).1 a0 = some (.inl (11, fs1)) ∧ fs1[0]? = some (.ref v2) ∧ ((∃ fs8, (M).1 a0 = some (.inl (11, fs8))) ∧ kz_C G (d + 0) 0 0 mX12_lineAt [.ref a0, .int p1, .int p2] M (fun v M3 => ∃ r4 : Int32, v = some (.int r4) ∧ (∃ n6 f7, (M3).1 v2 = some (.inr (.int, n6, .inl f7)) ∧ vp_in (r4 + p3) n6 ∧ (Qr (some (.int (f7 (r4 + p3).toNatClampNeg))) M3))) Qx)) : kz_C G (d + 1) 0 0 mX12_ofLine [.ref a0, .int p1, .int p2, .int p3] M Qr Qx := by
  refine kz_enter (n := 3) kmX12_ofLine.1 (Nat.le_of_ble_eq_true rfl) (ls := [(0, .ref a0), (1, .int p1), (2, .int p2), (3, .int p3)]) rfl ?_
  refine kz_aload_n (pc := 0) 0 (v := .ref a0) (i := 0) rfl rfl rfl dX12_ofLine_0 ?_
  obtain ⟨fs1, v2, hM, hv, h⟩ := h
  refine kz_getf (pc := 1) (k := 0) kcX12 hM hv (by decide) kw_1378 dX12_ofLine_1 ?_
  refine kz_aload_n (pc := 4) 0 (v := .ref a0) (i := 0) rfl rfl rfl dX12_ofLine_4 ?_
  refine kz_iload_n (pc := 5) 1 (i := 1) rfl rfl dX12_ofLine_5 ?_
  refine kz_iload_n (pc := 6) 2 (i := 2) rfl rfl dX12_ofLine_6 ?_
  obtain ⟨⟨fs8, he⟩, h⟩ := h
  refine kz_callV (pc := 7) (μ' := mX12_lineAt) (ci := 11) (q := (RX12, TX12, 32)) (b := a0) (d' := d + 0) (mc' := 0) (ms' := 0) (As := [.int p1, .int p2]) (st := [.ref v2]) (c := 0) (sl := 0) kmX12_lineAt kw_1640 (by omega) rfl (Nat.le_of_ble_eq_true rfl) he rfl rfl (Nat.le_refl _) (Nat.le_refl _) dX12_ofLine_7 (fun E M9 hx => kz_Tout rfl (Nat.le_refl _) (Nat.le_refl _) hx) (kz_Cmono (fun v M3 h => ?_) (fun _ _ h => h) h)
  obtain ⟨r4, rfl, h⟩ := h
  show kz_Z G (d + 1) 0 0 mX12_ofLine Qr Qx 10 [(0, .ref a0), (1, .int p1), (2, .int p2), (3, .int p3)] [.int r4, .ref v2] M3 0 0
  refine kz_iload_n (pc := 10) 3 (i := 3) rfl rfl dX12_ofLine_10 ?_
  refine kz_iadd (pc := 11) dX12_ofLine_11 ?_
  obtain ⟨n6, f7, hM, hi, h⟩ := h
  refine kz_iald (pc := 12) hM hi dX12_ofLine_12 ?_
  exact kz_iret (pc := 13) rfl (Nat.le_refl _) (Nat.le_refl _) dX12_ofLine_13 h
theorem dX12_word_0 : decode cX12_word 0 = .ok (.aload_n 0, 1) := by decide +kernel
theorem dX12_word_1 : decode cX12_word 1 = .ok (.getfield 22, 3) := by decide +kernel
theorem dX12_word_4 : decode cX12_word 4 = .ok (.bipush 60, 2) := by decide +kernel
theorem dX12_word_6 : decode cX12_word 6 = .ok (.iload_n 1, 1) := by decide +kernel
theorem dX12_word_7 : decode cX12_word 7 = .ok (.imul, 1) := by decide +kernel
theorem dX12_word_8 : decode cX12_word 8 = .ok (.iload_n 2, 1) := by decide +kernel
theorem dX12_word_9 : decode cX12_word 9 = .ok (.iadd, 1) := by decide +kernel
theorem dX12_word_10 : decode cX12_word 10 = .ok (.laload, 1) := by decide +kernel
theorem dX12_word_11 : decode cX12_word 11 = .ok (.lreturn, 1) := by decide +kernel
theorem rX12_word_0 {G : kz_G} {d : Nat} {Qr : Option Value → kz_M → Prop} {Qx : String → kz_M → Prop} {a0 : Nat} {p1 : Int32} {p2 : Int32}  {M : kz_M} (h : ∃ fs1 v2, (M).1 a0 = some (.inl (11, fs1)) ∧ fs1[4]? = some (.ref v2) ∧ (∃ n3 f4, (M).1 v2 = some (.inr (.long, n3, .inr (.inl f4))) ∧ vp_in ((60 * p1) + p2) n3 ∧ (Qr (some (.long (f4 ((60 * p1) + p2).toNatClampNeg))) M))) : kz_C G d 0 0 mX12_word [.ref a0, .int p1, .int p2] M Qr Qx := by
  refine kz_enter (n := 2) kmX12_word.1 (Nat.le_of_ble_eq_true rfl) (ls := [(0, .ref a0), (1, .int p1), (2, .int p2)]) rfl ?_
  refine kz_aload_n (pc := 0) 0 (v := .ref a0) (i := 0) rfl rfl rfl dX12_word_0 ?_
  obtain ⟨fs1, v2, hM, hv, h⟩ := h
  refine kz_getf (pc := 1) (k := 4) kcX12 hM hv (by decide) kw_1382 dX12_word_1 ?_
  refine kz_bipush (pc := 4) (v := 60) (by decide) dX12_word_4 ?_
  refine kz_iload_n (pc := 6) 1 (i := 1) rfl rfl dX12_word_6 ?_
  refine kz_imul (pc := 7) dX12_word_7 ?_
  refine kz_iload_n (pc := 8) 2 (i := 2) rfl rfl dX12_word_8 ?_
  refine kz_iadd (pc := 9) dX12_word_9 ?_
  obtain ⟨n3, f4, hM, hi, h⟩ := h
  refine kz_lald (pc := 10) hM hi dX12_word_10 ?_
  exact kz_lret (pc := 11) rfl (Nat.le_refl _) (Nat.le_refl _) dX12_word_11 h
theorem dX12_wordIn_0 : decode cX12_wordIn 0 = .ok (.aload_n 0, 1) := by decide +kernel
theorem dX12_wordIn_1 : decode cX12_wordIn 1 = .ok (.iload_n 1, 1) := by decide +kernel
theorem dX12_wordIn_2 : decode cX12_wordIn 2 = .ok (.aload_n 0, 1) := by decide +kernel
theorem dX12_wordIn_3 : decode cX12_wordIn 3 = .ok (.iload_n 1, 1) := by decide +kernel
theorem dX12_wordIn_4 : decode cX12_wordIn 4 = .ok (.iload_n 2, 1) := by decide +kernel
theorem dX12_wordIn_5 : decode cX12_wordIn 5 = .ok (.iconst 0, 1) := by decide +kernel
theorem dX12_wordIn_6 : decode cX12_wordIn 6 = .ok (.invokevirtual 93, 3) := by decide +kernel
theorem dX12_wordIn_9 : decode cX12_wordIn 9 = .ok (.iload_n 3, 1) := by decide +kernel
theorem dX12_wordIn_10 : decode cX12_wordIn 10 = .ok (.iadd, 1) := by decide +kernel
theorem dX12_wordIn_11 : decode cX12_wordIn 11 = .ok (.invokevirtual 97, 3) := by decide +kernel
theorem dX12_wordIn_14 : decode cX12_wordIn 14 = .ok (.lreturn, 1) := by decide +kernel
theorem rX12_wordIn_0 {G : kz_G} {d : Nat} {Qr : Option Value → kz_M → Prop} {Qx : String → kz_M → Prop} {a0 : Nat} {p1 : Int32} {p2 : Int32} {p3 : Int32}  {M : kz_M} (h : (∃ fs8, (M).1 a0 = some (.inl (11, fs8))) ∧ kz_C G (d + 1) 0 0 mX12_ofLine [.ref a0, .int p1, .int p2, .int 0] M (fun v M1 => ∃ r2 : Int32, v = some (.int r2) ∧ ((∃ fs7, (M1).1 a0 = some (.inl (11, fs7))) ∧ kz_C G (d + 1) 0 0 mX12_word [.ref a0, .int p1, .int (r2 + p3)] M1 (fun v M4 => ∃ r5 : Int64, v = some (.long r5) ∧ (Qr (some (.long r5)) M4)) Qx)) Qx) : kz_C G (d + 2) 0 0 mX12_wordIn [.ref a0, .int p1, .int p2, .int p3] M Qr Qx := by
  refine kz_enter (n := 3) kmX12_wordIn.1 (Nat.le_of_ble_eq_true rfl) (ls := [(0, .ref a0), (1, .int p1), (2, .int p2), (3, .int p3)]) rfl ?_
  refine kz_aload_n (pc := 0) 0 (v := .ref a0) (i := 0) rfl rfl rfl dX12_wordIn_0 ?_
  refine kz_iload_n (pc := 1) 1 (i := 1) rfl rfl dX12_wordIn_1 ?_
  refine kz_aload_n (pc := 2) 0 (v := .ref a0) (i := 0) rfl rfl rfl dX12_wordIn_2 ?_
  refine kz_iload_n (pc := 3) 1 (i := 1) rfl rfl dX12_wordIn_3 ?_
  refine kz_iload_n (pc := 4) 2 (i := 2) rfl rfl dX12_wordIn_4 ?_
  refine kz_iconst (pc := 5) (v := 0) (by decide) dX12_wordIn_5 ?_
  obtain ⟨⟨fs8, he⟩, h⟩ := h
  refine kz_callV (pc := 6) (μ' := mX12_ofLine) (ci := 11) (q := (RX12, TX12, 32)) (b := a0) (d' := d + 1) (mc' := 0) (ms' := 0) (As := [.int p1, .int p2, .int 0]) (st := [.int p1, .ref a0]) (c := 0) (sl := 0) kmX12_ofLine kw_1636 (by omega) rfl (Nat.le_of_ble_eq_true rfl) he rfl rfl (Nat.le_refl _) (Nat.le_refl _) dX12_wordIn_6 (fun E M9 hx => kz_Tout rfl (Nat.le_refl _) (Nat.le_refl _) hx) (kz_Cmono (fun v M1 h => ?_) (fun _ _ h => h) h)
  obtain ⟨r2, rfl, h⟩ := h
  show kz_Z G (d + 2) 0 0 mX12_wordIn Qr Qx 9 [(0, .ref a0), (1, .int p1), (2, .int p2), (3, .int p3)] [.int r2, .int p1, .ref a0] M1 0 0
  refine kz_iload_n (pc := 9) 3 (i := 3) rfl rfl dX12_wordIn_9 ?_
  refine kz_iadd (pc := 10) dX12_wordIn_10 ?_
  obtain ⟨⟨fs7, he⟩, h⟩ := h
  refine kz_callV (pc := 11) (μ' := mX12_word) (ci := 11) (q := (RX12, TX12, 32)) (b := a0) (d' := d + 1) (mc' := 0) (ms' := 0) (As := [.int p1, .int (r2 + p3)]) (st := []) (c := 0) (sl := 0) kmX12_word kw_1689 (by omega) rfl (Nat.le_of_ble_eq_true rfl) he rfl rfl (Nat.le_refl _) (Nat.le_refl _) dX12_wordIn_11 (fun E M9 hx => kz_Tout rfl (Nat.le_refl _) (Nat.le_refl _) hx) (kz_Cmono (fun v M4 h => ?_) (fun _ _ h => h) h)
  obtain ⟨r5, rfl, h⟩ := h
  show kz_Z G (d + 2) 0 0 mX12_wordIn Qr Qx 14 [(0, .ref a0), (1, .int p1), (2, .int p2), (3, .int p3)] [.long r5] M4 0 0
  exact kz_lret (pc := 14) rfl (Nat.le_refl _) (Nat.le_refl _) dX12_wordIn_14 h
theorem dX12_lettersOf_0 : decode cX12_lettersOf 0 = .ok (.iconst 0, 1) := by decide +kernel
theorem dX12_lettersOf_1 : decode cX12_lettersOf 1 = .ok (.istore_n 2, 1) := by decide +kernel
theorem dX12_lettersOf_2 : decode cX12_lettersOf 2 = .ok (.lload_n 0, 1) := by decide +kernel
theorem dX12_lettersOf_3 : decode cX12_lettersOf 3 = .ok (.lstore_n 3, 1) := by decide +kernel
theorem dX12_lettersOf_4 : decode cX12_lettersOf 4 = .ok (.lload_n 3, 1) := by decide +kernel
theorem dX12_lettersOf_5 : decode cX12_lettersOf 5 = .ok (.lconst 0, 1) := by decide +kernel
theorem dX12_lettersOf_6 : decode cX12_lettersOf 6 = .ok (.lcmp, 1) := by decide +kernel
theorem dX12_lettersOf_7 : decode cX12_lettersOf 7 = .ok (.ifCond .le 13, 3) := by decide +kernel
theorem dX12_lettersOf_10 : decode cX12_lettersOf 10 = .ok (.iinc 2 1, 3) := by decide +kernel
theorem dX12_lettersOf_13 : decode cX12_lettersOf 13 = .ok (.lload_n 3, 1) := by decide +kernel
theorem dX12_lettersOf_14 : decode cX12_lettersOf 14 = .ok (.iconst 5, 1) := by decide +kernel
theorem dX12_lettersOf_15 : decode cX12_lettersOf 15 = .ok (.lshr, 1) := by decide +kernel
theorem dX12_lettersOf_16 : decode cX12_lettersOf 16 = .ok (.lstore_n 3, 1) := by decide +kernel
theorem dX12_lettersOf_17 : decode cX12_lettersOf 17 = .ok (.goto (-13), 3) := by decide +kernel
theorem dX12_lettersOf_20 : decode cX12_lettersOf 20 = .ok (.iload_n 2, 1) := by decide +kernel
theorem dX12_lettersOf_21 : decode cX12_lettersOf 21 = .ok (.ireturn, 1) := by decide +kernel
def zX12_lettersOf_4 (G : kz_G) (d : Nat) (Qr : Option Value → kz_M → Prop) (Qx : String → kz_M → Prop) (x2 : Int32) (x3 : Int64)  (M : kz_M) : Prop := kz_Z G d 0 0 mX12_lettersOf Qr Qx 4 [(2, .int x2), (3, .long x3)] [] M 0 0
theorem rX12_lettersOf_0 {G : kz_G} {d : Nat} {Qr : Option Value → kz_M → Prop} {Qx : String → kz_M → Prop} {p0 : Int64}  {M : kz_M} (h : zX12_lettersOf_4 G d Qr Qx 0 p0 M) : kz_C G d 0 0 mX12_lettersOf [.long p0] M Qr Qx := by
  refine kz_enter (n := 1) kmX12_lettersOf.1 (Nat.le_of_ble_eq_true rfl) (ls := [(0, .long p0)]) rfl ?_
  refine kz_iconst (pc := 0) (v := 0) (by decide) dX12_lettersOf_0 ?_
  refine kz_istore_n (pc := 1) (i := 2) (ls' := [(0, .long p0)]) rfl (by decide) rfl dX12_lettersOf_1 ?_
  refine kz_lload_n (pc := 2) 1 (i := 0) rfl rfl dX12_lettersOf_2 ?_
  refine kz_lstore_n (pc := 3) (i := 3) (ls' := [(2, .int 0), (0, .long p0)]) rfl (by decide) rfl dX12_lettersOf_3 ?_
  refine kz_sub [1, 0] rfl ?_
  exact h
theorem rX12_lettersOf_4 {G : kz_G} {d : Nat} {Qr : Option Value → kz_M → Prop} {Qx : String → kz_M → Prop} {x2 : Int32} {x3 : Int64}  {M : kz_M} (h : (x3 ≤ 0 → Qr (some (.int x2)) M) ∧ (¬ x3 ≤ 0 → zX12_lettersOf_4 G d Qr Qx (x2 + 1) (x3 >>> (((5 : Int32)).toInt64 &&& 63)) M)) : zX12_lettersOf_4 G d Qr Qx x2 x3  M := by
  show kz_Z G d 0 0 mX12_lettersOf Qr Qx 4 [(2, .int x2), (3, .long x3)] [] M 0 0
  refine kz_lload_n (pc := 4) 1 (i := 3) rfl rfl dX12_lettersOf_4 ?_
  refine kz_lconst (pc := 5) (v := 0) (by decide) dX12_lettersOf_5 ?_
  refine kz_lcmp_le (pc := 6) (tgt := 20) (by decide) dX12_lettersOf_6 dX12_lettersOf_7 (fun hb => ?_) (fun hb => ?_)
  · replace h := h.1 hb
    refine kz_iload_n (pc := 20) 0 (i := 2) rfl rfl dX12_lettersOf_20 ?_
    exact kz_iret (pc := 21) rfl (Nat.le_refl _) (Nat.le_refl _) dX12_lettersOf_21 h
  · replace h := h.2 hb
    refine kz_iinc (pc := 10) 0 (i := 2) (v := x2 + 1) (ls' := [(3, .long x3)]) rfl (congrArg (fun z => x2 + z) (by decide)) (by decide) rfl dX12_lettersOf_10 ?_
    refine kz_lload_n (pc := 13) 1 (i := 3) rfl rfl dX12_lettersOf_13 ?_
    refine kz_iconst (pc := 14) (v := 5) (by decide) dX12_lettersOf_14 ?_
    refine kz_lshr (pc := 15) dX12_lettersOf_15 ?_
    refine kz_lstore_n (pc := 16) (i := 3) (ls' := [(2, .int (x2 + 1))]) rfl (by decide) rfl dX12_lettersOf_16 ?_
    refine kz_goto (pc := 17) (tgt := 4) (by decide) dX12_lettersOf_17 ?_
    refine kz_sub [1, 0] rfl ?_
    exact h
theorem dX12_isBy_0 : decode cX12_isBy 0 = .ok (.aload_n 0, 1) := by decide +kernel
theorem dX12_isBy_1 : decode cX12_isBy 1 = .ok (.iload_n 1, 1) := by decide +kernel
theorem dX12_isBy_2 : decode cX12_isBy 2 = .ok (.iconst 0, 1) := by decide +kernel
theorem dX12_isBy_3 : decode cX12_isBy 3 = .ok (.invokevirtual 101, 3) := by decide +kernel
theorem dX12_isBy_6 : decode cX12_isBy 6 = .ok (.iload_n 2, 1) := by decide +kernel
theorem dX12_isBy_7 : decode cX12_isBy 7 = .ok (.if_icmp .ne 7, 3) := by decide +kernel
theorem dX12_isBy_10 : decode cX12_isBy 10 = .ok (.iconst 1, 1) := by decide +kernel
theorem dX12_isBy_11 : decode cX12_isBy 11 = .ok (.goto 4, 3) := by decide +kernel
theorem dX12_isBy_14 : decode cX12_isBy 14 = .ok (.iconst 0, 1) := by decide +kernel
theorem dX12_isBy_15 : decode cX12_isBy 15 = .ok (.ireturn, 1) := by decide +kernel
theorem rX12_isBy_0 {G : kz_G} {d : Nat} {Qr : Option Value → kz_M → Prop} {Qx : String → kz_M → Prop} {a0 : Nat} {p1 : Int32} {p2 : Int32}  {M : kz_M} (h : (∃ fs4, (M).1 a0 = some (.inl (11, fs4))) ∧ kz_C G (d + 0) 0 0 mX12_of [.ref a0, .int p1, .int 0] M (fun v M1 => ∃ r2 : Int32, v = some (.int r2) ∧ ((¬ r2 = p2 → Qr (some (.int 0)) M1) ∧ (r2 = p2 → Qr (some (.int 1)) M1))) Qx) : kz_C G (d + 1) 0 0 mX12_isBy [.ref a0, .int p1, .int p2] M Qr Qx := by
  refine kz_enter (n := 2) kmX12_isBy.1 (Nat.le_of_ble_eq_true rfl) (ls := [(0, .ref a0), (1, .int p1), (2, .int p2)]) rfl ?_
  refine kz_aload_n (pc := 0) 0 (v := .ref a0) (i := 0) rfl rfl rfl dX12_isBy_0 ?_
  refine kz_iload_n (pc := 1) 1 (i := 1) rfl rfl dX12_isBy_1 ?_
  refine kz_iconst (pc := 2) (v := 0) (by decide) dX12_isBy_2 ?_
  obtain ⟨⟨fs4, he⟩, h⟩ := h
  refine kz_callV (pc := 3) (μ' := mX12_of) (ci := 11) (q := (RX12, TX12, 32)) (b := a0) (d' := d + 0) (mc' := 0) (ms' := 0) (As := [.int p1, .int 0]) (st := []) (c := 0) (sl := 0) kmX12_of kw_1620 (by omega) rfl (Nat.le_of_ble_eq_true rfl) he rfl rfl (Nat.le_refl _) (Nat.le_refl _) dX12_isBy_3 (fun E M9 hx => kz_Tout rfl (Nat.le_refl _) (Nat.le_refl _) hx) (kz_Cmono (fun v M1 h => ?_) (fun _ _ h => h) h)
  obtain ⟨r2, rfl, h⟩ := h
  show kz_Z G (d + 1) 0 0 mX12_isBy Qr Qx 6 [(0, .ref a0), (1, .int p1), (2, .int p2)] [.int r2] M1 0 0
  refine kz_iload_n (pc := 6) 2 (i := 2) rfl rfl dX12_isBy_6 ?_
  refine kz_icmp_ne (pc := 7) (tgt := 14) (by decide) dX12_isBy_7 (fun hb => ?_) (fun hb => ?_)
  · replace h := h.1 hb
    refine kz_iconst (pc := 14) (v := 0) (by decide) dX12_isBy_14 ?_
    exact kz_zret (pc := 15) (ty := .boolean) rfl (by decide) (Nat.le_refl _) (Nat.le_refl _) dX12_isBy_15 h
  · replace h := h.2 hb
    refine kz_iconst (pc := 10) (v := 1) (by decide) dX12_isBy_10 ?_
    refine kz_goto (pc := 11) (tgt := 15) (by decide) dX12_isBy_11 ?_
    exact kz_zret (pc := 15) (ty := .boolean) rfl (by decide) (Nat.le_refl _) (Nat.le_refl _) dX12_isBy_15 h
theorem dX12_countsNow_0 : decode cX12_countsNow 0 = .ok (.aload_n 0, 1) := by decide +kernel
theorem dX12_countsNow_1 : decode cX12_countsNow 1 = .ok (.iload_n 1, 1) := by decide +kernel
theorem dX12_countsNow_2 : decode cX12_countsNow 2 = .ok (.iload_n 2, 1) := by decide +kernel
theorem dX12_countsNow_3 : decode cX12_countsNow 3 = .ok (.iconst 2, 1) := by decide +kernel
theorem dX12_countsNow_4 : decode cX12_countsNow 4 = .ok (.invokevirtual 93, 3) := by decide +kernel
theorem dX12_countsNow_7 : decode cX12_countsNow 7 = .ok (.istore_n 3, 1) := by decide +kernel
theorem dX12_countsNow_8 : decode cX12_countsNow 8 = .ok (.iload_n 3, 1) := by decide +kernel
theorem dX12_countsNow_9 : decode cX12_countsNow 9 = .ok (.ifCond .eq 8, 3) := by decide +kernel
theorem dX12_countsNow_12 : decode cX12_countsNow 12 = .ok (.iload_n 3, 1) := by decide +kernel
theorem dX12_countsNow_13 : decode cX12_countsNow 13 = .ok (.iconst 2, 1) := by decide +kernel
theorem dX12_countsNow_14 : decode cX12_countsNow 14 = .ok (.if_icmp .ne 7, 3) := by decide +kernel
theorem dX12_countsNow_17 : decode cX12_countsNow 17 = .ok (.iconst 1, 1) := by decide +kernel
theorem dX12_countsNow_18 : decode cX12_countsNow 18 = .ok (.goto 4, 3) := by decide +kernel
theorem dX12_countsNow_21 : decode cX12_countsNow 21 = .ok (.iconst 0, 1) := by decide +kernel
theorem dX12_countsNow_22 : decode cX12_countsNow 22 = .ok (.ireturn, 1) := by decide +kernel
theorem rX12_countsNow_0 {G : kz_G} {d : Nat} {Qr : Option Value → kz_M → Prop} {Qx : String → kz_M → Prop} {a0 : Nat} {p1 : Int32} {p2 : Int32}  {M : kz_M} (h : (∃ fs4, (M).1 a0 = some (.inl (11, fs4))) ∧ kz_C G (d + 1) 0 0 mX12_ofLine [.ref a0, .int p1, .int p2, .int 2] M (fun v M1 => ∃ r2 : Int32, v = some (.int r2) ∧ ((r2 = 0 → Qr (some (.int 1)) M1) ∧ (¬ r2 = 0 → (¬ r2 = (2 : Int32) → Qr (some (.int 0)) M1) ∧ (r2 = (2 : Int32) → Qr (some (.int 1)) M1)))) Qx) : kz_C G (d + 2) 0 0 mX12_countsNow [.ref a0, .int p1, .int p2] M Qr Qx := by
  refine kz_enter (n := 2) kmX12_countsNow.1 (Nat.le_of_ble_eq_true rfl) (ls := [(0, .ref a0), (1, .int p1), (2, .int p2)]) rfl ?_
  refine kz_aload_n (pc := 0) 0 (v := .ref a0) (i := 0) rfl rfl rfl dX12_countsNow_0 ?_
  refine kz_iload_n (pc := 1) 1 (i := 1) rfl rfl dX12_countsNow_1 ?_
  refine kz_iload_n (pc := 2) 2 (i := 2) rfl rfl dX12_countsNow_2 ?_
  refine kz_iconst (pc := 3) (v := 2) (by decide) dX12_countsNow_3 ?_
  obtain ⟨⟨fs4, he⟩, h⟩ := h
  refine kz_callV (pc := 4) (μ' := mX12_ofLine) (ci := 11) (q := (RX12, TX12, 32)) (b := a0) (d' := d + 1) (mc' := 0) (ms' := 0) (As := [.int p1, .int p2, .int 2]) (st := []) (c := 0) (sl := 0) kmX12_ofLine kw_1636 (by omega) rfl (Nat.le_of_ble_eq_true rfl) he rfl rfl (Nat.le_refl _) (Nat.le_refl _) dX12_countsNow_4 (fun E M9 hx => kz_Tout rfl (Nat.le_refl _) (Nat.le_refl _) hx) (kz_Cmono (fun v M1 h => ?_) (fun _ _ h => h) h)
  obtain ⟨r2, rfl, h⟩ := h
  show kz_Z G (d + 2) 0 0 mX12_countsNow Qr Qx 7 [(0, .ref a0), (1, .int p1), (2, .int p2)] [.int r2] M1 0 0
  refine kz_istore_n (pc := 7) (i := 3) (ls' := [(0, .ref a0), (1, .int p1), (2, .int p2)]) rfl (by decide) rfl dX12_countsNow_7 ?_
  refine kz_iload_n (pc := 8) 0 (i := 3) rfl rfl dX12_countsNow_8 ?_
  refine kz_if_eq (pc := 9) (tgt := 17) (by decide) dX12_countsNow_9 (fun hb => ?_) (fun hb => ?_)
  · replace h := h.1 hb
    refine kz_iconst (pc := 17) (v := 1) (by decide) dX12_countsNow_17 ?_
    refine kz_goto (pc := 18) (tgt := 22) (by decide) dX12_countsNow_18 ?_
    exact kz_zret (pc := 22) (ty := .boolean) rfl (by decide) (Nat.le_refl _) (Nat.le_refl _) dX12_countsNow_22 h
  · replace h := h.2 hb
    refine kz_iload_n (pc := 12) 0 (i := 3) rfl rfl dX12_countsNow_12 ?_
    refine kz_iconst (pc := 13) (v := 2) (by decide) dX12_countsNow_13 ?_
    refine kz_icmp_ne (pc := 14) (tgt := 21) (by decide) dX12_countsNow_14 (fun hb => ?_) (fun hb => ?_)
    · replace h := h.1 hb
      refine kz_iconst (pc := 21) (v := 0) (by decide) dX12_countsNow_21 ?_
      exact kz_zret (pc := 22) (ty := .boolean) rfl (by decide) (Nat.le_refl _) (Nat.le_refl _) dX12_countsNow_22 h
    · replace h := h.2 hb
      refine kz_iconst (pc := 17) (v := 1) (by decide) dX12_countsNow_17 ?_
      refine kz_goto (pc := 18) (tgt := 22) (by decide) dX12_countsNow_18 ?_
      exact kz_zret (pc := 22) (ty := .boolean) rfl (by decide) (Nat.le_refl _) (Nat.le_refl _) dX12_countsNow_22 h
theorem dX12_widthOf_0 : decode cX12_widthOf 0 = .ok (.aload_n 0, 1) := by decide +kernel
theorem dX12_widthOf_1 : decode cX12_widthOf 1 = .ok (.iload_n 1, 1) := by decide +kernel
theorem dX12_widthOf_2 : decode cX12_widthOf 2 = .ok (.iload_n 2, 1) := by decide +kernel
theorem dX12_widthOf_3 : decode cX12_widthOf 3 = .ok (.iconst 1, 1) := by decide +kernel
theorem dX12_widthOf_4 : decode cX12_widthOf 4 = .ok (.invokevirtual 93, 3) := by decide +kernel
theorem dX12_widthOf_7 : decode cX12_widthOf 7 = .ok (.istore_n 3, 1) := by decide +kernel
theorem dX12_widthOf_8 : decode cX12_widthOf 8 = .ok (.iload_n 3, 1) := by decide +kernel
theorem dX12_widthOf_9 : decode cX12_widthOf 9 = .ok (.iconst 1, 1) := by decide +kernel
theorem dX12_widthOf_10 : decode cX12_widthOf 10 = .ok (.isub, 1) := by decide +kernel
theorem dX12_widthOf_11 : decode cX12_widthOf 11 = .ok (.istore 4, 2) := by decide +kernel
theorem dX12_widthOf_13 : decode cX12_widthOf 13 = .ok (.iconst 0, 1) := by decide +kernel
theorem dX12_widthOf_14 : decode cX12_widthOf 14 = .ok (.istore 5, 2) := by decide +kernel
theorem dX12_widthOf_16 : decode cX12_widthOf 16 = .ok (.iload 5, 2) := by decide +kernel
theorem dX12_widthOf_18 : decode cX12_widthOf 18 = .ok (.iload_n 3, 1) := by decide +kernel
theorem dX12_widthOf_19 : decode cX12_widthOf 19 = .ok (.if_icmp .ge 25, 3) := by decide +kernel
theorem dX12_widthOf_22 : decode cX12_widthOf 22 = .ok (.iload 4, 2) := by decide +kernel
theorem dX12_widthOf_24 : decode cX12_widthOf 24 = .ok (.aload_n 0, 1) := by decide +kernel
theorem dX12_widthOf_25 : decode cX12_widthOf 25 = .ok (.iload_n 1, 1) := by decide +kernel
theorem dX12_widthOf_26 : decode cX12_widthOf 26 = .ok (.iload_n 2, 1) := by decide +kernel
theorem dX12_widthOf_27 : decode cX12_widthOf 27 = .ok (.iload 5, 2) := by decide +kernel
theorem dX12_widthOf_29 : decode cX12_widthOf 29 = .ok (.invokevirtual 104, 3) := by decide +kernel
theorem dX12_widthOf_32 : decode cX12_widthOf 32 = .ok (.invokestatic 108, 3) := by decide +kernel
theorem dX12_widthOf_35 : decode cX12_widthOf 35 = .ok (.iadd, 1) := by decide +kernel
theorem dX12_widthOf_36 : decode cX12_widthOf 36 = .ok (.istore 4, 2) := by decide +kernel
theorem dX12_widthOf_38 : decode cX12_widthOf 38 = .ok (.iinc 5 1, 3) := by decide +kernel
theorem dX12_widthOf_41 : decode cX12_widthOf 41 = .ok (.goto (-25), 3) := by decide +kernel
theorem dX12_widthOf_44 : decode cX12_widthOf 44 = .ok (.iload 4, 2) := by decide +kernel
theorem dX12_widthOf_46 : decode cX12_widthOf 46 = .ok (.ireturn, 1) := by decide +kernel
def zX12_widthOf_16 (G : kz_G) (d : Nat) (Qr : Option Value → kz_M → Prop) (Qx : String → kz_M → Prop) (x0 : Nat) (x1 : Int32) (x2 : Int32) (x3 : Int32) (x4 : Int32) (x5 : Int32)  (M : kz_M) : Prop := kz_Z G (d + 3) 0 0 mX12_widthOf Qr Qx 16 [(0, .ref x0), (1, .int x1), (2, .int x2), (3, .int x3), (4, .int x4), (5, .int x5)] [] M 0 0
theorem rX12_widthOf_0 {G : kz_G} {d : Nat} {Qr : Option Value → kz_M → Prop} {Qx : String → kz_M → Prop} {a0 : Nat} {p1 : Int32} {p2 : Int32}  {M : kz_M} (h : (∃ fs4, (M).1 a0 = some (.inl (11, fs4))) ∧ kz_C G (d + 2) 0 0 mX12_ofLine [.ref a0, .int p1, .int p2, .int 1] M (fun v M1 => ∃ r2 : Int32, v = some (.int r2) ∧ (zX12_widthOf_16 G d Qr Qx a0 p1 p2 r2 (r2 - 1) 0 M1)) Qx) : kz_C G (d + 3) 0 0 mX12_widthOf [.ref a0, .int p1, .int p2] M Qr Qx := by
  refine kz_enter (n := 2) kmX12_widthOf.1 (Nat.le_of_ble_eq_true rfl) (ls := [(0, .ref a0), (1, .int p1), (2, .int p2)]) rfl ?_
  refine kz_aload_n (pc := 0) 0 (v := .ref a0) (i := 0) rfl rfl rfl dX12_widthOf_0 ?_
  refine kz_iload_n (pc := 1) 1 (i := 1) rfl rfl dX12_widthOf_1 ?_
  refine kz_iload_n (pc := 2) 2 (i := 2) rfl rfl dX12_widthOf_2 ?_
  refine kz_iconst (pc := 3) (v := 1) (by decide) dX12_widthOf_3 ?_
  obtain ⟨⟨fs4, he⟩, h⟩ := h
  refine kz_callV (pc := 4) (μ' := mX12_ofLine) (ci := 11) (q := (RX12, TX12, 32)) (b := a0) (d' := d + 2) (mc' := 0) (ms' := 0) (As := [.int p1, .int p2, .int 1]) (st := []) (c := 0) (sl := 0) kmX12_ofLine kw_1636 (by omega) rfl (Nat.le_of_ble_eq_true rfl) he rfl rfl (Nat.le_refl _) (Nat.le_refl _) dX12_widthOf_4 (fun E M9 hx => kz_Tout rfl (Nat.le_refl _) (Nat.le_refl _) hx) (kz_Cmono (fun v M1 h => ?_) (fun _ _ h => h) h)
  obtain ⟨r2, rfl, h⟩ := h
  show kz_Z G (d + 3) 0 0 mX12_widthOf Qr Qx 7 [(0, .ref a0), (1, .int p1), (2, .int p2)] [.int r2] M1 0 0
  refine kz_istore_n (pc := 7) (i := 3) (ls' := [(0, .ref a0), (1, .int p1), (2, .int p2)]) rfl (by decide) rfl dX12_widthOf_7 ?_
  refine kz_iload_n (pc := 8) 0 (i := 3) rfl rfl dX12_widthOf_8 ?_
  refine kz_iconst (pc := 9) (v := 1) (by decide) dX12_widthOf_9 ?_
  refine kz_isub (pc := 10) dX12_widthOf_10 ?_
  refine kz_istore (pc := 11) (i := 4) (ls' := [(3, .int r2), (0, .ref a0), (1, .int p1), (2, .int p2)]) (by decide) rfl dX12_widthOf_11 ?_
  refine kz_iconst (pc := 13) (v := 0) (by decide) dX12_widthOf_13 ?_
  refine kz_istore (pc := 14) (i := 5) (ls' := [(4, .int (r2 - 1)), (3, .int r2), (0, .ref a0), (1, .int p1), (2, .int p2)]) (by decide) rfl dX12_widthOf_14 ?_
  refine kz_sub [3, 4, 5, 2, 1, 0] rfl ?_
  exact h
theorem rX12_widthOf_16 {G : kz_G} {d : Nat} {Qr : Option Value → kz_M → Prop} {Qx : String → kz_M → Prop} {x0 : Nat} {x1 : Int32} {x2 : Int32} {x3 : Int32} {x4 : Int32} {x5 : Int32}  {M : kz_M} (h : (x3 ≤ x5 → Qr (some (.int x4)) M) ∧ (¬ x3 ≤ x5 → (∃ fs8, (M).1 x0 = some (.inl (11, fs8))) ∧ kz_C G (d + 2) 0 0 mX12_wordIn [.ref x0, .int x1, .int x2, .int x5] M (fun v M1 => ∃ r2 : Int64, v = some (.long r2) ∧ (kz_C G (d + 2) 0 0 mX12_lettersOf [.long r2] M1 (fun v M4 => ∃ r5 : Int32, v = some (.int r5) ∧ (zX12_widthOf_16 G d Qr Qx x0 x1 x2 x3 (x4 + r5) (x5 + 1) M4)) Qx)) Qx)) : zX12_widthOf_16 G d Qr Qx x0 x1 x2 x3 x4 x5  M := by
  show kz_Z G (d + 3) 0 0 mX12_widthOf Qr Qx 16 [(0, .ref x0), (1, .int x1), (2, .int x2), (3, .int x3), (4, .int x4), (5, .int x5)] [] M 0 0
  refine kz_iload (pc := 16) 5 (i := 5) rfl dX12_widthOf_16 ?_
  refine kz_iload_n (pc := 18) 3 (i := 3) rfl rfl dX12_widthOf_18 ?_
  refine kz_icmp_ge (pc := 19) (tgt := 44) (by decide) dX12_widthOf_19 (fun hb => ?_) (fun hb => ?_)
  · replace h := h.1 hb
    refine kz_iload (pc := 44) 4 (i := 4) rfl dX12_widthOf_44 ?_
    exact kz_iret (pc := 46) rfl (Nat.le_refl _) (Nat.le_refl _) dX12_widthOf_46 h
  · replace h := h.2 hb
    refine kz_iload (pc := 22) 4 (i := 4) rfl dX12_widthOf_22 ?_
    refine kz_aload_n (pc := 24) 0 (v := .ref x0) (i := 0) rfl rfl rfl dX12_widthOf_24 ?_
    refine kz_iload_n (pc := 25) 1 (i := 1) rfl rfl dX12_widthOf_25 ?_
    refine kz_iload_n (pc := 26) 2 (i := 2) rfl rfl dX12_widthOf_26 ?_
    refine kz_iload (pc := 27) 5 (i := 5) rfl dX12_widthOf_27 ?_
    obtain ⟨⟨fs8, he⟩, h⟩ := h
    refine kz_callV (pc := 29) (μ' := mX12_wordIn) (ci := 11) (q := (RX12, TX12, 32)) (b := x0) (d' := d + 2) (mc' := 0) (ms' := 0) (As := [.int x1, .int x2, .int x5]) (st := [.int x4]) (c := 0) (sl := 0) kmX12_wordIn kw_1705 (by omega) rfl (Nat.le_of_ble_eq_true rfl) he rfl rfl (Nat.le_refl _) (Nat.le_refl _) dX12_widthOf_29 (fun E M9 hx => kz_Tout rfl (Nat.le_refl _) (Nat.le_refl _) hx) (kz_Cmono (fun v M1 h => ?_) (fun _ _ h => h) h)
    obtain ⟨r2, rfl, h⟩ := h
    show kz_Z G (d + 3) 0 0 mX12_widthOf Qr Qx 32 [(0, .ref x0), (1, .int x1), (2, .int x2), (3, .int x3), (4, .int x4), (5, .int x5)] [.long r2, .int x4] M1 0 0
    refine kz_callS (pc := 32) (μ' := mX12_lettersOf) (d' := d + 2) (mc' := 0) (ms' := 0) (As := [.long r2]) (st := [.int x4]) (c := 0) (sl := 0) kmX12_lettersOf kw_1737 (by omega) rfl (Nat.le_of_ble_eq_true rfl) (Nat.le_refl _) (Nat.le_refl _) dX12_widthOf_32 (fun E M9 hx => kz_Tout rfl (Nat.le_refl _) (Nat.le_refl _) hx) (kz_Cmono (fun v M4 h => ?_) (fun _ _ h => h) h)
    obtain ⟨r5, rfl, h⟩ := h
    show kz_Z G (d + 3) 0 0 mX12_widthOf Qr Qx 35 [(0, .ref x0), (1, .int x1), (2, .int x2), (3, .int x3), (4, .int x4), (5, .int x5)] [.int r5, .int x4] M4 0 0
    refine kz_iadd (pc := 35) dX12_widthOf_35 ?_
    refine kz_istore (pc := 36) (i := 4) (ls' := [(0, .ref x0), (1, .int x1), (2, .int x2), (3, .int x3), (5, .int x5)]) (by decide) rfl dX12_widthOf_36 ?_
    refine kz_iinc (pc := 38) 5 (i := 5) (v := x5 + 1) (ls' := [(4, .int (x4 + r5)), (0, .ref x0), (1, .int x1), (2, .int x2), (3, .int x3)]) rfl (congrArg (fun z => x5 + z) (by decide)) (by decide) rfl dX12_widthOf_38 ?_
    refine kz_goto (pc := 41) (tgt := 16) (by decide) dX12_widthOf_41 ?_
    refine kz_sub [2, 3, 4, 5, 1, 0] rfl ?_
    exact h
theorem dX12_stands_0 : decode cX12_stands 0 = .ok (.iconst 0, 1) := by decide +kernel
theorem dX12_stands_1 : decode cX12_stands 1 = .ok (.istore 5, 2) := by decide +kernel
theorem dX12_stands_3 : decode cX12_stands 3 = .ok (.iload 5, 2) := by decide +kernel
theorem dX12_stands_5 : decode cX12_stands 5 = .ok (.aload_n 0, 1) := by decide +kernel
theorem dX12_stands_6 : decode cX12_stands 6 = .ok (.iload_n 3, 1) := by decide +kernel
theorem dX12_stands_7 : decode cX12_stands 7 = .ok (.iload 4, 2) := by decide +kernel
theorem dX12_stands_9 : decode cX12_stands 9 = .ok (.iconst 1, 1) := by decide +kernel
theorem dX12_stands_10 : decode cX12_stands 10 = .ok (.invokevirtual 93, 3) := by decide +kernel
theorem dX12_stands_13 : decode cX12_stands 13 = .ok (.if_icmp .ge 25, 3) := by decide +kernel
theorem dX12_stands_16 : decode cX12_stands 16 = .ok (.aload_n 0, 1) := by decide +kernel
theorem dX12_stands_17 : decode cX12_stands 17 = .ok (.iload_n 3, 1) := by decide +kernel
theorem dX12_stands_18 : decode cX12_stands 18 = .ok (.iload 4, 2) := by decide +kernel
theorem dX12_stands_20 : decode cX12_stands 20 = .ok (.iload 5, 2) := by decide +kernel
theorem dX12_stands_22 : decode cX12_stands 22 = .ok (.invokevirtual 104, 3) := by decide +kernel
theorem dX12_stands_25 : decode cX12_stands 25 = .ok (.lload_n 1, 1) := by decide +kernel
theorem dX12_stands_26 : decode cX12_stands 26 = .ok (.lcmp, 1) := by decide +kernel
theorem dX12_stands_27 : decode cX12_stands 27 = .ok (.ifCond .ne 5, 3) := by decide +kernel
theorem dX12_stands_30 : decode cX12_stands 30 = .ok (.iconst 1, 1) := by decide +kernel
theorem dX12_stands_31 : decode cX12_stands 31 = .ok (.ireturn, 1) := by decide +kernel
theorem dX12_stands_32 : decode cX12_stands 32 = .ok (.iinc 5 1, 3) := by decide +kernel
theorem dX12_stands_35 : decode cX12_stands 35 = .ok (.goto (-32), 3) := by decide +kernel
theorem dX12_stands_38 : decode cX12_stands 38 = .ok (.iconst 0, 1) := by decide +kernel
theorem dX12_stands_39 : decode cX12_stands 39 = .ok (.ireturn, 1) := by decide +kernel
def zX12_stands_3 (G : kz_G) (d : Nat) (Qr : Option Value → kz_M → Prop) (Qx : String → kz_M → Prop) (x0 : Nat) (x1 : Int64) (x3 : Int32) (x4 : Int32) (x5 : Int32)  (M : kz_M) : Prop := kz_Z G (d + 3) 0 0 mX12_stands Qr Qx 3 [(0, .ref x0), (1, .long x1), (3, .int x3), (4, .int x4), (5, .int x5)] [] M 0 0
theorem rX12_stands_0 {G : kz_G} {d : Nat} {Qr : Option Value → kz_M → Prop} {Qx : String → kz_M → Prop} {a0 : Nat} {p1 : Int64} {p3 : Int32} {p4 : Int32}  {M : kz_M} (h : zX12_stands_3 G d Qr Qx a0 p1 p3 p4 0 M) : kz_C G (d + 3) 0 0 mX12_stands [.ref a0, .long p1, .int p3, .int p4] M Qr Qx := by
  refine kz_enter (n := 3) kmX12_stands.1 (Nat.le_of_ble_eq_true rfl) (ls := [(0, .ref a0), (1, .long p1), (3, .int p3), (4, .int p4)]) rfl ?_
  refine kz_iconst (pc := 0) (v := 0) (by decide) dX12_stands_0 ?_
  refine kz_istore (pc := 1) (i := 5) (ls' := [(0, .ref a0), (1, .long p1), (3, .int p3), (4, .int p4)]) (by decide) rfl dX12_stands_1 ?_
  refine kz_sub [1, 2, 3, 4, 0] rfl ?_
  exact h
theorem rX12_stands_3 {G : kz_G} {d : Nat} {Qr : Option Value → kz_M → Prop} {Qx : String → kz_M → Prop} {x0 : Nat} {x1 : Int64} {x3 : Int32} {x4 : Int32} {x5 : Int32}  {M : kz_M} (h : (∃ fs8, (M).1 x0 = some (.inl (11, fs8))) ∧ kz_C G (d + 2) 0 0 mX12_ofLine [.ref x0, .int x3, .int x4, .int 1] M (fun v M1 => ∃ r2 : Int32, v = some (.int r2) ∧ ((r2 ≤ x5 → Qr (some (.int 0)) M1) ∧ (¬ r2 ≤ x5 → (∃ fs7, (M1).1 x0 = some (.inl (11, fs7))) ∧ kz_C G (d + 2) 0 0 mX12_wordIn [.ref x0, .int x3, .int x4, .int x5] M1 (fun v M4 => ∃ r5 : Int64, v = some (.long r5) ∧ ((¬ r5 = x1 → zX12_stands_3 G d Qr Qx x0 x1 x3 x4 (x5 + 1) M4) ∧ (r5 = x1 → Qr (some (.int 1)) M4))) Qx))) Qx) : zX12_stands_3 G d Qr Qx x0 x1 x3 x4 x5  M := by
  show kz_Z G (d + 3) 0 0 mX12_stands Qr Qx 3 [(0, .ref x0), (1, .long x1), (3, .int x3), (4, .int x4), (5, .int x5)] [] M 0 0
  refine kz_iload (pc := 3) 4 (i := 5) rfl dX12_stands_3 ?_
  refine kz_aload_n (pc := 5) 0 (v := .ref x0) (i := 0) rfl rfl rfl dX12_stands_5 ?_
  refine kz_iload_n (pc := 6) 2 (i := 3) rfl rfl dX12_stands_6 ?_
  refine kz_iload (pc := 7) 3 (i := 4) rfl dX12_stands_7 ?_
  refine kz_iconst (pc := 9) (v := 1) (by decide) dX12_stands_9 ?_
  obtain ⟨⟨fs8, he⟩, h⟩ := h
  refine kz_callV (pc := 10) (μ' := mX12_ofLine) (ci := 11) (q := (RX12, TX12, 32)) (b := x0) (d' := d + 2) (mc' := 0) (ms' := 0) (As := [.int x3, .int x4, .int 1]) (st := [.int x5]) (c := 0) (sl := 0) kmX12_ofLine kw_1636 (by omega) rfl (Nat.le_of_ble_eq_true rfl) he rfl rfl (Nat.le_refl _) (Nat.le_refl _) dX12_stands_10 (fun E M9 hx => kz_Tout rfl (Nat.le_refl _) (Nat.le_refl _) hx) (kz_Cmono (fun v M1 h => ?_) (fun _ _ h => h) h)
  obtain ⟨r2, rfl, h⟩ := h
  show kz_Z G (d + 3) 0 0 mX12_stands Qr Qx 13 [(0, .ref x0), (1, .long x1), (3, .int x3), (4, .int x4), (5, .int x5)] [.int r2, .int x5] M1 0 0
  refine kz_icmp_ge (pc := 13) (tgt := 38) (by decide) dX12_stands_13 (fun hb => ?_) (fun hb => ?_)
  · replace h := h.1 hb
    refine kz_iconst (pc := 38) (v := 0) (by decide) dX12_stands_38 ?_
    exact kz_zret (pc := 39) (ty := .boolean) rfl (by decide) (Nat.le_refl _) (Nat.le_refl _) dX12_stands_39 h
  · replace h := h.2 hb
    refine kz_aload_n (pc := 16) 0 (v := .ref x0) (i := 0) rfl rfl rfl dX12_stands_16 ?_
    refine kz_iload_n (pc := 17) 2 (i := 3) rfl rfl dX12_stands_17 ?_
    refine kz_iload (pc := 18) 3 (i := 4) rfl dX12_stands_18 ?_
    refine kz_iload (pc := 20) 4 (i := 5) rfl dX12_stands_20 ?_
    obtain ⟨⟨fs7, he⟩, h⟩ := h
    refine kz_callV (pc := 22) (μ' := mX12_wordIn) (ci := 11) (q := (RX12, TX12, 32)) (b := x0) (d' := d + 2) (mc' := 0) (ms' := 0) (As := [.int x3, .int x4, .int x5]) (st := []) (c := 0) (sl := 0) kmX12_wordIn kw_1705 (by omega) rfl (Nat.le_of_ble_eq_true rfl) he rfl rfl (Nat.le_refl _) (Nat.le_refl _) dX12_stands_22 (fun E M9 hx => kz_Tout rfl (Nat.le_refl _) (Nat.le_refl _) hx) (kz_Cmono (fun v M4 h => ?_) (fun _ _ h => h) h)
    obtain ⟨r5, rfl, h⟩ := h
    show kz_Z G (d + 3) 0 0 mX12_stands Qr Qx 25 [(0, .ref x0), (1, .long x1), (3, .int x3), (4, .int x4), (5, .int x5)] [.long r5] M4 0 0
    refine kz_lload_n (pc := 25) 1 (i := 1) rfl rfl dX12_stands_25 ?_
    refine kz_lcmp_ne (pc := 26) (tgt := 32) (by decide) dX12_stands_26 dX12_stands_27 (fun hb => ?_) (fun hb => ?_)
    · replace h := h.1 hb
      refine kz_iinc (pc := 32) 4 (i := 5) (v := x5 + 1) (ls' := [(0, .ref x0), (1, .long x1), (3, .int x3), (4, .int x4)]) rfl (congrArg (fun z => x5 + z) (by decide)) (by decide) rfl dX12_stands_32 ?_
      refine kz_goto (pc := 35) (tgt := 3) (by decide) dX12_stands_35 ?_
      refine kz_sub [1, 2, 3, 4, 0] rfl ?_
      exact h
    · replace h := h.2 hb
      refine kz_iconst (pc := 30) (v := 1) (by decide) dX12_stands_30 ?_
      exact kz_zret (pc := 31) (ty := .boolean) rfl (by decide) (Nat.le_refl _) (Nat.le_refl _) dX12_stands_31 h
theorem dX12_areAlike_0 : decode cX12_areAlike 0 = .ok (.aload_n 0, 1) := by decide +kernel
theorem dX12_areAlike_1 : decode cX12_areAlike 1 = .ok (.iload_n 1, 1) := by decide +kernel
theorem dX12_areAlike_2 : decode cX12_areAlike 2 = .ok (.iload_n 2, 1) := by decide +kernel
theorem dX12_areAlike_3 : decode cX12_areAlike 3 = .ok (.iconst 1, 1) := by decide +kernel
theorem dX12_areAlike_4 : decode cX12_areAlike 4 = .ok (.invokevirtual 93, 3) := by decide +kernel
theorem dX12_areAlike_7 : decode cX12_areAlike 7 = .ok (.istore 5, 2) := by decide +kernel
theorem dX12_areAlike_9 : decode cX12_areAlike 9 = .ok (.aload_n 0, 1) := by decide +kernel
theorem dX12_areAlike_10 : decode cX12_areAlike 10 = .ok (.iload_n 3, 1) := by decide +kernel
theorem dX12_areAlike_11 : decode cX12_areAlike 11 = .ok (.iload 4, 2) := by decide +kernel
theorem dX12_areAlike_13 : decode cX12_areAlike 13 = .ok (.iconst 1, 1) := by decide +kernel
theorem dX12_areAlike_14 : decode cX12_areAlike 14 = .ok (.invokevirtual 93, 3) := by decide +kernel
theorem dX12_areAlike_17 : decode cX12_areAlike 17 = .ok (.iload 5, 2) := by decide +kernel
theorem dX12_areAlike_19 : decode cX12_areAlike 19 = .ok (.if_icmp .eq 5, 3) := by decide +kernel
theorem dX12_areAlike_22 : decode cX12_areAlike 22 = .ok (.iconst 0, 1) := by decide +kernel
theorem dX12_areAlike_23 : decode cX12_areAlike 23 = .ok (.ireturn, 1) := by decide +kernel
theorem dX12_areAlike_24 : decode cX12_areAlike 24 = .ok (.iconst 0, 1) := by decide +kernel
theorem dX12_areAlike_25 : decode cX12_areAlike 25 = .ok (.istore 6, 2) := by decide +kernel
theorem dX12_areAlike_27 : decode cX12_areAlike 27 = .ok (.iload 6, 2) := by decide +kernel
theorem dX12_areAlike_29 : decode cX12_areAlike 29 = .ok (.iload 5, 2) := by decide +kernel
theorem dX12_areAlike_31 : decode cX12_areAlike 31 = .ok (.if_icmp .ge 32, 3) := by decide +kernel
theorem dX12_areAlike_34 : decode cX12_areAlike 34 = .ok (.aload_n 0, 1) := by decide +kernel
theorem dX12_areAlike_35 : decode cX12_areAlike 35 = .ok (.iload_n 1, 1) := by decide +kernel
theorem dX12_areAlike_36 : decode cX12_areAlike 36 = .ok (.iload_n 2, 1) := by decide +kernel
theorem dX12_areAlike_37 : decode cX12_areAlike 37 = .ok (.iload 6, 2) := by decide +kernel
theorem dX12_areAlike_39 : decode cX12_areAlike 39 = .ok (.invokevirtual 104, 3) := by decide +kernel
theorem dX12_areAlike_42 : decode cX12_areAlike 42 = .ok (.aload_n 0, 1) := by decide +kernel
theorem dX12_areAlike_43 : decode cX12_areAlike 43 = .ok (.iload_n 3, 1) := by decide +kernel
theorem dX12_areAlike_44 : decode cX12_areAlike 44 = .ok (.iload 4, 2) := by decide +kernel
theorem dX12_areAlike_46 : decode cX12_areAlike 46 = .ok (.iload 6, 2) := by decide +kernel
theorem dX12_areAlike_48 : decode cX12_areAlike 48 = .ok (.invokevirtual 104, 3) := by decide +kernel
theorem dX12_areAlike_51 : decode cX12_areAlike 51 = .ok (.lcmp, 1) := by decide +kernel
theorem dX12_areAlike_52 : decode cX12_areAlike 52 = .ok (.ifCond .eq 5, 3) := by decide +kernel
theorem dX12_areAlike_55 : decode cX12_areAlike 55 = .ok (.iconst 0, 1) := by decide +kernel
theorem dX12_areAlike_56 : decode cX12_areAlike 56 = .ok (.ireturn, 1) := by decide +kernel
theorem dX12_areAlike_57 : decode cX12_areAlike 57 = .ok (.iinc 6 1, 3) := by decide +kernel
theorem dX12_areAlike_60 : decode cX12_areAlike 60 = .ok (.goto (-33), 3) := by decide +kernel
theorem dX12_areAlike_63 : decode cX12_areAlike 63 = .ok (.iconst 1, 1) := by decide +kernel
theorem dX12_areAlike_64 : decode cX12_areAlike 64 = .ok (.ireturn, 1) := by decide +kernel
def zX12_areAlike_27 (G : kz_G) (d : Nat) (Qr : Option Value → kz_M → Prop) (Qx : String → kz_M → Prop) (x0 : Nat) (x1 : Int32) (x2 : Int32) (x3 : Int32) (x4 : Int32) (x5 : Int32) (x6 : Int32)  (M : kz_M) : Prop := kz_Z G (d + 3) 0 0 mX12_areAlike Qr Qx 27 [(0, .ref x0), (1, .int x1), (2, .int x2), (3, .int x3), (4, .int x4), (5, .int x5), (6, .int x6)] [] M 0 0
theorem rX12_areAlike_0 {G : kz_G} {d : Nat} {Qr : Option Value → kz_M → Prop} {Qx : String → kz_M → Prop} {a0 : Nat} {p1 : Int32} {p2 : Int32} {p3 : Int32} {p4 : Int32}  {M : kz_M} (h : (∃ fs8, (M).1 a0 = some (.inl (11, fs8))) ∧ kz_C G (d + 2) 0 0 mX12_ofLine [.ref a0, .int p1, .int p2, .int 1] M (fun v M1 => ∃ r2 : Int32, v = some (.int r2) ∧ ((∃ fs7, (M1).1 a0 = some (.inl (11, fs7))) ∧ kz_C G (d + 2) 0 0 mX12_ofLine [.ref a0, .int p3, .int p4, .int 1] M1 (fun v M4 => ∃ r5 : Int32, v = some (.int r5) ∧ ((r5 = r2 → zX12_areAlike_27 G d Qr Qx a0 p1 p2 p3 p4 r2 0 M4) ∧ (¬ r5 = r2 → Qr (some (.int 0)) M4))) Qx)) Qx) : kz_C G (d + 3) 0 0 mX12_areAlike [.ref a0, .int p1, .int p2, .int p3, .int p4] M Qr Qx := by
  refine kz_enter (n := 4) kmX12_areAlike.1 (Nat.le_of_ble_eq_true rfl) (ls := [(0, .ref a0), (1, .int p1), (2, .int p2), (3, .int p3), (4, .int p4)]) rfl ?_
  refine kz_aload_n (pc := 0) 0 (v := .ref a0) (i := 0) rfl rfl rfl dX12_areAlike_0 ?_
  refine kz_iload_n (pc := 1) 1 (i := 1) rfl rfl dX12_areAlike_1 ?_
  refine kz_iload_n (pc := 2) 2 (i := 2) rfl rfl dX12_areAlike_2 ?_
  refine kz_iconst (pc := 3) (v := 1) (by decide) dX12_areAlike_3 ?_
  obtain ⟨⟨fs8, he⟩, h⟩ := h
  refine kz_callV (pc := 4) (μ' := mX12_ofLine) (ci := 11) (q := (RX12, TX12, 32)) (b := a0) (d' := d + 2) (mc' := 0) (ms' := 0) (As := [.int p1, .int p2, .int 1]) (st := []) (c := 0) (sl := 0) kmX12_ofLine kw_1636 (by omega) rfl (Nat.le_of_ble_eq_true rfl) he rfl rfl (Nat.le_refl _) (Nat.le_refl _) dX12_areAlike_4 (fun E M9 hx => kz_Tout rfl (Nat.le_refl _) (Nat.le_refl _) hx) (kz_Cmono (fun v M1 h => ?_) (fun _ _ h => h) h)
  obtain ⟨r2, rfl, h⟩ := h
  show kz_Z G (d + 3) 0 0 mX12_areAlike Qr Qx 7 [(0, .ref a0), (1, .int p1), (2, .int p2), (3, .int p3), (4, .int p4)] [.int r2] M1 0 0
  refine kz_istore (pc := 7) (i := 5) (ls' := [(0, .ref a0), (1, .int p1), (2, .int p2), (3, .int p3), (4, .int p4)]) (by decide) rfl dX12_areAlike_7 ?_
  refine kz_aload_n (pc := 9) 1 (v := .ref a0) (i := 0) rfl rfl rfl dX12_areAlike_9 ?_
  refine kz_iload_n (pc := 10) 4 (i := 3) rfl rfl dX12_areAlike_10 ?_
  refine kz_iload (pc := 11) 5 (i := 4) rfl dX12_areAlike_11 ?_
  refine kz_iconst (pc := 13) (v := 1) (by decide) dX12_areAlike_13 ?_
  obtain ⟨⟨fs7, he⟩, h⟩ := h
  refine kz_callV (pc := 14) (μ' := mX12_ofLine) (ci := 11) (q := (RX12, TX12, 32)) (b := a0) (d' := d + 2) (mc' := 0) (ms' := 0) (As := [.int p3, .int p4, .int 1]) (st := []) (c := 0) (sl := 0) kmX12_ofLine kw_1636 (by omega) rfl (Nat.le_of_ble_eq_true rfl) he rfl rfl (Nat.le_refl _) (Nat.le_refl _) dX12_areAlike_14 (fun E M9 hx => kz_Tout rfl (Nat.le_refl _) (Nat.le_refl _) hx) (kz_Cmono (fun v M4 h => ?_) (fun _ _ h => h) h)
  obtain ⟨r5, rfl, h⟩ := h
  show kz_Z G (d + 3) 0 0 mX12_areAlike Qr Qx 17 [(5, .int r2), (0, .ref a0), (1, .int p1), (2, .int p2), (3, .int p3), (4, .int p4)] [.int r5] M4 0 0
  refine kz_iload (pc := 17) 0 (i := 5) rfl dX12_areAlike_17 ?_
  refine kz_icmp_eq (pc := 19) (tgt := 24) (by decide) dX12_areAlike_19 (fun hb => ?_) (fun hb => ?_)
  · replace h := h.1 hb
    refine kz_iconst (pc := 24) (v := 0) (by decide) dX12_areAlike_24 ?_
    refine kz_istore (pc := 25) (i := 6) (ls' := [(5, .int r2), (0, .ref a0), (1, .int p1), (2, .int p2), (3, .int p3), (4, .int p4)]) (by decide) rfl dX12_areAlike_25 ?_
    refine kz_sub [2, 3, 4, 5, 6, 1, 0] rfl ?_
    exact h
  · replace h := h.2 hb
    refine kz_iconst (pc := 22) (v := 0) (by decide) dX12_areAlike_22 ?_
    exact kz_zret (pc := 23) (ty := .boolean) rfl (by decide) (Nat.le_refl _) (Nat.le_refl _) dX12_areAlike_23 h
theorem rX12_areAlike_27 {G : kz_G} {d : Nat} {Qr : Option Value → kz_M → Prop} {Qx : String → kz_M → Prop} {x0 : Nat} {x1 : Int32} {x2 : Int32} {x3 : Int32} {x4 : Int32} {x5 : Int32} {x6 : Int32}  {M : kz_M} (h : (x5 ≤ x6 → Qr (some (.int 1)) M) ∧ (¬ x5 ≤ x6 → (∃ fs8, (M).1 x0 = some (.inl (11, fs8))) ∧ kz_C G (d + 2) 0 0 mX12_wordIn [.ref x0, .int x1, .int x2, .int x6] M (fun v M1 => ∃ r2 : Int64, v = some (.long r2) ∧ ((∃ fs7, (M1).1 x0 = some (.inl (11, fs7))) ∧ kz_C G (d + 2) 0 0 mX12_wordIn [.ref x0, .int x3, .int x4, .int x6] M1 (fun v M4 => ∃ r5 : Int64, v = some (.long r5) ∧ ((r2 = r5 → zX12_areAlike_27 G d Qr Qx x0 x1 x2 x3 x4 x5 (x6 + 1) M4) ∧ (¬ r2 = r5 → Qr (some (.int 0)) M4))) Qx)) Qx)) : zX12_areAlike_27 G d Qr Qx x0 x1 x2 x3 x4 x5 x6  M := by
  show kz_Z G (d + 3) 0 0 mX12_areAlike Qr Qx 27 [(0, .ref x0), (1, .int x1), (2, .int x2), (3, .int x3), (4, .int x4), (5, .int x5), (6, .int x6)] [] M 0 0
  refine kz_iload (pc := 27) 6 (i := 6) rfl dX12_areAlike_27 ?_
  refine kz_iload (pc := 29) 5 (i := 5) rfl dX12_areAlike_29 ?_
  refine kz_icmp_ge (pc := 31) (tgt := 63) (by decide) dX12_areAlike_31 (fun hb => ?_) (fun hb => ?_)
  · replace h := h.1 hb
    refine kz_iconst (pc := 63) (v := 1) (by decide) dX12_areAlike_63 ?_
    exact kz_zret (pc := 64) (ty := .boolean) rfl (by decide) (Nat.le_refl _) (Nat.le_refl _) dX12_areAlike_64 h
  · replace h := h.2 hb
    refine kz_aload_n (pc := 34) 0 (v := .ref x0) (i := 0) rfl rfl rfl dX12_areAlike_34 ?_
    refine kz_iload_n (pc := 35) 1 (i := 1) rfl rfl dX12_areAlike_35 ?_
    refine kz_iload_n (pc := 36) 2 (i := 2) rfl rfl dX12_areAlike_36 ?_
    refine kz_iload (pc := 37) 6 (i := 6) rfl dX12_areAlike_37 ?_
    obtain ⟨⟨fs8, he⟩, h⟩ := h
    refine kz_callV (pc := 39) (μ' := mX12_wordIn) (ci := 11) (q := (RX12, TX12, 32)) (b := x0) (d' := d + 2) (mc' := 0) (ms' := 0) (As := [.int x1, .int x2, .int x6]) (st := []) (c := 0) (sl := 0) kmX12_wordIn kw_1705 (by omega) rfl (Nat.le_of_ble_eq_true rfl) he rfl rfl (Nat.le_refl _) (Nat.le_refl _) dX12_areAlike_39 (fun E M9 hx => kz_Tout rfl (Nat.le_refl _) (Nat.le_refl _) hx) (kz_Cmono (fun v M1 h => ?_) (fun _ _ h => h) h)
    obtain ⟨r2, rfl, h⟩ := h
    show kz_Z G (d + 3) 0 0 mX12_areAlike Qr Qx 42 [(0, .ref x0), (1, .int x1), (2, .int x2), (3, .int x3), (4, .int x4), (5, .int x5), (6, .int x6)] [.long r2] M1 0 0
    refine kz_aload_n (pc := 42) 0 (v := .ref x0) (i := 0) rfl rfl rfl dX12_areAlike_42 ?_
    refine kz_iload_n (pc := 43) 3 (i := 3) rfl rfl dX12_areAlike_43 ?_
    refine kz_iload (pc := 44) 4 (i := 4) rfl dX12_areAlike_44 ?_
    refine kz_iload (pc := 46) 6 (i := 6) rfl dX12_areAlike_46 ?_
    obtain ⟨⟨fs7, he⟩, h⟩ := h
    refine kz_callV (pc := 48) (μ' := mX12_wordIn) (ci := 11) (q := (RX12, TX12, 32)) (b := x0) (d' := d + 2) (mc' := 0) (ms' := 0) (As := [.int x3, .int x4, .int x6]) (st := [.long r2]) (c := 0) (sl := 0) kmX12_wordIn kw_1705 (by omega) rfl (Nat.le_of_ble_eq_true rfl) he rfl rfl (Nat.le_refl _) (Nat.le_refl _) dX12_areAlike_48 (fun E M9 hx => kz_Tout rfl (Nat.le_refl _) (Nat.le_refl _) hx) (kz_Cmono (fun v M4 h => ?_) (fun _ _ h => h) h)
    obtain ⟨r5, rfl, h⟩ := h
    show kz_Z G (d + 3) 0 0 mX12_areAlike Qr Qx 51 [(0, .ref x0), (1, .int x1), (2, .int x2), (3, .int x3), (4, .int x4), (5, .int x5), (6, .int x6)] [.long r5, .long r2] M4 0 0
    refine kz_lcmp_eq (pc := 51) (tgt := 57) (by decide) dX12_areAlike_51 dX12_areAlike_52 (fun hb => ?_) (fun hb => ?_)
    · replace h := h.1 hb
      refine kz_iinc (pc := 57) 6 (i := 6) (v := x6 + 1) (ls' := [(0, .ref x0), (1, .int x1), (2, .int x2), (3, .int x3), (4, .int x4), (5, .int x5)]) rfl (congrArg (fun z => x6 + z) (by decide)) (by decide) rfl dX12_areAlike_57 ?_
      refine kz_goto (pc := 60) (tgt := 27) (by decide) dX12_areAlike_60 ?_
      refine kz_sub [1, 2, 3, 4, 5, 6, 0] rfl ?_
      exact h
    · replace h := h.2 hb
      refine kz_iconst (pc := 55) (v := 0) (by decide) dX12_areAlike_55 ?_
      exact kz_zret (pc := 56) (ty := .boolean) rfl (by decide) (Nat.le_refl _) (Nat.le_refl _) dX12_areAlike_56 h
theorem dX12_placeIn_0 : decode cX12_placeIn 0 = .ok (.iconst 0, 1) := by decide +kernel
theorem dX12_placeIn_1 : decode cX12_placeIn 1 = .ok (.istore 4, 2) := by decide +kernel
theorem dX12_placeIn_3 : decode cX12_placeIn 3 = .ok (.iload 4, 2) := by decide +kernel
theorem dX12_placeIn_5 : decode cX12_placeIn 5 = .ok (.aload_n 0, 1) := by decide +kernel
theorem dX12_placeIn_6 : decode cX12_placeIn 6 = .ok (.iload_n 1, 1) := by decide +kernel
theorem dX12_placeIn_7 : decode cX12_placeIn 7 = .ok (.iconst 3, 1) := by decide +kernel
theorem dX12_placeIn_8 : decode cX12_placeIn 8 = .ok (.invokevirtual 101, 3) := by decide +kernel
theorem dX12_placeIn_11 : decode cX12_placeIn 11 = .ok (.if_icmp .ge 24, 3) := by decide +kernel
theorem dX12_placeIn_14 : decode cX12_placeIn 14 = .ok (.aload_n 0, 1) := by decide +kernel
theorem dX12_placeIn_15 : decode cX12_placeIn 15 = .ok (.iload_n 1, 1) := by decide +kernel
theorem dX12_placeIn_16 : decode cX12_placeIn 16 = .ok (.iload 4, 2) := by decide +kernel
theorem dX12_placeIn_18 : decode cX12_placeIn 18 = .ok (.invokevirtual 97, 3) := by decide +kernel
theorem dX12_placeIn_21 : decode cX12_placeIn 21 = .ok (.lload_n 2, 1) := by decide +kernel
theorem dX12_placeIn_22 : decode cX12_placeIn 22 = .ok (.lcmp, 1) := by decide +kernel
theorem dX12_placeIn_23 : decode cX12_placeIn 23 = .ok (.ifCond .ne 6, 3) := by decide +kernel
theorem dX12_placeIn_26 : decode cX12_placeIn 26 = .ok (.iload 4, 2) := by decide +kernel
theorem dX12_placeIn_28 : decode cX12_placeIn 28 = .ok (.ireturn, 1) := by decide +kernel
theorem dX12_placeIn_29 : decode cX12_placeIn 29 = .ok (.iinc 4 1, 3) := by decide +kernel
theorem dX12_placeIn_32 : decode cX12_placeIn 32 = .ok (.goto (-29), 3) := by decide +kernel
theorem dX12_placeIn_35 : decode cX12_placeIn 35 = .ok (.iconst (-1), 1) := by decide +kernel
theorem dX12_placeIn_36 : decode cX12_placeIn 36 = .ok (.ireturn, 1) := by decide +kernel
def zX12_placeIn_3 (G : kz_G) (d : Nat) (Qr : Option Value → kz_M → Prop) (Qx : String → kz_M → Prop) (x0 : Nat) (x1 : Int32) (x2 : Int64) (x4 : Int32)  (M : kz_M) : Prop := kz_Z G (d + 1) 0 0 mX12_placeIn Qr Qx 3 [(0, .ref x0), (1, .int x1), (2, .long x2), (4, .int x4)] [] M 0 0
theorem rX12_placeIn_0 {G : kz_G} {d : Nat} {Qr : Option Value → kz_M → Prop} {Qx : String → kz_M → Prop} {a0 : Nat} {p1 : Int32} {p2 : Int64}  {M : kz_M} (h : zX12_placeIn_3 G d Qr Qx a0 p1 p2 0 M) : kz_C G (d + 1) 0 0 mX12_placeIn [.ref a0, .int p1, .long p2] M Qr Qx := by
  refine kz_enter (n := 2) kmX12_placeIn.1 (Nat.le_of_ble_eq_true rfl) (ls := [(0, .ref a0), (1, .int p1), (2, .long p2)]) rfl ?_
  refine kz_iconst (pc := 0) (v := 0) (by decide) dX12_placeIn_0 ?_
  refine kz_istore (pc := 1) (i := 4) (ls' := [(0, .ref a0), (1, .int p1), (2, .long p2)]) (by decide) rfl dX12_placeIn_1 ?_
  refine kz_sub [1, 2, 3, 0] rfl ?_
  exact h
theorem rX12_placeIn_3 {G : kz_G} {d : Nat} {Qr : Option Value → kz_M → Prop} {Qx : String → kz_M → Prop} {x0 : Nat} {x1 : Int32} {x2 : Int64} {x4 : Int32}  {M : kz_M} (h : (∃ fs8, (M).1 x0 = some (.inl (11, fs8))) ∧ kz_C G (d + 0) 0 0 mX12_of [.ref x0, .int x1, .int 3] M (fun v M1 => ∃ r2 : Int32, v = some (.int r2) ∧ ((r2 ≤ x4 → Qr (some (.int ((-1)))) M1) ∧ (¬ r2 ≤ x4 → (∃ fs7, (M1).1 x0 = some (.inl (11, fs7))) ∧ kz_C G (d + 0) 0 0 mX12_word [.ref x0, .int x1, .int x4] M1 (fun v M4 => ∃ r5 : Int64, v = some (.long r5) ∧ ((¬ r5 = x2 → zX12_placeIn_3 G d Qr Qx x0 x1 x2 (x4 + 1) M4) ∧ (r5 = x2 → Qr (some (.int x4)) M4))) Qx))) Qx) : zX12_placeIn_3 G d Qr Qx x0 x1 x2 x4  M := by
  show kz_Z G (d + 1) 0 0 mX12_placeIn Qr Qx 3 [(0, .ref x0), (1, .int x1), (2, .long x2), (4, .int x4)] [] M 0 0
  refine kz_iload (pc := 3) 3 (i := 4) rfl dX12_placeIn_3 ?_
  refine kz_aload_n (pc := 5) 0 (v := .ref x0) (i := 0) rfl rfl rfl dX12_placeIn_5 ?_
  refine kz_iload_n (pc := 6) 1 (i := 1) rfl rfl dX12_placeIn_6 ?_
  refine kz_iconst (pc := 7) (v := 3) (by decide) dX12_placeIn_7 ?_
  obtain ⟨⟨fs8, he⟩, h⟩ := h
  refine kz_callV (pc := 8) (μ' := mX12_of) (ci := 11) (q := (RX12, TX12, 32)) (b := x0) (d' := d + 0) (mc' := 0) (ms' := 0) (As := [.int x1, .int 3]) (st := [.int x4]) (c := 0) (sl := 0) kmX12_of kw_1620 (by omega) rfl (Nat.le_of_ble_eq_true rfl) he rfl rfl (Nat.le_refl _) (Nat.le_refl _) dX12_placeIn_8 (fun E M9 hx => kz_Tout rfl (Nat.le_refl _) (Nat.le_refl _) hx) (kz_Cmono (fun v M1 h => ?_) (fun _ _ h => h) h)
  obtain ⟨r2, rfl, h⟩ := h
  show kz_Z G (d + 1) 0 0 mX12_placeIn Qr Qx 11 [(0, .ref x0), (1, .int x1), (2, .long x2), (4, .int x4)] [.int r2, .int x4] M1 0 0
  refine kz_icmp_ge (pc := 11) (tgt := 35) (by decide) dX12_placeIn_11 (fun hb => ?_) (fun hb => ?_)
  · replace h := h.1 hb
    refine kz_iconst (pc := 35) (v := (-1)) (by decide) dX12_placeIn_35 ?_
    exact kz_iret (pc := 36) rfl (Nat.le_refl _) (Nat.le_refl _) dX12_placeIn_36 h
  · replace h := h.2 hb
    refine kz_aload_n (pc := 14) 0 (v := .ref x0) (i := 0) rfl rfl rfl dX12_placeIn_14 ?_
    refine kz_iload_n (pc := 15) 1 (i := 1) rfl rfl dX12_placeIn_15 ?_
    refine kz_iload (pc := 16) 3 (i := 4) rfl dX12_placeIn_16 ?_
    obtain ⟨⟨fs7, he⟩, h⟩ := h
    refine kz_callV (pc := 18) (μ' := mX12_word) (ci := 11) (q := (RX12, TX12, 32)) (b := x0) (d' := d + 0) (mc' := 0) (ms' := 0) (As := [.int x1, .int x4]) (st := []) (c := 0) (sl := 0) kmX12_word kw_1689 (by omega) rfl (Nat.le_of_ble_eq_true rfl) he rfl rfl (Nat.le_refl _) (Nat.le_refl _) dX12_placeIn_18 (fun E M9 hx => kz_Tout rfl (Nat.le_refl _) (Nat.le_refl _) hx) (kz_Cmono (fun v M4 h => ?_) (fun _ _ h => h) h)
    obtain ⟨r5, rfl, h⟩ := h
    show kz_Z G (d + 1) 0 0 mX12_placeIn Qr Qx 21 [(0, .ref x0), (1, .int x1), (2, .long x2), (4, .int x4)] [.long r5] M4 0 0
    refine kz_lload_n (pc := 21) 2 (i := 2) rfl rfl dX12_placeIn_21 ?_
    refine kz_lcmp_ne (pc := 22) (tgt := 29) (by decide) dX12_placeIn_22 dX12_placeIn_23 (fun hb => ?_) (fun hb => ?_)
    · replace h := h.1 hb
      refine kz_iinc (pc := 29) 3 (i := 4) (v := x4 + 1) (ls' := [(0, .ref x0), (1, .int x1), (2, .long x2)]) rfl (congrArg (fun z => x4 + z) (by decide)) (by decide) rfl dX12_placeIn_29 ?_
      refine kz_goto (pc := 32) (tgt := 3) (by decide) dX12_placeIn_32 ?_
      refine kz_sub [1, 2, 3, 0] rfl ?_
      exact h
    · replace h := h.2 hb
      refine kz_iload (pc := 26) 3 (i := 4) rfl dX12_placeIn_26 ?_
      exact kz_iret (pc := 28) rfl (Nat.le_refl _) (Nat.le_refl _) dX12_placeIn_28 h
theorem dX12_distinctIn_0 : decode cX12_distinctIn 0 = .ok (.iconst 0, 1) := by decide +kernel
theorem dX12_distinctIn_1 : decode cX12_distinctIn 1 = .ok (.istore_n 2, 1) := by decide +kernel
theorem dX12_distinctIn_2 : decode cX12_distinctIn 2 = .ok (.iconst 0, 1) := by decide +kernel
theorem dX12_distinctIn_3 : decode cX12_distinctIn 3 = .ok (.istore_n 3, 1) := by decide +kernel
theorem dX12_distinctIn_4 : decode cX12_distinctIn 4 = .ok (.iload_n 3, 1) := by decide +kernel
theorem dX12_distinctIn_5 : decode cX12_distinctIn 5 = .ok (.aload_n 0, 1) := by decide +kernel
theorem dX12_distinctIn_6 : decode cX12_distinctIn 6 = .ok (.iload_n 1, 1) := by decide +kernel
theorem dX12_distinctIn_7 : decode cX12_distinctIn 7 = .ok (.iconst 3, 1) := by decide +kernel
theorem dX12_distinctIn_8 : decode cX12_distinctIn 8 = .ok (.invokevirtual 101, 3) := by decide +kernel
theorem dX12_distinctIn_11 : decode cX12_distinctIn 11 = .ok (.if_icmp .ge 32, 3) := by decide +kernel
theorem dX12_distinctIn_14 : decode cX12_distinctIn 14 = .ok (.iload_n 2, 1) := by decide +kernel
theorem dX12_distinctIn_15 : decode cX12_distinctIn 15 = .ok (.aload_n 0, 1) := by decide +kernel
theorem dX12_distinctIn_16 : decode cX12_distinctIn 16 = .ok (.iload_n 1, 1) := by decide +kernel
theorem dX12_distinctIn_17 : decode cX12_distinctIn 17 = .ok (.aload_n 0, 1) := by decide +kernel
theorem dX12_distinctIn_18 : decode cX12_distinctIn 18 = .ok (.iload_n 1, 1) := by decide +kernel
theorem dX12_distinctIn_19 : decode cX12_distinctIn 19 = .ok (.iload_n 3, 1) := by decide +kernel
theorem dX12_distinctIn_20 : decode cX12_distinctIn 20 = .ok (.invokevirtual 97, 3) := by decide +kernel
theorem dX12_distinctIn_23 : decode cX12_distinctIn 23 = .ok (.invokevirtual 112, 3) := by decide +kernel
theorem dX12_distinctIn_26 : decode cX12_distinctIn 26 = .ok (.iload_n 3, 1) := by decide +kernel
theorem dX12_distinctIn_27 : decode cX12_distinctIn 27 = .ok (.if_icmp .ne 7, 3) := by decide +kernel
theorem dX12_distinctIn_30 : decode cX12_distinctIn 30 = .ok (.iconst 1, 1) := by decide +kernel
theorem dX12_distinctIn_31 : decode cX12_distinctIn 31 = .ok (.goto 4, 3) := by decide +kernel
theorem dX12_distinctIn_34 : decode cX12_distinctIn 34 = .ok (.iconst 0, 1) := by decide +kernel
theorem dX12_distinctIn_35 : decode cX12_distinctIn 35 = .ok (.iadd, 1) := by decide +kernel
theorem dX12_distinctIn_36 : decode cX12_distinctIn 36 = .ok (.istore_n 2, 1) := by decide +kernel
theorem dX12_distinctIn_37 : decode cX12_distinctIn 37 = .ok (.iinc 3 1, 3) := by decide +kernel
theorem dX12_distinctIn_40 : decode cX12_distinctIn 40 = .ok (.goto (-36), 3) := by decide +kernel
theorem dX12_distinctIn_43 : decode cX12_distinctIn 43 = .ok (.iload_n 2, 1) := by decide +kernel
theorem dX12_distinctIn_44 : decode cX12_distinctIn 44 = .ok (.ireturn, 1) := by decide +kernel
def zX12_distinctIn_4 (G : kz_G) (d : Nat) (Qr : Option Value → kz_M → Prop) (Qx : String → kz_M → Prop) (x0 : Nat) (x1 : Int32) (x2 : Int32) (x3 : Int32)  (M : kz_M) : Prop := kz_Z G (d + 2) 0 0 mX12_distinctIn Qr Qx 4 [(0, .ref x0), (1, .int x1), (2, .int x2), (3, .int x3)] [] M 0 0
theorem rX12_distinctIn_0 {G : kz_G} {d : Nat} {Qr : Option Value → kz_M → Prop} {Qx : String → kz_M → Prop} {a0 : Nat} {p1 : Int32}  {M : kz_M} (h : zX12_distinctIn_4 G d Qr Qx a0 p1 0 0 M) : kz_C G (d + 2) 0 0 mX12_distinctIn [.ref a0, .int p1] M Qr Qx := by
  refine kz_enter (n := 1) kmX12_distinctIn.1 (Nat.le_of_ble_eq_true rfl) (ls := [(0, .ref a0), (1, .int p1)]) rfl ?_
  refine kz_iconst (pc := 0) (v := 0) (by decide) dX12_distinctIn_0 ?_
  refine kz_istore_n (pc := 1) (i := 2) (ls' := [(0, .ref a0), (1, .int p1)]) rfl (by decide) rfl dX12_distinctIn_1 ?_
  refine kz_iconst (pc := 2) (v := 0) (by decide) dX12_distinctIn_2 ?_
  refine kz_istore_n (pc := 3) (i := 3) (ls' := [(2, .int 0), (0, .ref a0), (1, .int p1)]) rfl (by decide) rfl dX12_distinctIn_3 ?_
  refine kz_sub [2, 3, 1, 0] rfl ?_
  exact h
theorem rX12_distinctIn_4 {G : kz_G} {d : Nat} {Qr : Option Value → kz_M → Prop} {Qx : String → kz_M → Prop} {x0 : Nat} {x1 : Int32} {x2 : Int32} {x3 : Int32}  {M : kz_M} (h : (∃ fs12, (M).1 x0 = some (.inl (11, fs12))) ∧ kz_C G (d + 1) 0 0 mX12_of [.ref x0, .int x1, .int 3] M (fun v M1 => ∃ r2 : Int32, v = some (.int r2) ∧ ((r2 ≤ x3 → Qr (some (.int x2)) M1) ∧ (¬ r2 ≤ x3 → (∃ fs11, (M1).1 x0 = some (.inl (11, fs11))) ∧ kz_C G (d + 1) 0 0 mX12_word [.ref x0, .int x1, .int x3] M1 (fun v M4 => ∃ r5 : Int64, v = some (.long r5) ∧ ((∃ fs10, (M4).1 x0 = some (.inl (11, fs10))) ∧ kz_C G (d + 1) 0 0 mX12_placeIn [.ref x0, .int x1, .long r5] M4 (fun v M7 => ∃ r8 : Int32, v = some (.int r8) ∧ ((¬ r8 = x3 → zX12_distinctIn_4 G d Qr Qx x0 x1 (x2 + 0) (x3 + 1) M7) ∧ (r8 = x3 → zX12_distinctIn_4 G d Qr Qx x0 x1 (x2 + 1) (x3 + 1) M7))) Qx)) Qx))) Qx) : zX12_distinctIn_4 G d Qr Qx x0 x1 x2 x3  M := by
  show kz_Z G (d + 2) 0 0 mX12_distinctIn Qr Qx 4 [(0, .ref x0), (1, .int x1), (2, .int x2), (3, .int x3)] [] M 0 0
  refine kz_iload_n (pc := 4) 3 (i := 3) rfl rfl dX12_distinctIn_4 ?_
  refine kz_aload_n (pc := 5) 0 (v := .ref x0) (i := 0) rfl rfl rfl dX12_distinctIn_5 ?_
  refine kz_iload_n (pc := 6) 1 (i := 1) rfl rfl dX12_distinctIn_6 ?_
  refine kz_iconst (pc := 7) (v := 3) (by decide) dX12_distinctIn_7 ?_
  obtain ⟨⟨fs12, he⟩, h⟩ := h
  refine kz_callV (pc := 8) (μ' := mX12_of) (ci := 11) (q := (RX12, TX12, 32)) (b := x0) (d' := d + 1) (mc' := 0) (ms' := 0) (As := [.int x1, .int 3]) (st := [.int x3]) (c := 0) (sl := 0) kmX12_of kw_1620 (by omega) rfl (Nat.le_of_ble_eq_true rfl) he rfl rfl (Nat.le_refl _) (Nat.le_refl _) dX12_distinctIn_8 (fun E M9 hx => kz_Tout rfl (Nat.le_refl _) (Nat.le_refl _) hx) (kz_Cmono (fun v M1 h => ?_) (fun _ _ h => h) h)
  obtain ⟨r2, rfl, h⟩ := h
  show kz_Z G (d + 2) 0 0 mX12_distinctIn Qr Qx 11 [(0, .ref x0), (1, .int x1), (2, .int x2), (3, .int x3)] [.int r2, .int x3] M1 0 0
  refine kz_icmp_ge (pc := 11) (tgt := 43) (by decide) dX12_distinctIn_11 (fun hb => ?_) (fun hb => ?_)
  · replace h := h.1 hb
    refine kz_iload_n (pc := 43) 2 (i := 2) rfl rfl dX12_distinctIn_43 ?_
    exact kz_iret (pc := 44) rfl (Nat.le_refl _) (Nat.le_refl _) dX12_distinctIn_44 h
  · replace h := h.2 hb
    refine kz_iload_n (pc := 14) 2 (i := 2) rfl rfl dX12_distinctIn_14 ?_
    refine kz_aload_n (pc := 15) 0 (v := .ref x0) (i := 0) rfl rfl rfl dX12_distinctIn_15 ?_
    refine kz_iload_n (pc := 16) 1 (i := 1) rfl rfl dX12_distinctIn_16 ?_
    refine kz_aload_n (pc := 17) 0 (v := .ref x0) (i := 0) rfl rfl rfl dX12_distinctIn_17 ?_
    refine kz_iload_n (pc := 18) 1 (i := 1) rfl rfl dX12_distinctIn_18 ?_
    refine kz_iload_n (pc := 19) 3 (i := 3) rfl rfl dX12_distinctIn_19 ?_
    obtain ⟨⟨fs11, he⟩, h⟩ := h
    refine kz_callV (pc := 20) (μ' := mX12_word) (ci := 11) (q := (RX12, TX12, 32)) (b := x0) (d' := d + 1) (mc' := 0) (ms' := 0) (As := [.int x1, .int x3]) (st := [.int x1, .ref x0, .int x2]) (c := 0) (sl := 0) kmX12_word kw_1689 (by omega) rfl (Nat.le_of_ble_eq_true rfl) he rfl rfl (Nat.le_refl _) (Nat.le_refl _) dX12_distinctIn_20 (fun E M9 hx => kz_Tout rfl (Nat.le_refl _) (Nat.le_refl _) hx) (kz_Cmono (fun v M4 h => ?_) (fun _ _ h => h) h)
    obtain ⟨r5, rfl, h⟩ := h
    show kz_Z G (d + 2) 0 0 mX12_distinctIn Qr Qx 23 [(0, .ref x0), (1, .int x1), (2, .int x2), (3, .int x3)] [.long r5, .int x1, .ref x0, .int x2] M4 0 0
    obtain ⟨⟨fs10, he⟩, h⟩ := h
    refine kz_callV (pc := 23) (μ' := mX12_placeIn) (ci := 11) (q := (RX12, TX12, 32)) (b := x0) (d' := d + 1) (mc' := 0) (ms' := 0) (As := [.int x1, .long r5]) (st := [.int x2]) (c := 0) (sl := 0) kmX12_placeIn kw_1693 (by omega) rfl (Nat.le_of_ble_eq_true rfl) he rfl rfl (Nat.le_refl _) (Nat.le_refl _) dX12_distinctIn_23 (fun E M9 hx => kz_Tout rfl (Nat.le_refl _) (Nat.le_refl _) hx) (kz_Cmono (fun v M7 h => ?_) (fun _ _ h => h) h)
    obtain ⟨r8, rfl, h⟩ := h
    show kz_Z G (d + 2) 0 0 mX12_distinctIn Qr Qx 26 [(0, .ref x0), (1, .int x1), (2, .int x2), (3, .int x3)] [.int r8, .int x2] M7 0 0
    refine kz_iload_n (pc := 26) 3 (i := 3) rfl rfl dX12_distinctIn_26 ?_
    refine kz_icmp_ne (pc := 27) (tgt := 34) (by decide) dX12_distinctIn_27 (fun hb => ?_) (fun hb => ?_)
    · replace h := h.1 hb
      refine kz_iconst (pc := 34) (v := 0) (by decide) dX12_distinctIn_34 ?_
      refine kz_iadd (pc := 35) dX12_distinctIn_35 ?_
      refine kz_istore_n (pc := 36) (i := 2) (ls' := [(0, .ref x0), (1, .int x1), (3, .int x3)]) rfl (by decide) rfl dX12_distinctIn_36 ?_
      refine kz_iinc (pc := 37) 3 (i := 3) (v := x3 + 1) (ls' := [(2, .int (x2 + 0)), (0, .ref x0), (1, .int x1)]) rfl (congrArg (fun z => x3 + z) (by decide)) (by decide) rfl dX12_distinctIn_37 ?_
      refine kz_goto (pc := 40) (tgt := 4) (by decide) dX12_distinctIn_40 ?_
      refine kz_sub [2, 3, 1, 0] rfl ?_
      exact h
    · replace h := h.2 hb
      refine kz_iconst (pc := 30) (v := 1) (by decide) dX12_distinctIn_30 ?_
      refine kz_goto (pc := 31) (tgt := 35) (by decide) dX12_distinctIn_31 ?_
      refine kz_iadd (pc := 35) dX12_distinctIn_35 ?_
      refine kz_istore_n (pc := 36) (i := 2) (ls' := [(0, .ref x0), (1, .int x1), (3, .int x3)]) rfl (by decide) rfl dX12_distinctIn_36 ?_
      refine kz_iinc (pc := 37) 3 (i := 3) (v := x3 + 1) (ls' := [(2, .int (x2 + 1)), (0, .ref x0), (1, .int x1)]) rfl (congrArg (fun z => x3 + z) (by decide)) (by decide) rfl dX12_distinctIn_37 ?_
      refine kz_goto (pc := 40) (tgt := 4) (by decide) dX12_distinctIn_40 ?_
      refine kz_sub [2, 3, 1, 0] rfl ?_
      exact h
theorem dX12_distinctOf_0 : decode cX12_distinctOf 0 = .ok (.iconst 0, 1) := by decide +kernel
theorem dX12_distinctOf_1 : decode cX12_distinctOf 1 = .ok (.istore_n 3, 1) := by decide +kernel
theorem dX12_distinctOf_2 : decode cX12_distinctOf 2 = .ok (.iconst 0, 1) := by decide +kernel
theorem dX12_distinctOf_3 : decode cX12_distinctOf 3 = .ok (.istore 4, 2) := by decide +kernel
theorem dX12_distinctOf_5 : decode cX12_distinctOf 5 = .ok (.iload 4, 2) := by decide +kernel
theorem dX12_distinctOf_7 : decode cX12_distinctOf 7 = .ok (.aload_n 0, 1) := by decide +kernel
theorem dX12_distinctOf_8 : decode cX12_distinctOf 8 = .ok (.iload_n 1, 1) := by decide +kernel
theorem dX12_distinctOf_9 : decode cX12_distinctOf 9 = .ok (.iload_n 2, 1) := by decide +kernel
theorem dX12_distinctOf_10 : decode cX12_distinctOf 10 = .ok (.iconst 1, 1) := by decide +kernel
theorem dX12_distinctOf_11 : decode cX12_distinctOf 11 = .ok (.invokevirtual 93, 3) := by decide +kernel
theorem dX12_distinctOf_14 : decode cX12_distinctOf 14 = .ok (.if_icmp .ge 73, 3) := by decide +kernel
theorem dX12_distinctOf_17 : decode cX12_distinctOf 17 = .ok (.iconst 1, 1) := by decide +kernel
theorem dX12_distinctOf_18 : decode cX12_distinctOf 18 = .ok (.istore 5, 2) := by decide +kernel
theorem dX12_distinctOf_20 : decode cX12_distinctOf 20 = .ok (.iconst 0, 1) := by decide +kernel
theorem dX12_distinctOf_21 : decode cX12_distinctOf 21 = .ok (.istore 6, 2) := by decide +kernel
theorem dX12_distinctOf_23 : decode cX12_distinctOf 23 = .ok (.iload 6, 2) := by decide +kernel
theorem dX12_distinctOf_25 : decode cX12_distinctOf 25 = .ok (.iload 4, 2) := by decide +kernel
theorem dX12_distinctOf_27 : decode cX12_distinctOf 27 = .ok (.if_icmp .ge 41, 3) := by decide +kernel
theorem dX12_distinctOf_30 : decode cX12_distinctOf 30 = .ok (.iload 5, 2) := by decide +kernel
theorem dX12_distinctOf_32 : decode cX12_distinctOf 32 = .ok (.ifCond .eq 27, 3) := by decide +kernel
theorem dX12_distinctOf_35 : decode cX12_distinctOf 35 = .ok (.aload_n 0, 1) := by decide +kernel
theorem dX12_distinctOf_36 : decode cX12_distinctOf 36 = .ok (.iload_n 1, 1) := by decide +kernel
theorem dX12_distinctOf_37 : decode cX12_distinctOf 37 = .ok (.iload_n 2, 1) := by decide +kernel
theorem dX12_distinctOf_38 : decode cX12_distinctOf 38 = .ok (.iload 6, 2) := by decide +kernel
theorem dX12_distinctOf_40 : decode cX12_distinctOf 40 = .ok (.invokevirtual 104, 3) := by decide +kernel
theorem dX12_distinctOf_43 : decode cX12_distinctOf 43 = .ok (.aload_n 0, 1) := by decide +kernel
theorem dX12_distinctOf_44 : decode cX12_distinctOf 44 = .ok (.iload_n 1, 1) := by decide +kernel
theorem dX12_distinctOf_45 : decode cX12_distinctOf 45 = .ok (.iload_n 2, 1) := by decide +kernel
theorem dX12_distinctOf_46 : decode cX12_distinctOf 46 = .ok (.iload 4, 2) := by decide +kernel
theorem dX12_distinctOf_48 : decode cX12_distinctOf 48 = .ok (.invokevirtual 104, 3) := by decide +kernel
theorem dX12_distinctOf_51 : decode cX12_distinctOf 51 = .ok (.lcmp, 1) := by decide +kernel
theorem dX12_distinctOf_52 : decode cX12_distinctOf 52 = .ok (.ifCond .eq 7, 3) := by decide +kernel
theorem dX12_distinctOf_55 : decode cX12_distinctOf 55 = .ok (.iconst 1, 1) := by decide +kernel
theorem dX12_distinctOf_56 : decode cX12_distinctOf 56 = .ok (.goto 4, 3) := by decide +kernel
theorem dX12_distinctOf_59 : decode cX12_distinctOf 59 = .ok (.iconst 0, 1) := by decide +kernel
theorem dX12_distinctOf_60 : decode cX12_distinctOf 60 = .ok (.istore 5, 2) := by decide +kernel
theorem dX12_distinctOf_62 : decode cX12_distinctOf 62 = .ok (.iinc 6 1, 3) := by decide +kernel
theorem dX12_distinctOf_65 : decode cX12_distinctOf 65 = .ok (.goto (-42), 3) := by decide +kernel
theorem dX12_distinctOf_68 : decode cX12_distinctOf 68 = .ok (.iload_n 3, 1) := by decide +kernel
theorem dX12_distinctOf_69 : decode cX12_distinctOf 69 = .ok (.iload 5, 2) := by decide +kernel
theorem dX12_distinctOf_71 : decode cX12_distinctOf 71 = .ok (.ifCond .eq 7, 3) := by decide +kernel
theorem dX12_distinctOf_74 : decode cX12_distinctOf 74 = .ok (.iconst 1, 1) := by decide +kernel
theorem dX12_distinctOf_75 : decode cX12_distinctOf 75 = .ok (.goto 4, 3) := by decide +kernel
theorem dX12_distinctOf_78 : decode cX12_distinctOf 78 = .ok (.iconst 0, 1) := by decide +kernel
theorem dX12_distinctOf_79 : decode cX12_distinctOf 79 = .ok (.iadd, 1) := by decide +kernel
theorem dX12_distinctOf_80 : decode cX12_distinctOf 80 = .ok (.istore_n 3, 1) := by decide +kernel
theorem dX12_distinctOf_81 : decode cX12_distinctOf 81 = .ok (.iinc 4 1, 3) := by decide +kernel
theorem dX12_distinctOf_84 : decode cX12_distinctOf 84 = .ok (.goto (-79), 3) := by decide +kernel
theorem dX12_distinctOf_87 : decode cX12_distinctOf 87 = .ok (.iload_n 3, 1) := by decide +kernel
theorem dX12_distinctOf_88 : decode cX12_distinctOf 88 = .ok (.ireturn, 1) := by decide +kernel
def zX12_distinctOf_5 (G : kz_G) (d : Nat) (Qr : Option Value → kz_M → Prop) (Qx : String → kz_M → Prop) (x0 : Nat) (x1 : Int32) (x2 : Int32) (x3 : Int32) (x4 : Int32)  (M : kz_M) : Prop := kz_Z G (d + 3) 0 0 mX12_distinctOf Qr Qx 5 [(0, .ref x0), (1, .int x1), (2, .int x2), (3, .int x3), (4, .int x4)] [] M 0 0
def zX12_distinctOf_23 (G : kz_G) (d : Nat) (Qr : Option Value → kz_M → Prop) (Qx : String → kz_M → Prop) (x0 : Nat) (x1 : Int32) (x2 : Int32) (x3 : Int32) (x4 : Int32) (x5 : Int32) (x6 : Int32)  (M : kz_M) : Prop := kz_Z G (d + 3) 0 0 mX12_distinctOf Qr Qx 23 [(0, .ref x0), (1, .int x1), (2, .int x2), (3, .int x3), (4, .int x4), (5, .int x5), (6, .int x6)] [] M 0 0
theorem rX12_distinctOf_0 {G : kz_G} {d : Nat} {Qr : Option Value → kz_M → Prop} {Qx : String → kz_M → Prop} {a0 : Nat} {p1 : Int32} {p2 : Int32}  {M : kz_M} (h : zX12_distinctOf_5 G d Qr Qx a0 p1 p2 0 0 M) : kz_C G (d + 3) 0 0 mX12_distinctOf [.ref a0, .int p1, .int p2] M Qr Qx := by
  refine kz_enter (n := 2) kmX12_distinctOf.1 (Nat.le_of_ble_eq_true rfl) (ls := [(0, .ref a0), (1, .int p1), (2, .int p2)]) rfl ?_
  refine kz_iconst (pc := 0) (v := 0) (by decide) dX12_distinctOf_0 ?_
  refine kz_istore_n (pc := 1) (i := 3) (ls' := [(0, .ref a0), (1, .int p1), (2, .int p2)]) rfl (by decide) rfl dX12_distinctOf_1 ?_
  refine kz_iconst (pc := 2) (v := 0) (by decide) dX12_distinctOf_2 ?_
  refine kz_istore (pc := 3) (i := 4) (ls' := [(3, .int 0), (0, .ref a0), (1, .int p1), (2, .int p2)]) (by decide) rfl dX12_distinctOf_3 ?_
  refine kz_sub [2, 3, 4, 1, 0] rfl ?_
  exact h
theorem rX12_distinctOf_5 {G : kz_G} {d : Nat} {Qr : Option Value → kz_M → Prop} {Qx : String → kz_M → Prop} {x0 : Nat} {x1 : Int32} {x2 : Int32} {x3 : Int32} {x4 : Int32}  {M : kz_M} (h : (∃ fs4, (M).1 x0 = some (.inl (11, fs4))) ∧ kz_C G (d + 2) 0 0 mX12_ofLine [.ref x0, .int x1, .int x2, .int 1] M (fun v M1 => ∃ r2 : Int32, v = some (.int r2) ∧ ((r2 ≤ x4 → Qr (some (.int x3)) M1) ∧ (¬ r2 ≤ x4 → zX12_distinctOf_23 G d Qr Qx x0 x1 x2 x3 x4 1 0 M1))) Qx) : zX12_distinctOf_5 G d Qr Qx x0 x1 x2 x3 x4  M := by
  show kz_Z G (d + 3) 0 0 mX12_distinctOf Qr Qx 5 [(0, .ref x0), (1, .int x1), (2, .int x2), (3, .int x3), (4, .int x4)] [] M 0 0
  refine kz_iload (pc := 5) 4 (i := 4) rfl dX12_distinctOf_5 ?_
  refine kz_aload_n (pc := 7) 0 (v := .ref x0) (i := 0) rfl rfl rfl dX12_distinctOf_7 ?_
  refine kz_iload_n (pc := 8) 1 (i := 1) rfl rfl dX12_distinctOf_8 ?_
  refine kz_iload_n (pc := 9) 2 (i := 2) rfl rfl dX12_distinctOf_9 ?_
  refine kz_iconst (pc := 10) (v := 1) (by decide) dX12_distinctOf_10 ?_
  obtain ⟨⟨fs4, he⟩, h⟩ := h
  refine kz_callV (pc := 11) (μ' := mX12_ofLine) (ci := 11) (q := (RX12, TX12, 32)) (b := x0) (d' := d + 2) (mc' := 0) (ms' := 0) (As := [.int x1, .int x2, .int 1]) (st := [.int x4]) (c := 0) (sl := 0) kmX12_ofLine kw_1636 (by omega) rfl (Nat.le_of_ble_eq_true rfl) he rfl rfl (Nat.le_refl _) (Nat.le_refl _) dX12_distinctOf_11 (fun E M9 hx => kz_Tout rfl (Nat.le_refl _) (Nat.le_refl _) hx) (kz_Cmono (fun v M1 h => ?_) (fun _ _ h => h) h)
  obtain ⟨r2, rfl, h⟩ := h
  show kz_Z G (d + 3) 0 0 mX12_distinctOf Qr Qx 14 [(0, .ref x0), (1, .int x1), (2, .int x2), (3, .int x3), (4, .int x4)] [.int r2, .int x4] M1 0 0
  refine kz_icmp_ge (pc := 14) (tgt := 87) (by decide) dX12_distinctOf_14 (fun hb => ?_) (fun hb => ?_)
  · replace h := h.1 hb
    refine kz_iload_n (pc := 87) 3 (i := 3) rfl rfl dX12_distinctOf_87 ?_
    exact kz_iret (pc := 88) rfl (Nat.le_refl _) (Nat.le_refl _) dX12_distinctOf_88 h
  · replace h := h.2 hb
    refine kz_iconst (pc := 17) (v := 1) (by decide) dX12_distinctOf_17 ?_
    refine kz_istore (pc := 18) (i := 5) (ls' := [(0, .ref x0), (1, .int x1), (2, .int x2), (3, .int x3), (4, .int x4)]) (by decide) rfl dX12_distinctOf_18 ?_
    refine kz_iconst (pc := 20) (v := 0) (by decide) dX12_distinctOf_20 ?_
    refine kz_istore (pc := 21) (i := 6) (ls' := [(5, .int 1), (0, .ref x0), (1, .int x1), (2, .int x2), (3, .int x3), (4, .int x4)]) (by decide) rfl dX12_distinctOf_21 ?_
    refine kz_sub [2, 3, 4, 5, 6, 1, 0] rfl ?_
    exact h
theorem rX12_distinctOf_23 {G : kz_G} {d : Nat} {Qr : Option Value → kz_M → Prop} {Qx : String → kz_M → Prop} {x0 : Nat} {x1 : Int32} {x2 : Int32} {x3 : Int32} {x4 : Int32} {x5 : Int32} {x6 : Int32}  {M : kz_M} (h : (x4 ≤ x6 → (x5 = 0 → zX12_distinctOf_5 G d Qr Qx x0 x1 x2 (x3 + 0) (x4 + 1) M) ∧ (¬ x5 = 0 → zX12_distinctOf_5 G d Qr Qx x0 x1 x2 (x3 + 1) (x4 + 1) M)) ∧ (¬ x4 ≤ x6 → (x5 = 0 → zX12_distinctOf_23 G d Qr Qx x0 x1 x2 x3 x4 0 (x6 + 1) M) ∧ (¬ x5 = 0 → (∃ fs8, (M).1 x0 = some (.inl (11, fs8))) ∧ kz_C G (d + 2) 0 0 mX12_wordIn [.ref x0, .int x1, .int x2, .int x6] M (fun v M1 => ∃ r2 : Int64, v = some (.long r2) ∧ ((∃ fs7, (M1).1 x0 = some (.inl (11, fs7))) ∧ kz_C G (d + 2) 0 0 mX12_wordIn [.ref x0, .int x1, .int x2, .int x4] M1 (fun v M4 => ∃ r5 : Int64, v = some (.long r5) ∧ ((r2 = r5 → zX12_distinctOf_23 G d Qr Qx x0 x1 x2 x3 x4 0 (x6 + 1) M4) ∧ (¬ r2 = r5 → zX12_distinctOf_23 G d Qr Qx x0 x1 x2 x3 x4 1 (x6 + 1) M4))) Qx)) Qx))) : zX12_distinctOf_23 G d Qr Qx x0 x1 x2 x3 x4 x5 x6  M := by
  show kz_Z G (d + 3) 0 0 mX12_distinctOf Qr Qx 23 [(0, .ref x0), (1, .int x1), (2, .int x2), (3, .int x3), (4, .int x4), (5, .int x5), (6, .int x6)] [] M 0 0
  refine kz_iload (pc := 23) 6 (i := 6) rfl dX12_distinctOf_23 ?_
  refine kz_iload (pc := 25) 4 (i := 4) rfl dX12_distinctOf_25 ?_
  refine kz_icmp_ge (pc := 27) (tgt := 68) (by decide) dX12_distinctOf_27 (fun hb => ?_) (fun hb => ?_)
  · replace h := h.1 hb
    refine kz_iload_n (pc := 68) 3 (i := 3) rfl rfl dX12_distinctOf_68 ?_
    refine kz_iload (pc := 69) 5 (i := 5) rfl dX12_distinctOf_69 ?_
    refine kz_if_eq (pc := 71) (tgt := 78) (by decide) dX12_distinctOf_71 (fun hb => ?_) (fun hb => ?_)
    · replace h := h.1 hb
      refine kz_iconst (pc := 78) (v := 0) (by decide) dX12_distinctOf_78 ?_
      refine kz_iadd (pc := 79) dX12_distinctOf_79 ?_
      refine kz_istore_n (pc := 80) (i := 3) (ls' := [(0, .ref x0), (1, .int x1), (2, .int x2), (4, .int x4), (5, .int x5), (6, .int x6)]) rfl (by decide) rfl dX12_distinctOf_80 ?_
      refine kz_iinc (pc := 81) 4 (i := 4) (v := x4 + 1) (ls' := [(3, .int (x3 + 0)), (0, .ref x0), (1, .int x1), (2, .int x2), (5, .int x5), (6, .int x6)]) rfl (congrArg (fun z => x4 + z) (by decide)) (by decide) rfl dX12_distinctOf_81 ?_
      refine kz_goto (pc := 84) (tgt := 5) (by decide) dX12_distinctOf_84 ?_
      refine kz_sub [2, 3, 4, 1, 0] rfl ?_
      exact h
    · replace h := h.2 hb
      refine kz_iconst (pc := 74) (v := 1) (by decide) dX12_distinctOf_74 ?_
      refine kz_goto (pc := 75) (tgt := 79) (by decide) dX12_distinctOf_75 ?_
      refine kz_iadd (pc := 79) dX12_distinctOf_79 ?_
      refine kz_istore_n (pc := 80) (i := 3) (ls' := [(0, .ref x0), (1, .int x1), (2, .int x2), (4, .int x4), (5, .int x5), (6, .int x6)]) rfl (by decide) rfl dX12_distinctOf_80 ?_
      refine kz_iinc (pc := 81) 4 (i := 4) (v := x4 + 1) (ls' := [(3, .int (x3 + 1)), (0, .ref x0), (1, .int x1), (2, .int x2), (5, .int x5), (6, .int x6)]) rfl (congrArg (fun z => x4 + z) (by decide)) (by decide) rfl dX12_distinctOf_81 ?_
      refine kz_goto (pc := 84) (tgt := 5) (by decide) dX12_distinctOf_84 ?_
      refine kz_sub [2, 3, 4, 1, 0] rfl ?_
      exact h
  · replace h := h.2 hb
    refine kz_iload (pc := 30) 5 (i := 5) rfl dX12_distinctOf_30 ?_
    refine kz_if_eq (pc := 32) (tgt := 59) (by decide) dX12_distinctOf_32 (fun hb => ?_) (fun hb => ?_)
    · replace h := h.1 hb
      refine kz_iconst (pc := 59) (v := 0) (by decide) dX12_distinctOf_59 ?_
      refine kz_istore (pc := 60) (i := 5) (ls' := [(0, .ref x0), (1, .int x1), (2, .int x2), (3, .int x3), (4, .int x4), (6, .int x6)]) (by decide) rfl dX12_distinctOf_60 ?_
      refine kz_iinc (pc := 62) 6 (i := 6) (v := x6 + 1) (ls' := [(5, .int 0), (0, .ref x0), (1, .int x1), (2, .int x2), (3, .int x3), (4, .int x4)]) rfl (congrArg (fun z => x6 + z) (by decide)) (by decide) rfl dX12_distinctOf_62 ?_
      refine kz_goto (pc := 65) (tgt := 23) (by decide) dX12_distinctOf_65 ?_
      refine kz_sub [2, 3, 4, 5, 6, 1, 0] rfl ?_
      exact h
    · replace h := h.2 hb
      refine kz_aload_n (pc := 35) 0 (v := .ref x0) (i := 0) rfl rfl rfl dX12_distinctOf_35 ?_
      refine kz_iload_n (pc := 36) 1 (i := 1) rfl rfl dX12_distinctOf_36 ?_
      refine kz_iload_n (pc := 37) 2 (i := 2) rfl rfl dX12_distinctOf_37 ?_
      refine kz_iload (pc := 38) 6 (i := 6) rfl dX12_distinctOf_38 ?_
      obtain ⟨⟨fs8, he⟩, h⟩ := h
      refine kz_callV (pc := 40) (μ' := mX12_wordIn) (ci := 11) (q := (RX12, TX12, 32)) (b := x0) (d' := d + 2) (mc' := 0) (ms' := 0) (As := [.int x1, .int x2, .int x6]) (st := []) (c := 0) (sl := 0) kmX12_wordIn kw_1705 (by omega) rfl (Nat.le_of_ble_eq_true rfl) he rfl rfl (Nat.le_refl _) (Nat.le_refl _) dX12_distinctOf_40 (fun E M9 hx => kz_Tout rfl (Nat.le_refl _) (Nat.le_refl _) hx) (kz_Cmono (fun v M1 h => ?_) (fun _ _ h => h) h)
      obtain ⟨r2, rfl, h⟩ := h
      show kz_Z G (d + 3) 0 0 mX12_distinctOf Qr Qx 43 [(0, .ref x0), (1, .int x1), (2, .int x2), (3, .int x3), (4, .int x4), (5, .int x5), (6, .int x6)] [.long r2] M1 0 0
      refine kz_aload_n (pc := 43) 0 (v := .ref x0) (i := 0) rfl rfl rfl dX12_distinctOf_43 ?_
      refine kz_iload_n (pc := 44) 1 (i := 1) rfl rfl dX12_distinctOf_44 ?_
      refine kz_iload_n (pc := 45) 2 (i := 2) rfl rfl dX12_distinctOf_45 ?_
      refine kz_iload (pc := 46) 4 (i := 4) rfl dX12_distinctOf_46 ?_
      obtain ⟨⟨fs7, he⟩, h⟩ := h
      refine kz_callV (pc := 48) (μ' := mX12_wordIn) (ci := 11) (q := (RX12, TX12, 32)) (b := x0) (d' := d + 2) (mc' := 0) (ms' := 0) (As := [.int x1, .int x2, .int x4]) (st := [.long r2]) (c := 0) (sl := 0) kmX12_wordIn kw_1705 (by omega) rfl (Nat.le_of_ble_eq_true rfl) he rfl rfl (Nat.le_refl _) (Nat.le_refl _) dX12_distinctOf_48 (fun E M9 hx => kz_Tout rfl (Nat.le_refl _) (Nat.le_refl _) hx) (kz_Cmono (fun v M4 h => ?_) (fun _ _ h => h) h)
      obtain ⟨r5, rfl, h⟩ := h
      show kz_Z G (d + 3) 0 0 mX12_distinctOf Qr Qx 51 [(0, .ref x0), (1, .int x1), (2, .int x2), (3, .int x3), (4, .int x4), (5, .int x5), (6, .int x6)] [.long r5, .long r2] M4 0 0
      refine kz_lcmp_eq (pc := 51) (tgt := 59) (by decide) dX12_distinctOf_51 dX12_distinctOf_52 (fun hb => ?_) (fun hb => ?_)
      · replace h := h.1 hb
        refine kz_iconst (pc := 59) (v := 0) (by decide) dX12_distinctOf_59 ?_
        refine kz_istore (pc := 60) (i := 5) (ls' := [(0, .ref x0), (1, .int x1), (2, .int x2), (3, .int x3), (4, .int x4), (6, .int x6)]) (by decide) rfl dX12_distinctOf_60 ?_
        refine kz_iinc (pc := 62) 6 (i := 6) (v := x6 + 1) (ls' := [(5, .int 0), (0, .ref x0), (1, .int x1), (2, .int x2), (3, .int x3), (4, .int x4)]) rfl (congrArg (fun z => x6 + z) (by decide)) (by decide) rfl dX12_distinctOf_62 ?_
        refine kz_goto (pc := 65) (tgt := 23) (by decide) dX12_distinctOf_65 ?_
        refine kz_sub [2, 3, 4, 5, 6, 1, 0] rfl ?_
        exact h
      · replace h := h.2 hb
        refine kz_iconst (pc := 55) (v := 1) (by decide) dX12_distinctOf_55 ?_
        refine kz_goto (pc := 56) (tgt := 60) (by decide) dX12_distinctOf_56 ?_
        refine kz_istore (pc := 60) (i := 5) (ls' := [(0, .ref x0), (1, .int x1), (2, .int x2), (3, .int x3), (4, .int x4), (6, .int x6)]) (by decide) rfl dX12_distinctOf_60 ?_
        refine kz_iinc (pc := 62) 6 (i := 6) (v := x6 + 1) (ls' := [(5, .int 1), (0, .ref x0), (1, .int x1), (2, .int x2), (3, .int x3), (4, .int x4)]) rfl (congrArg (fun z => x6 + z) (by decide)) (by decide) rfl dX12_distinctOf_62 ?_
        refine kz_goto (pc := 65) (tgt := 23) (by decide) dX12_distinctOf_65 ?_
        refine kz_sub [2, 3, 4, 5, 6, 1, 0] rfl ?_
        exact h
theorem dX12_usesOf_0 : decode cX12_usesOf 0 = .ok (.iconst 0, 1) := by decide +kernel
theorem dX12_usesOf_1 : decode cX12_usesOf 1 = .ok (.istore 5, 2) := by decide +kernel
theorem dX12_usesOf_3 : decode cX12_usesOf 3 = .ok (.iconst 0, 1) := by decide +kernel
theorem dX12_usesOf_4 : decode cX12_usesOf 4 = .ok (.istore 6, 2) := by decide +kernel
theorem dX12_usesOf_6 : decode cX12_usesOf 6 = .ok (.iload 6, 2) := by decide +kernel
theorem dX12_usesOf_8 : decode cX12_usesOf 8 = .ok (.iload 4, 2) := by decide +kernel
theorem dX12_usesOf_10 : decode cX12_usesOf 10 = .ok (.if_icmp .ge 76, 3) := by decide +kernel
theorem dX12_usesOf_13 : decode cX12_usesOf 13 = .ok (.aload_n 0, 1) := by decide +kernel
theorem dX12_usesOf_14 : decode cX12_usesOf 14 = .ok (.iload 6, 2) := by decide +kernel
theorem dX12_usesOf_16 : decode cX12_usesOf 16 = .ok (.iload_n 3, 1) := by decide +kernel
theorem dX12_usesOf_17 : decode cX12_usesOf 17 = .ok (.invokevirtual 116, 3) := by decide +kernel
theorem dX12_usesOf_20 : decode cX12_usesOf 20 = .ok (.ifCond .ne 6, 3) := by decide +kernel
theorem dX12_usesOf_23 : decode cX12_usesOf 23 = .ok (.goto 57, 3) := by decide +kernel
theorem dX12_usesOf_26 : decode cX12_usesOf 26 = .ok (.iconst 0, 1) := by decide +kernel
theorem dX12_usesOf_27 : decode cX12_usesOf 27 = .ok (.istore 7, 2) := by decide +kernel
theorem dX12_usesOf_29 : decode cX12_usesOf 29 = .ok (.iload 7, 2) := by decide +kernel
theorem dX12_usesOf_31 : decode cX12_usesOf 31 = .ok (.aload_n 0, 1) := by decide +kernel
theorem dX12_usesOf_32 : decode cX12_usesOf 32 = .ok (.iload 6, 2) := by decide +kernel
theorem dX12_usesOf_34 : decode cX12_usesOf 34 = .ok (.iconst 4, 1) := by decide +kernel
theorem dX12_usesOf_35 : decode cX12_usesOf 35 = .ok (.invokevirtual 101, 3) := by decide +kernel
theorem dX12_usesOf_38 : decode cX12_usesOf 38 = .ok (.if_icmp .ge 42, 3) := by decide +kernel
theorem dX12_usesOf_41 : decode cX12_usesOf 41 = .ok (.iload 5, 2) := by decide +kernel
theorem dX12_usesOf_43 : decode cX12_usesOf 43 = .ok (.aload_n 0, 1) := by decide +kernel
theorem dX12_usesOf_44 : decode cX12_usesOf 44 = .ok (.iload 6, 2) := by decide +kernel
theorem dX12_usesOf_46 : decode cX12_usesOf 46 = .ok (.iload 7, 2) := by decide +kernel
theorem dX12_usesOf_48 : decode cX12_usesOf 48 = .ok (.invokevirtual 120, 3) := by decide +kernel
theorem dX12_usesOf_51 : decode cX12_usesOf 51 = .ok (.ifCond .eq 19, 3) := by decide +kernel
theorem dX12_usesOf_54 : decode cX12_usesOf 54 = .ok (.aload_n 0, 1) := by decide +kernel
theorem dX12_usesOf_55 : decode cX12_usesOf 55 = .ok (.lload_n 1, 1) := by decide +kernel
theorem dX12_usesOf_56 : decode cX12_usesOf 56 = .ok (.iload 6, 2) := by decide +kernel
theorem dX12_usesOf_58 : decode cX12_usesOf 58 = .ok (.iload 7, 2) := by decide +kernel
theorem dX12_usesOf_60 : decode cX12_usesOf 60 = .ok (.invokevirtual 123, 3) := by decide +kernel
theorem dX12_usesOf_63 : decode cX12_usesOf 63 = .ok (.ifCond .eq 7, 3) := by decide +kernel
theorem dX12_usesOf_66 : decode cX12_usesOf 66 = .ok (.iconst 1, 1) := by decide +kernel
theorem dX12_usesOf_67 : decode cX12_usesOf 67 = .ok (.goto 4, 3) := by decide +kernel
theorem dX12_usesOf_70 : decode cX12_usesOf 70 = .ok (.iconst 0, 1) := by decide +kernel
theorem dX12_usesOf_71 : decode cX12_usesOf 71 = .ok (.iadd, 1) := by decide +kernel
theorem dX12_usesOf_72 : decode cX12_usesOf 72 = .ok (.istore 5, 2) := by decide +kernel
theorem dX12_usesOf_74 : decode cX12_usesOf 74 = .ok (.iinc 7 1, 3) := by decide +kernel
theorem dX12_usesOf_77 : decode cX12_usesOf 77 = .ok (.goto (-48), 3) := by decide +kernel
theorem dX12_usesOf_80 : decode cX12_usesOf 80 = .ok (.iinc 6 1, 3) := by decide +kernel
theorem dX12_usesOf_83 : decode cX12_usesOf 83 = .ok (.goto (-77), 3) := by decide +kernel
theorem dX12_usesOf_86 : decode cX12_usesOf 86 = .ok (.iload 5, 2) := by decide +kernel
theorem dX12_usesOf_88 : decode cX12_usesOf 88 = .ok (.ireturn, 1) := by decide +kernel
def zX12_usesOf_6 (G : kz_G) (d : Nat) (Qr : Option Value → kz_M → Prop) (Qx : String → kz_M → Prop) (x0 : Nat) (x1 : Int64) (x3 : Int32) (x4 : Int32) (x5 : Int32) (x6 : Int32)  (M : kz_M) : Prop := kz_Z G (d + 4) 0 0 mX12_usesOf Qr Qx 6 [(0, .ref x0), (1, .long x1), (3, .int x3), (4, .int x4), (5, .int x5), (6, .int x6)] [] M 0 0
def zX12_usesOf_29 (G : kz_G) (d : Nat) (Qr : Option Value → kz_M → Prop) (Qx : String → kz_M → Prop) (x0 : Nat) (x1 : Int64) (x3 : Int32) (x4 : Int32) (x5 : Int32) (x6 : Int32) (x7 : Int32)  (M : kz_M) : Prop := kz_Z G (d + 4) 0 0 mX12_usesOf Qr Qx 29 [(0, .ref x0), (1, .long x1), (3, .int x3), (4, .int x4), (5, .int x5), (6, .int x6), (7, .int x7)] [] M 0 0
theorem rX12_usesOf_0 {G : kz_G} {d : Nat} {Qr : Option Value → kz_M → Prop} {Qx : String → kz_M → Prop} {a0 : Nat} {p1 : Int64} {p3 : Int32} {p4 : Int32}  {M : kz_M} (h : zX12_usesOf_6 G d Qr Qx a0 p1 p3 p4 0 0 M) : kz_C G (d + 4) 0 0 mX12_usesOf [.ref a0, .long p1, .int p3, .int p4] M Qr Qx := by
  refine kz_enter (n := 3) kmX12_usesOf.1 (Nat.le_of_ble_eq_true rfl) (ls := [(0, .ref a0), (1, .long p1), (3, .int p3), (4, .int p4)]) rfl ?_
  refine kz_iconst (pc := 0) (v := 0) (by decide) dX12_usesOf_0 ?_
  refine kz_istore (pc := 1) (i := 5) (ls' := [(0, .ref a0), (1, .long p1), (3, .int p3), (4, .int p4)]) (by decide) rfl dX12_usesOf_1 ?_
  refine kz_iconst (pc := 3) (v := 0) (by decide) dX12_usesOf_3 ?_
  refine kz_istore (pc := 4) (i := 6) (ls' := [(5, .int 0), (0, .ref a0), (1, .long p1), (3, .int p3), (4, .int p4)]) (by decide) rfl dX12_usesOf_4 ?_
  refine kz_sub [2, 3, 4, 5, 1, 0] rfl ?_
  exact h
theorem rX12_usesOf_6 {G : kz_G} {d : Nat} {Qr : Option Value → kz_M → Prop} {Qx : String → kz_M → Prop} {x0 : Nat} {x1 : Int64} {x3 : Int32} {x4 : Int32} {x5 : Int32} {x6 : Int32}  {M : kz_M} (h : (x4 ≤ x6 → Qr (some (.int x5)) M) ∧ (¬ x4 ≤ x6 → (∃ fs4, (M).1 x0 = some (.inl (11, fs4))) ∧ kz_C G (d + 3) 0 0 mX12_isBy [.ref x0, .int x6, .int x3] M (fun v M1 => ∃ r2 : Int32, v = some (.int r2) ∧ ((¬ r2 = 0 → zX12_usesOf_29 G d Qr Qx x0 x1 x3 x4 x5 x6 0 M1) ∧ (r2 = 0 → zX12_usesOf_6 G d Qr Qx x0 x1 x3 x4 x5 (x6 + 1) M1))) Qx)) : zX12_usesOf_6 G d Qr Qx x0 x1 x3 x4 x5 x6  M := by
  show kz_Z G (d + 4) 0 0 mX12_usesOf Qr Qx 6 [(0, .ref x0), (1, .long x1), (3, .int x3), (4, .int x4), (5, .int x5), (6, .int x6)] [] M 0 0
  refine kz_iload (pc := 6) 5 (i := 6) rfl dX12_usesOf_6 ?_
  refine kz_iload (pc := 8) 3 (i := 4) rfl dX12_usesOf_8 ?_
  refine kz_icmp_ge (pc := 10) (tgt := 86) (by decide) dX12_usesOf_10 (fun hb => ?_) (fun hb => ?_)
  · replace h := h.1 hb
    refine kz_iload (pc := 86) 4 (i := 5) rfl dX12_usesOf_86 ?_
    exact kz_iret (pc := 88) rfl (Nat.le_refl _) (Nat.le_refl _) dX12_usesOf_88 h
  · replace h := h.2 hb
    refine kz_aload_n (pc := 13) 0 (v := .ref x0) (i := 0) rfl rfl rfl dX12_usesOf_13 ?_
    refine kz_iload (pc := 14) 5 (i := 6) rfl dX12_usesOf_14 ?_
    refine kz_iload_n (pc := 16) 2 (i := 3) rfl rfl dX12_usesOf_16 ?_
    obtain ⟨⟨fs4, he⟩, h⟩ := h
    refine kz_callV (pc := 17) (μ' := mX12_isBy) (ci := 11) (q := (RX12, TX12, 32)) (b := x0) (d' := d + 3) (mc' := 0) (ms' := 0) (As := [.int x6, .int x3]) (st := []) (c := 0) (sl := 0) kmX12_isBy kw_1616 (by omega) rfl (Nat.le_of_ble_eq_true rfl) he rfl rfl (Nat.le_refl _) (Nat.le_refl _) dX12_usesOf_17 (fun E M9 hx => kz_Tout rfl (Nat.le_refl _) (Nat.le_refl _) hx) (kz_Cmono (fun v M1 h => ?_) (fun _ _ h => h) h)
    obtain ⟨r2, rfl, h⟩ := h
    show kz_Z G (d + 4) 0 0 mX12_usesOf Qr Qx 20 [(0, .ref x0), (1, .long x1), (3, .int x3), (4, .int x4), (5, .int x5), (6, .int x6)] [.int r2] M1 0 0
    refine kz_if_ne (pc := 20) (tgt := 26) (by decide) dX12_usesOf_20 (fun hb => ?_) (fun hb => ?_)
    · replace h := h.1 hb
      refine kz_iconst (pc := 26) (v := 0) (by decide) dX12_usesOf_26 ?_
      refine kz_istore (pc := 27) (i := 7) (ls' := [(0, .ref x0), (1, .long x1), (3, .int x3), (4, .int x4), (5, .int x5), (6, .int x6)]) (by decide) rfl dX12_usesOf_27 ?_
      refine kz_sub [1, 2, 3, 4, 5, 6, 0] rfl ?_
      exact h
    · replace h := h.2 hb
      refine kz_goto (pc := 23) (tgt := 80) (by decide) dX12_usesOf_23 ?_
      refine kz_iinc (pc := 80) 5 (i := 6) (v := x6 + 1) (ls' := [(0, .ref x0), (1, .long x1), (3, .int x3), (4, .int x4), (5, .int x5)]) rfl (congrArg (fun z => x6 + z) (by decide)) (by decide) rfl dX12_usesOf_80 ?_
      refine kz_goto (pc := 83) (tgt := 6) (by decide) dX12_usesOf_83 ?_
      refine kz_sub [1, 2, 3, 4, 5, 0] rfl ?_
      exact h
theorem rX12_usesOf_29 {G : kz_G} {d : Nat} {Qr : Option Value → kz_M → Prop} {Qx : String → kz_M → Prop} {x0 : Nat} {x1 : Int64} {x3 : Int32} {x4 : Int32} {x5 : Int32} {x6 : Int32} {x7 : Int32}  {M : kz_M} (h : (∃ fs12, (M).1 x0 = some (.inl (11, fs12))) ∧ kz_C G (d + 3) 0 0 mX12_of [.ref x0, .int x6, .int 4] M (fun v M1 => ∃ r2 : Int32, v = some (.int r2) ∧ ((r2 ≤ x7 → zX12_usesOf_6 G d Qr Qx x0 x1 x3 x4 x5 (x6 + 1) M1) ∧ (¬ r2 ≤ x7 → (∃ fs11, (M1).1 x0 = some (.inl (11, fs11))) ∧ kz_C G (d + 3) 0 0 mX12_countsNow [.ref x0, .int x6, .int x7] M1 (fun v M4 => ∃ r5 : Int32, v = some (.int r5) ∧ ((r5 = 0 → zX12_usesOf_29 G d Qr Qx x0 x1 x3 x4 (x5 + 0) x6 (x7 + 1) M4) ∧ (¬ r5 = 0 → (∃ fs10, (M4).1 x0 = some (.inl (11, fs10))) ∧ kz_C G (d + 3) 0 0 mX12_stands [.ref x0, .long x1, .int x6, .int x7] M4 (fun v M7 => ∃ r8 : Int32, v = some (.int r8) ∧ ((r8 = 0 → zX12_usesOf_29 G d Qr Qx x0 x1 x3 x4 (x5 + 0) x6 (x7 + 1) M7) ∧ (¬ r8 = 0 → zX12_usesOf_29 G d Qr Qx x0 x1 x3 x4 (x5 + 1) x6 (x7 + 1) M7))) Qx))) Qx))) Qx) : zX12_usesOf_29 G d Qr Qx x0 x1 x3 x4 x5 x6 x7  M := by
  show kz_Z G (d + 4) 0 0 mX12_usesOf Qr Qx 29 [(0, .ref x0), (1, .long x1), (3, .int x3), (4, .int x4), (5, .int x5), (6, .int x6), (7, .int x7)] [] M 0 0
  refine kz_iload (pc := 29) 6 (i := 7) rfl dX12_usesOf_29 ?_
  refine kz_aload_n (pc := 31) 0 (v := .ref x0) (i := 0) rfl rfl rfl dX12_usesOf_31 ?_
  refine kz_iload (pc := 32) 5 (i := 6) rfl dX12_usesOf_32 ?_
  refine kz_iconst (pc := 34) (v := 4) (by decide) dX12_usesOf_34 ?_
  obtain ⟨⟨fs12, he⟩, h⟩ := h
  refine kz_callV (pc := 35) (μ' := mX12_of) (ci := 11) (q := (RX12, TX12, 32)) (b := x0) (d' := d + 3) (mc' := 0) (ms' := 0) (As := [.int x6, .int 4]) (st := [.int x7]) (c := 0) (sl := 0) kmX12_of kw_1620 (by omega) rfl (Nat.le_of_ble_eq_true rfl) he rfl rfl (Nat.le_refl _) (Nat.le_refl _) dX12_usesOf_35 (fun E M9 hx => kz_Tout rfl (Nat.le_refl _) (Nat.le_refl _) hx) (kz_Cmono (fun v M1 h => ?_) (fun _ _ h => h) h)
  obtain ⟨r2, rfl, h⟩ := h
  show kz_Z G (d + 4) 0 0 mX12_usesOf Qr Qx 38 [(0, .ref x0), (1, .long x1), (3, .int x3), (4, .int x4), (5, .int x5), (6, .int x6), (7, .int x7)] [.int r2, .int x7] M1 0 0
  refine kz_icmp_ge (pc := 38) (tgt := 80) (by decide) dX12_usesOf_38 (fun hb => ?_) (fun hb => ?_)
  · replace h := h.1 hb
    refine kz_iinc (pc := 80) 5 (i := 6) (v := x6 + 1) (ls' := [(0, .ref x0), (1, .long x1), (3, .int x3), (4, .int x4), (5, .int x5), (7, .int x7)]) rfl (congrArg (fun z => x6 + z) (by decide)) (by decide) rfl dX12_usesOf_80 ?_
    refine kz_goto (pc := 83) (tgt := 6) (by decide) dX12_usesOf_83 ?_
    refine kz_sub [1, 2, 3, 4, 5, 0] rfl ?_
    exact h
  · replace h := h.2 hb
    refine kz_iload (pc := 41) 4 (i := 5) rfl dX12_usesOf_41 ?_
    refine kz_aload_n (pc := 43) 0 (v := .ref x0) (i := 0) rfl rfl rfl dX12_usesOf_43 ?_
    refine kz_iload (pc := 44) 5 (i := 6) rfl dX12_usesOf_44 ?_
    refine kz_iload (pc := 46) 6 (i := 7) rfl dX12_usesOf_46 ?_
    obtain ⟨⟨fs11, he⟩, h⟩ := h
    refine kz_callV (pc := 48) (μ' := mX12_countsNow) (ci := 11) (q := (RX12, TX12, 32)) (b := x0) (d' := d + 3) (mc' := 0) (ms' := 0) (As := [.int x6, .int x7]) (st := [.int x5]) (c := 0) (sl := 0) kmX12_countsNow kw_1632 (by omega) rfl (Nat.le_of_ble_eq_true rfl) he rfl rfl (Nat.le_refl _) (Nat.le_refl _) dX12_usesOf_48 (fun E M9 hx => kz_Tout rfl (Nat.le_refl _) (Nat.le_refl _) hx) (kz_Cmono (fun v M4 h => ?_) (fun _ _ h => h) h)
    obtain ⟨r5, rfl, h⟩ := h
    show kz_Z G (d + 4) 0 0 mX12_usesOf Qr Qx 51 [(0, .ref x0), (1, .long x1), (3, .int x3), (4, .int x4), (5, .int x5), (6, .int x6), (7, .int x7)] [.int r5, .int x5] M4 0 0
    refine kz_if_eq (pc := 51) (tgt := 70) (by decide) dX12_usesOf_51 (fun hb => ?_) (fun hb => ?_)
    · replace h := h.1 hb
      refine kz_iconst (pc := 70) (v := 0) (by decide) dX12_usesOf_70 ?_
      refine kz_iadd (pc := 71) dX12_usesOf_71 ?_
      refine kz_istore (pc := 72) (i := 5) (ls' := [(0, .ref x0), (1, .long x1), (3, .int x3), (4, .int x4), (6, .int x6), (7, .int x7)]) (by decide) rfl dX12_usesOf_72 ?_
      refine kz_iinc (pc := 74) 6 (i := 7) (v := x7 + 1) (ls' := [(5, .int (x5 + 0)), (0, .ref x0), (1, .long x1), (3, .int x3), (4, .int x4), (6, .int x6)]) rfl (congrArg (fun z => x7 + z) (by decide)) (by decide) rfl dX12_usesOf_74 ?_
      refine kz_goto (pc := 77) (tgt := 29) (by decide) dX12_usesOf_77 ?_
      refine kz_sub [2, 3, 4, 5, 1, 6, 0] rfl ?_
      exact h
    · replace h := h.2 hb
      refine kz_aload_n (pc := 54) 0 (v := .ref x0) (i := 0) rfl rfl rfl dX12_usesOf_54 ?_
      refine kz_lload_n (pc := 55) 1 (i := 1) rfl rfl dX12_usesOf_55 ?_
      refine kz_iload (pc := 56) 5 (i := 6) rfl dX12_usesOf_56 ?_
      refine kz_iload (pc := 58) 6 (i := 7) rfl dX12_usesOf_58 ?_
      obtain ⟨⟨fs10, he⟩, h⟩ := h
      refine kz_callV (pc := 60) (μ' := mX12_stands) (ci := 11) (q := (RX12, TX12, 32)) (b := x0) (d' := d + 3) (mc' := 0) (ms' := 0) (As := [.long x1, .int x6, .int x7]) (st := [.int x5]) (c := 0) (sl := 0) kmX12_stands kw_1701 (by omega) rfl (Nat.le_of_ble_eq_true rfl) he rfl rfl (Nat.le_refl _) (Nat.le_refl _) dX12_usesOf_60 (fun E M9 hx => kz_Tout rfl (Nat.le_refl _) (Nat.le_refl _) hx) (kz_Cmono (fun v M7 h => ?_) (fun _ _ h => h) h)
      obtain ⟨r8, rfl, h⟩ := h
      show kz_Z G (d + 4) 0 0 mX12_usesOf Qr Qx 63 [(0, .ref x0), (1, .long x1), (3, .int x3), (4, .int x4), (5, .int x5), (6, .int x6), (7, .int x7)] [.int r8, .int x5] M7 0 0
      refine kz_if_eq (pc := 63) (tgt := 70) (by decide) dX12_usesOf_63 (fun hb => ?_) (fun hb => ?_)
      · replace h := h.1 hb
        refine kz_iconst (pc := 70) (v := 0) (by decide) dX12_usesOf_70 ?_
        refine kz_iadd (pc := 71) dX12_usesOf_71 ?_
        refine kz_istore (pc := 72) (i := 5) (ls' := [(0, .ref x0), (1, .long x1), (3, .int x3), (4, .int x4), (6, .int x6), (7, .int x7)]) (by decide) rfl dX12_usesOf_72 ?_
        refine kz_iinc (pc := 74) 6 (i := 7) (v := x7 + 1) (ls' := [(5, .int (x5 + 0)), (0, .ref x0), (1, .long x1), (3, .int x3), (4, .int x4), (6, .int x6)]) rfl (congrArg (fun z => x7 + z) (by decide)) (by decide) rfl dX12_usesOf_74 ?_
        refine kz_goto (pc := 77) (tgt := 29) (by decide) dX12_usesOf_77 ?_
        refine kz_sub [2, 3, 4, 5, 1, 6, 0] rfl ?_
        exact h
      · replace h := h.2 hb
        refine kz_iconst (pc := 66) (v := 1) (by decide) dX12_usesOf_66 ?_
        refine kz_goto (pc := 67) (tgt := 71) (by decide) dX12_usesOf_67 ?_
        refine kz_iadd (pc := 71) dX12_usesOf_71 ?_
        refine kz_istore (pc := 72) (i := 5) (ls' := [(0, .ref x0), (1, .long x1), (3, .int x3), (4, .int x4), (6, .int x6), (7, .int x7)]) (by decide) rfl dX12_usesOf_72 ?_
        refine kz_iinc (pc := 74) 6 (i := 7) (v := x7 + 1) (ls' := [(5, .int (x5 + 1)), (0, .ref x0), (1, .long x1), (3, .int x3), (4, .int x4), (6, .int x6)]) rfl (congrArg (fun z => x7 + z) (by decide)) (by decide) rfl dX12_usesOf_74 ?_
        refine kz_goto (pc := 77) (tgt := 29) (by decide) dX12_usesOf_77 ?_
        refine kz_sub [2, 3, 4, 5, 1, 6, 0] rfl ?_
        exact h
theorem dX12_takes_0 : decode cX12_takes 0 = .ok (.aload_n 0, 1) := by decide +kernel
theorem dX12_takes_1 : decode cX12_takes 1 = .ok (.aload_n 0, 1) := by decide +kernel
theorem dX12_takes_2 : decode cX12_takes 2 = .ok (.iload_n 1, 1) := by decide +kernel
theorem dX12_takes_3 : decode cX12_takes 3 = .ok (.iconst 3, 1) := by decide +kernel
theorem dX12_takes_4 : decode cX12_takes 4 = .ok (.invokevirtual 101, 3) := by decide +kernel
theorem dX12_takes_7 : decode cX12_takes 7 = .ok (.putfield 127, 3) := by decide +kernel
theorem dX12_takes_10 : decode cX12_takes 10 = .ok (.aload_n 0, 1) := by decide +kernel
theorem dX12_takes_11 : decode cX12_takes 11 = .ok (.aload_n 0, 1) := by decide +kernel
theorem dX12_takes_12 : decode cX12_takes 12 = .ok (.getfield 22, 3) := by decide +kernel
theorem dX12_takes_15 : decode cX12_takes 15 = .ok (.sipush 720, 3) := by decide +kernel
theorem dX12_takes_18 : decode cX12_takes 18 = .ok (.iload_n 1, 1) := by decide +kernel
theorem dX12_takes_19 : decode cX12_takes 19 = .ok (.iadd, 1) := by decide +kernel
theorem dX12_takes_20 : decode cX12_takes 20 = .ok (.laload, 1) := by decide +kernel
theorem dX12_takes_21 : decode cX12_takes 21 = .ok (.putfield 130, 3) := by decide +kernel
theorem dX12_takes_24 : decode cX12_takes 24 = .ok (.aload_n 0, 1) := by decide +kernel
theorem dX12_takes_25 : decode cX12_takes 25 = .ok (.getfield 22, 3) := by decide +kernel
theorem dX12_takes_28 : decode cX12_takes 28 = .ok (.bipush 60, 2) := by decide +kernel
theorem dX12_takes_30 : decode cX12_takes 30 = .ok (.iload_n 1, 1) := by decide +kernel
theorem dX12_takes_31 : decode cX12_takes 31 = .ok (.imul, 1) := by decide +kernel
theorem dX12_takes_32 : decode cX12_takes 32 = .ok (.aload_n 0, 1) := by decide +kernel
theorem dX12_takes_33 : decode cX12_takes 33 = .ok (.getfield 32, 3) := by decide +kernel
theorem dX12_takes_36 : decode cX12_takes 36 = .ok (.iconst 0, 1) := by decide +kernel
theorem dX12_takes_37 : decode cX12_takes 37 = .ok (.bipush 60, 2) := by decide +kernel
theorem dX12_takes_39 : decode cX12_takes 39 = .ok (.invokestatic 85, 3) := by decide +kernel
theorem dX12_takes_42 : decode cX12_takes 42 = .ok (.return_, 1) := by decide +kernel
theorem rX12_takes_0 {G : kz_G} {d : Nat} {Qr : Option Value → kz_M → Prop} {Qx : String → kz_M → Prop} {a0 : Nat} {p1 : Int32}  {M : kz_M} (h : (∃ fs18, (M).1 a0 = some (.inl (11, fs18))) ∧ kz_C G (d + 0) 0 0 mX12_of [.ref a0, .int p1, .int 3] M (fun v M1 => ∃ r2 : Int32, v = some (.int r2) ∧ (∃ fs4, (M1).1 a0 = some (.inl (11, fs4)) ∧ 12 < fs4.length ∧ (∃ fs5 v6, ((kz_up M1 a0 (.inl (11, fs4.set 12 (.int r2))))).1 a0 = some (.inl (11, fs5)) ∧ fs5[4]? = some (.ref v6) ∧ (∃ n7 f8, ((kz_up M1 a0 (.inl (11, fs4.set 12 (.int r2))))).1 v6 = some (.inr (.long, n7, .inr (.inl f8))) ∧ vp_in (720 + p1) n7 ∧ (∃ fs9, ((kz_up M1 a0 (.inl (11, fs4.set 12 (.int r2))))).1 a0 = some (.inl (11, fs9)) ∧ 11 < fs9.length ∧ (∃ fs10 v11, ((kz_up (kz_up M1 a0 (.inl (11, fs4.set 12 (.int r2)))) a0 (.inl (11, fs9.set 11 (.long (f8 (720 + p1).toNatClampNeg)))))).1 a0 = some (.inl (11, fs10)) ∧ fs10[4]? = some (.ref v11) ∧ (∃ fs12 v13, ((kz_up (kz_up M1 a0 (.inl (11, fs4.set 12 (.int r2)))) a0 (.inl (11, fs9.set 11 (.long (f8 (720 + p1).toNatClampNeg)))))).1 a0 = some (.inl (11, fs12)) ∧ fs12[10]? = some (.ref v13) ∧ (kz_C G (d + 0) 0 0 mX12_copiesWords [.ref v11, .int (60 * p1), .ref v13, .int 0, .int 60] (kz_up (kz_up M1 a0 (.inl (11, fs4.set 12 (.int r2)))) a0 (.inl (11, fs9.set 11 (.long (f8 (720 + p1).toNatClampNeg))))) (fun v M14 => v = none ∧ (Qr none M14)) Qx)))))))) Qx) : kz_C G (d + 1) 0 0 mX12_takes [.ref a0, .int p1] M Qr Qx := by
  refine kz_enter (n := 1) kmX12_takes.1 (Nat.le_of_ble_eq_true rfl) (ls := [(0, .ref a0), (1, .int p1)]) rfl ?_
  refine kz_aload_n (pc := 0) 0 (v := .ref a0) (i := 0) rfl rfl rfl dX12_takes_0 ?_
  refine kz_aload_n (pc := 1) 0 (v := .ref a0) (i := 0) rfl rfl rfl dX12_takes_1 ?_
  refine kz_iload_n (pc := 2) 1 (i := 1) rfl rfl dX12_takes_2 ?_
  refine kz_iconst (pc := 3) (v := 3) (by decide) dX12_takes_3 ?_
  obtain ⟨⟨fs18, he⟩, h⟩ := h
  refine kz_callV (pc := 4) (μ' := mX12_of) (ci := 11) (q := (RX12, TX12, 32)) (b := a0) (d' := d + 0) (mc' := 0) (ms' := 0) (As := [.int p1, .int 3]) (st := [.ref a0]) (c := 0) (sl := 0) kmX12_of kw_1620 (by omega) rfl (Nat.le_of_ble_eq_true rfl) he rfl rfl (Nat.le_refl _) (Nat.le_refl _) dX12_takes_4 (fun E M9 hx => kz_Tout rfl (Nat.le_refl _) (Nat.le_refl _) hx) (kz_Cmono (fun v M1 h => ?_) (fun _ _ h => h) h)
  obtain ⟨r2, rfl, h⟩ := h
  show kz_Z G (d + 1) 0 0 mX12_takes Qr Qx 7 [(0, .ref a0), (1, .int p1)] [.int r2, .ref a0] M1 0 0
  obtain ⟨fs4, hM, hlen, h⟩ := h
  refine kz_putf (pc := 7) (k := 12) kcX12 hM (by decide) hlen kw_1390 rfl rfl rfl dX12_takes_7 ?_
  refine kz_aload_n (pc := 10) 0 (v := .ref a0) (i := 0) rfl rfl rfl dX12_takes_10 ?_
  refine kz_aload_n (pc := 11) 0 (v := .ref a0) (i := 0) rfl rfl rfl dX12_takes_11 ?_
  obtain ⟨fs5, v6, hM, hv, h⟩ := h
  refine kz_getf (pc := 12) (k := 4) kcX12 hM hv (by decide) kw_1382 dX12_takes_12 ?_
  refine kz_sipush (pc := 15) (v := 720) (by decide) dX12_takes_15 ?_
  refine kz_iload_n (pc := 18) 1 (i := 1) rfl rfl dX12_takes_18 ?_
  refine kz_iadd (pc := 19) dX12_takes_19 ?_
  obtain ⟨n7, f8, hM, hi, h⟩ := h
  refine kz_lald (pc := 20) hM hi dX12_takes_20 ?_
  obtain ⟨fs9, hM, hlen, h⟩ := h
  refine kz_putf (pc := 21) (k := 11) kcX12 hM (by decide) hlen kw_1389 rfl rfl rfl dX12_takes_21 ?_
  refine kz_aload_n (pc := 24) 0 (v := .ref a0) (i := 0) rfl rfl rfl dX12_takes_24 ?_
  obtain ⟨fs10, v11, hM, hv, h⟩ := h
  refine kz_getf (pc := 25) (k := 4) kcX12 hM hv (by decide) kw_1382 dX12_takes_25 ?_
  refine kz_bipush (pc := 28) (v := 60) (by decide) dX12_takes_28 ?_
  refine kz_iload_n (pc := 30) 1 (i := 1) rfl rfl dX12_takes_30 ?_
  refine kz_imul (pc := 31) dX12_takes_31 ?_
  refine kz_aload_n (pc := 32) 0 (v := .ref a0) (i := 0) rfl rfl rfl dX12_takes_32 ?_
  obtain ⟨fs12, v13, hM, hv, h⟩ := h
  refine kz_getf (pc := 33) (k := 10) kcX12 hM hv (by decide) kw_1388 dX12_takes_33 ?_
  refine kz_iconst (pc := 36) (v := 0) (by decide) dX12_takes_36 ?_
  refine kz_bipush (pc := 37) (v := 60) (by decide) dX12_takes_37 ?_
  refine kz_callS (pc := 39) (μ' := mX12_copiesWords) (d' := d + 0) (mc' := 0) (ms' := 0) (As := [.ref v11, .int (60 * p1), .ref v13, .int 0, .int 60]) (st := []) (c := 0) (sl := 0) kmX12_copiesWords kw_1824 (by omega) rfl (Nat.le_of_ble_eq_true rfl) (Nat.le_refl _) (Nat.le_refl _) dX12_takes_39 (fun E M9 hx => kz_Tout rfl (Nat.le_refl _) (Nat.le_refl _) hx) (kz_Cmono (fun v M14 h => ?_) (fun _ _ h => h) h)
  obtain ⟨rfl, h⟩ := h
  show kz_Z G (d + 1) 0 0 mX12_takes Qr Qx 42 [(0, .ref a0), (1, .int p1)] [] M14 0 0
  exact kz_vret (pc := 42) rfl (Nat.le_refl _) (Nat.le_refl _) dX12_takes_42 h
theorem dX12_goesOn_0 : decode cX12_goesOn 0 = .ok (.iload_n 2, 1) := by decide +kernel
theorem dX12_goesOn_1 : decode cX12_goesOn 1 = .ok (.aload_n 0, 1) := by decide +kernel
theorem dX12_goesOn_2 : decode cX12_goesOn 2 = .ok (.getfield 127, 3) := by decide +kernel
theorem dX12_goesOn_5 : decode cX12_goesOn 5 = .ok (.if_icmp .eq 21, 3) := by decide +kernel
theorem dX12_goesOn_8 : decode cX12_goesOn 8 = .ok (.iload_n 1, 1) := by decide +kernel
theorem dX12_goesOn_9 : decode cX12_goesOn 9 = .ok (.iconst 2, 1) := by decide +kernel
theorem dX12_goesOn_10 : decode cX12_goesOn 10 = .ok (.if_icmp .eq 16, 3) := by decide +kernel
theorem dX12_goesOn_13 : decode cX12_goesOn 13 = .ok (.aload_n 0, 1) := by decide +kernel
theorem dX12_goesOn_14 : decode cX12_goesOn 14 = .ok (.getfield 130, 3) := by decide +kernel
theorem dX12_goesOn_17 : decode cX12_goesOn 17 = .ok (.iload_n 2, 1) := by decide +kernel
theorem dX12_goesOn_18 : decode cX12_goesOn 18 = .ok (.lshr, 1) := by decide +kernel
theorem dX12_goesOn_19 : decode cX12_goesOn 19 = .ok (.lconst 1, 1) := by decide +kernel
theorem dX12_goesOn_20 : decode cX12_goesOn 20 = .ok (.land, 1) := by decide +kernel
theorem dX12_goesOn_21 : decode cX12_goesOn 21 = .ok (.lconst 1, 1) := by decide +kernel
theorem dX12_goesOn_22 : decode cX12_goesOn 22 = .ok (.lcmp, 1) := by decide +kernel
theorem dX12_goesOn_23 : decode cX12_goesOn 23 = .ok (.ifCond .ne 5, 3) := by decide +kernel
theorem dX12_goesOn_26 : decode cX12_goesOn 26 = .ok (.iconst 0, 1) := by decide +kernel
theorem dX12_goesOn_27 : decode cX12_goesOn 27 = .ok (.ireturn, 1) := by decide +kernel
theorem dX12_goesOn_28 : decode cX12_goesOn 28 = .ok (.iload_n 3, 1) := by decide +kernel
theorem dX12_goesOn_29 : decode cX12_goesOn 29 = .ok (.iconst 1, 1) := by decide +kernel
theorem dX12_goesOn_30 : decode cX12_goesOn 30 = .ok (.iadd, 1) := by decide +kernel
theorem dX12_goesOn_31 : decode cX12_goesOn 31 = .ok (.aload_n 0, 1) := by decide +kernel
theorem dX12_goesOn_32 : decode cX12_goesOn 32 = .ok (.getfield 32, 3) := by decide +kernel
theorem dX12_goesOn_35 : decode cX12_goesOn 35 = .ok (.iload_n 2, 1) := by decide +kernel
theorem dX12_goesOn_36 : decode cX12_goesOn 36 = .ok (.laload, 1) := by decide +kernel
theorem dX12_goesOn_37 : decode cX12_goesOn 37 = .ok (.invokestatic 108, 3) := by decide +kernel
theorem dX12_goesOn_40 : decode cX12_goesOn 40 = .ok (.iadd, 1) := by decide +kernel
theorem dX12_goesOn_41 : decode cX12_goesOn 41 = .ok (.iload 4, 2) := by decide +kernel
theorem dX12_goesOn_43 : decode cX12_goesOn 43 = .ok (.if_icmp .gt 7, 3) := by decide +kernel
theorem dX12_goesOn_46 : decode cX12_goesOn 46 = .ok (.iconst 1, 1) := by decide +kernel
theorem dX12_goesOn_47 : decode cX12_goesOn 47 = .ok (.goto 4, 3) := by decide +kernel
theorem dX12_goesOn_50 : decode cX12_goesOn 50 = .ok (.iconst 0, 1) := by decide +kernel
theorem dX12_goesOn_51 : decode cX12_goesOn 51 = .ok (.ireturn, 1) := by decide +kernel
theorem rX12_goesOn_0 {G : kz_G} {d : Nat} {Qr : Option Value → kz_M → Prop} {Qx : String → kz_M → Prop} {a0 : Nat} {p1 : Int32} {p2 : Int32} {p3 : Int32} {p4 : Int32}  {M : kz_M} (h : ∃ fs1 v2, (M).1 a0 = some (.inl (11, fs1)) ∧ fs1[12]? = some (.int v2) ∧ ((p2 = v2 → Qr (some (.int 0)) M) ∧ (¬ p2 = v2 → (p1 = (2 : Int32) → Qr (some (.int 0)) M) ∧ (¬ p1 = (2 : Int32) → ∃ fs3 v4, (M).1 a0 = some (.inl (11, fs3)) ∧ fs3[11]? = some (.long v4) ∧ ((¬ ((v4 >>> ((p2).toInt64 &&& 63)) &&& 1) = 1 → ∃ fs5 v6, (M).1 a0 = some (.inl (11, fs5)) ∧ fs5[10]? = some (.ref v6) ∧ (∃ n7 f8, (M).1 v6 = some (.inr (.long, n7, .inr (.inl f8))) ∧ vp_in p2 n7 ∧ (kz_C G (d + 0) 0 0 mX12_lettersOf [.long (f8 p2.toNatClampNeg)] M (fun v M9 => ∃ r10 : Int32, v = some (.int r10) ∧ ((p4 < ((p3 + 1) + r10) → Qr (some (.int 0)) M9) ∧ (¬ p4 < ((p3 + 1) + r10) → Qr (some (.int 1)) M9))) Qx))) ∧ (((v4 >>> ((p2).toInt64 &&& 63)) &&& 1) = 1 → Qr (some (.int 0)) M)))))) : kz_C G (d + 1) 0 0 mX12_goesOn [.ref a0, .int p1, .int p2, .int p3, .int p4] M Qr Qx := by
  refine kz_enter (n := 4) kmX12_goesOn.1 (Nat.le_of_ble_eq_true rfl) (ls := [(0, .ref a0), (1, .int p1), (2, .int p2), (3, .int p3), (4, .int p4)]) rfl ?_
  refine kz_iload_n (pc := 0) 2 (i := 2) rfl rfl dX12_goesOn_0 ?_
  refine kz_aload_n (pc := 1) 0 (v := .ref a0) (i := 0) rfl rfl rfl dX12_goesOn_1 ?_
  obtain ⟨fs1, v2, hM, hv, h⟩ := h
  refine kz_getf (pc := 2) (k := 12) kcX12 hM hv (by decide) kw_1390 dX12_goesOn_2 ?_
  refine kz_icmp_eq (pc := 5) (tgt := 26) (by decide) dX12_goesOn_5 (fun hb => ?_) (fun hb => ?_)
  · replace h := h.1 hb
    refine kz_iconst (pc := 26) (v := 0) (by decide) dX12_goesOn_26 ?_
    exact kz_zret (pc := 27) (ty := .boolean) rfl (by decide) (Nat.le_refl _) (Nat.le_refl _) dX12_goesOn_27 h
  · replace h := h.2 hb
    refine kz_iload_n (pc := 8) 1 (i := 1) rfl rfl dX12_goesOn_8 ?_
    refine kz_iconst (pc := 9) (v := 2) (by decide) dX12_goesOn_9 ?_
    refine kz_icmp_eq (pc := 10) (tgt := 26) (by decide) dX12_goesOn_10 (fun hb => ?_) (fun hb => ?_)
    · replace h := h.1 hb
      refine kz_iconst (pc := 26) (v := 0) (by decide) dX12_goesOn_26 ?_
      exact kz_zret (pc := 27) (ty := .boolean) rfl (by decide) (Nat.le_refl _) (Nat.le_refl _) dX12_goesOn_27 h
    · replace h := h.2 hb
      refine kz_aload_n (pc := 13) 0 (v := .ref a0) (i := 0) rfl rfl rfl dX12_goesOn_13 ?_
      obtain ⟨fs3, v4, hM, hv, h⟩ := h
      refine kz_getf (pc := 14) (k := 11) kcX12 hM hv (by decide) kw_1389 dX12_goesOn_14 ?_
      refine kz_iload_n (pc := 17) 2 (i := 2) rfl rfl dX12_goesOn_17 ?_
      refine kz_lshr (pc := 18) dX12_goesOn_18 ?_
      refine kz_lconst (pc := 19) (v := 1) (by decide) dX12_goesOn_19 ?_
      refine kz_land (pc := 20) dX12_goesOn_20 ?_
      refine kz_lconst (pc := 21) (v := 1) (by decide) dX12_goesOn_21 ?_
      refine kz_lcmp_ne (pc := 22) (tgt := 28) (by decide) dX12_goesOn_22 dX12_goesOn_23 (fun hb => ?_) (fun hb => ?_)
      · replace h := h.1 hb
        refine kz_iload_n (pc := 28) 3 (i := 3) rfl rfl dX12_goesOn_28 ?_
        refine kz_iconst (pc := 29) (v := 1) (by decide) dX12_goesOn_29 ?_
        refine kz_iadd (pc := 30) dX12_goesOn_30 ?_
        refine kz_aload_n (pc := 31) 0 (v := .ref a0) (i := 0) rfl rfl rfl dX12_goesOn_31 ?_
        obtain ⟨fs5, v6, hM, hv, h⟩ := h
        refine kz_getf (pc := 32) (k := 10) kcX12 hM hv (by decide) kw_1388 dX12_goesOn_32 ?_
        refine kz_iload_n (pc := 35) 2 (i := 2) rfl rfl dX12_goesOn_35 ?_
        obtain ⟨n7, f8, hM, hi, h⟩ := h
        refine kz_lald (pc := 36) hM hi dX12_goesOn_36 ?_
        refine kz_callS (pc := 37) (μ' := mX12_lettersOf) (d' := d + 0) (mc' := 0) (ms' := 0) (As := [.long (f8 p2.toNatClampNeg)]) (st := [.int (p3 + 1)]) (c := 0) (sl := 0) kmX12_lettersOf kw_1737 (by omega) rfl (Nat.le_of_ble_eq_true rfl) (Nat.le_refl _) (Nat.le_refl _) dX12_goesOn_37 (fun E M9 hx => kz_Tout rfl (Nat.le_refl _) (Nat.le_refl _) hx) (kz_Cmono (fun v M9 h => ?_) (fun _ _ h => h) h)
        obtain ⟨r10, rfl, h⟩ := h
        show kz_Z G (d + 1) 0 0 mX12_goesOn Qr Qx 40 [(0, .ref a0), (1, .int p1), (2, .int p2), (3, .int p3), (4, .int p4)] [.int r10, .int (p3 + 1)] M9 0 0
        refine kz_iadd (pc := 40) dX12_goesOn_40 ?_
        refine kz_iload (pc := 41) 4 (i := 4) rfl dX12_goesOn_41 ?_
        refine kz_icmp_gt (pc := 43) (tgt := 50) (by decide) dX12_goesOn_43 (fun hb => ?_) (fun hb => ?_)
        · replace h := h.1 hb
          refine kz_iconst (pc := 50) (v := 0) (by decide) dX12_goesOn_50 ?_
          exact kz_zret (pc := 51) (ty := .boolean) rfl (by decide) (Nat.le_refl _) (Nat.le_refl _) dX12_goesOn_51 h
        · replace h := h.2 hb
          refine kz_iconst (pc := 46) (v := 1) (by decide) dX12_goesOn_46 ?_
          refine kz_goto (pc := 47) (tgt := 51) (by decide) dX12_goesOn_47 ?_
          exact kz_zret (pc := 51) (ty := .boolean) rfl (by decide) (Nat.le_refl _) (Nat.le_refl _) dX12_goesOn_51 h
      · replace h := h.2 hb
        refine kz_iconst (pc := 26) (v := 0) (by decide) dX12_goesOn_26 ?_
        exact kz_zret (pc := 27) (ty := .boolean) rfl (by decide) (Nat.le_refl _) (Nat.le_refl _) dX12_goesOn_27 h
theorem dX12_makes_0 : decode cX12_makes 0 = .ok (.aload_n 0, 1) := by decide +kernel
theorem dX12_makes_1 : decode cX12_makes 1 = .ok (.iconst 0, 1) := by decide +kernel
theorem dX12_makes_2 : decode cX12_makes 2 = .ok (.putfield 134, 3) := by decide +kernel
theorem dX12_makes_5 : decode cX12_makes 5 = .ok (.iconst 0, 1) := by decide +kernel
theorem dX12_makes_6 : decode cX12_makes 6 = .ok (.istore_n 3, 1) := by decide +kernel
theorem dX12_makes_7 : decode cX12_makes 7 = .ok (.iload_n 3, 1) := by decide +kernel
theorem dX12_makes_8 : decode cX12_makes 8 = .ok (.aload_n 0, 1) := by decide +kernel
theorem dX12_makes_9 : decode cX12_makes 9 = .ok (.getfield 127, 3) := by decide +kernel
theorem dX12_makes_12 : decode cX12_makes 12 = .ok (.if_icmp .ge 139, 3) := by decide +kernel
theorem dX12_makes_15 : decode cX12_makes 15 = .ok (.iload_n 3, 1) := by decide +kernel
theorem dX12_makes_16 : decode cX12_makes 16 = .ok (.istore 4, 2) := by decide +kernel
theorem dX12_makes_18 : decode cX12_makes 18 = .ok (.aload_n 0, 1) := by decide +kernel
theorem dX12_makes_19 : decode cX12_makes 19 = .ok (.getfield 32, 3) := by decide +kernel
theorem dX12_makes_22 : decode cX12_makes 22 = .ok (.iload_n 3, 1) := by decide +kernel
theorem dX12_makes_23 : decode cX12_makes 23 = .ok (.laload, 1) := by decide +kernel
theorem dX12_makes_24 : decode cX12_makes 24 = .ok (.invokestatic 108, 3) := by decide +kernel
theorem dX12_makes_27 : decode cX12_makes 27 = .ok (.istore 5, 2) := by decide +kernel
theorem dX12_makes_29 : decode cX12_makes 29 = .ok (.iinc 3 1, 3) := by decide +kernel
theorem dX12_makes_32 : decode cX12_makes 32 = .ok (.aload_n 0, 1) := by decide +kernel
theorem dX12_makes_33 : decode cX12_makes 33 = .ok (.iload_n 1, 1) := by decide +kernel
theorem dX12_makes_34 : decode cX12_makes 34 = .ok (.iload_n 3, 1) := by decide +kernel
theorem dX12_makes_35 : decode cX12_makes 35 = .ok (.iload 5, 2) := by decide +kernel
theorem dX12_makes_37 : decode cX12_makes 37 = .ok (.iload_n 2, 1) := by decide +kernel
theorem dX12_makes_38 : decode cX12_makes 38 = .ok (.invokevirtual 137, 3) := by decide +kernel
theorem dX12_makes_41 : decode cX12_makes 41 = .ok (.ifCond .eq 25, 3) := by decide +kernel
theorem dX12_makes_44 : decode cX12_makes 44 = .ok (.iload 5, 2) := by decide +kernel
theorem dX12_makes_46 : decode cX12_makes 46 = .ok (.iconst 1, 1) := by decide +kernel
theorem dX12_makes_47 : decode cX12_makes 47 = .ok (.aload_n 0, 1) := by decide +kernel
theorem dX12_makes_48 : decode cX12_makes 48 = .ok (.getfield 32, 3) := by decide +kernel
theorem dX12_makes_51 : decode cX12_makes 51 = .ok (.iload_n 3, 1) := by decide +kernel
theorem dX12_makes_52 : decode cX12_makes 52 = .ok (.laload, 1) := by decide +kernel
theorem dX12_makes_53 : decode cX12_makes 53 = .ok (.invokestatic 108, 3) := by decide +kernel
theorem dX12_makes_56 : decode cX12_makes 56 = .ok (.iadd, 1) := by decide +kernel
theorem dX12_makes_57 : decode cX12_makes 57 = .ok (.iadd, 1) := by decide +kernel
theorem dX12_makes_58 : decode cX12_makes 58 = .ok (.istore 5, 2) := by decide +kernel
theorem dX12_makes_60 : decode cX12_makes 60 = .ok (.iinc 3 1, 3) := by decide +kernel
theorem dX12_makes_63 : decode cX12_makes 63 = .ok (.goto (-31), 3) := by decide +kernel
theorem dX12_makes_66 : decode cX12_makes 66 = .ok (.aload_n 0, 1) := by decide +kernel
theorem dX12_makes_67 : decode cX12_makes 67 = .ok (.getfield 35, 3) := by decide +kernel
theorem dX12_makes_70 : decode cX12_makes 70 = .ok (.aload_n 0, 1) := by decide +kernel
theorem dX12_makes_71 : decode cX12_makes 71 = .ok (.getfield 134, 3) := by decide +kernel
theorem dX12_makes_74 : decode cX12_makes 74 = .ok (.iload 4, 2) := by decide +kernel
theorem dX12_makes_76 : decode cX12_makes 76 = .ok (.iastore, 1) := by decide +kernel
theorem dX12_makes_77 : decode cX12_makes 77 = .ok (.aload_n 0, 1) := by decide +kernel
theorem dX12_makes_78 : decode cX12_makes 78 = .ok (.getfield 38, 3) := by decide +kernel
theorem dX12_makes_81 : decode cX12_makes 81 = .ok (.aload_n 0, 1) := by decide +kernel
theorem dX12_makes_82 : decode cX12_makes 82 = .ok (.getfield 134, 3) := by decide +kernel
theorem dX12_makes_85 : decode cX12_makes 85 = .ok (.iload_n 3, 1) := by decide +kernel
theorem dX12_makes_86 : decode cX12_makes 86 = .ok (.iload 4, 2) := by decide +kernel
theorem dX12_makes_88 : decode cX12_makes 88 = .ok (.isub, 1) := by decide +kernel
theorem dX12_makes_89 : decode cX12_makes 89 = .ok (.iastore, 1) := by decide +kernel
theorem dX12_makes_90 : decode cX12_makes 90 = .ok (.aload_n 0, 1) := by decide +kernel
theorem dX12_makes_91 : decode cX12_makes 91 = .ok (.getfield 44, 3) := by decide +kernel
theorem dX12_makes_94 : decode cX12_makes 94 = .ok (.aload_n 0, 1) := by decide +kernel
theorem dX12_makes_95 : decode cX12_makes 95 = .ok (.getfield 134, 3) := by decide +kernel
theorem dX12_makes_98 : decode cX12_makes 98 = .ok (.iconst 2, 1) := by decide +kernel
theorem dX12_makes_99 : decode cX12_makes 99 = .ok (.iload 5, 2) := by decide +kernel
theorem dX12_makes_101 : decode cX12_makes 101 = .ok (.imul, 1) := by decide +kernel
theorem dX12_makes_102 : decode cX12_makes 102 = .ok (.iload_n 2, 1) := by decide +kernel
theorem dX12_makes_103 : decode cX12_makes 103 = .ok (.if_icmp .ge 16, 3) := by decide +kernel
theorem dX12_makes_106 : decode cX12_makes 106 = .ok (.aload_n 0, 1) := by decide +kernel
theorem dX12_makes_107 : decode cX12_makes 107 = .ok (.bipush 7, 2) := by decide +kernel
theorem dX12_makes_109 : decode cX12_makes 109 = .ok (.iload_n 1, 1) := by decide +kernel
theorem dX12_makes_110 : decode cX12_makes 110 = .ok (.iadd, 1) := by decide +kernel
theorem dX12_makes_111 : decode cX12_makes 111 = .ok (.invokevirtual 141, 3) := by decide +kernel
theorem dX12_makes_114 : decode cX12_makes 114 = .ok (.iconst 2, 1) := by decide +kernel
theorem dX12_makes_115 : decode cX12_makes 115 = .ok (.idiv, 1) := by decide +kernel
theorem dX12_makes_116 : decode cX12_makes 116 = .ok (.goto 11, 3) := by decide +kernel
theorem dX12_makes_119 : decode cX12_makes 119 = .ok (.aload_n 0, 1) := by decide +kernel
theorem dX12_makes_120 : decode cX12_makes 120 = .ok (.bipush 7, 2) := by decide +kernel
theorem dX12_makes_122 : decode cX12_makes 122 = .ok (.iload_n 1, 1) := by decide +kernel
theorem dX12_makes_123 : decode cX12_makes 123 = .ok (.iadd, 1) := by decide +kernel
theorem dX12_makes_124 : decode cX12_makes 124 = .ok (.invokevirtual 141, 3) := by decide +kernel
theorem dX12_makes_127 : decode cX12_makes 127 = .ok (.iastore, 1) := by decide +kernel
theorem dX12_makes_128 : decode cX12_makes 128 = .ok (.aload_n 0, 1) := by decide +kernel
theorem dX12_makes_129 : decode cX12_makes 129 = .ok (.getfield 41, 3) := by decide +kernel
theorem dX12_makes_132 : decode cX12_makes 132 = .ok (.aload_n 0, 1) := by decide +kernel
theorem dX12_makes_133 : decode cX12_makes 133 = .ok (.getfield 134, 3) := by decide +kernel
theorem dX12_makes_136 : decode cX12_makes 136 = .ok (.iconst 0, 1) := by decide +kernel
theorem dX12_makes_137 : decode cX12_makes 137 = .ok (.iastore, 1) := by decide +kernel
theorem dX12_makes_138 : decode cX12_makes 138 = .ok (.aload_n 0, 1) := by decide +kernel
theorem dX12_makes_139 : decode cX12_makes 139 = .ok (.dup, 1) := by decide +kernel
theorem dX12_makes_140 : decode cX12_makes 140 = .ok (.getfield 134, 3) := by decide +kernel
theorem dX12_makes_143 : decode cX12_makes 143 = .ok (.iconst 1, 1) := by decide +kernel
theorem dX12_makes_144 : decode cX12_makes 144 = .ok (.iadd, 1) := by decide +kernel
theorem dX12_makes_145 : decode cX12_makes 145 = .ok (.putfield 134, 3) := by decide +kernel
theorem dX12_makes_148 : decode cX12_makes 148 = .ok (.goto (-141), 3) := by decide +kernel
theorem dX12_makes_151 : decode cX12_makes 151 = .ok (.return_, 1) := by decide +kernel
def zX12_makes_7 (G : kz_G) (d : Nat) (Qr : Option Value → kz_M → Prop) (Qx : String → kz_M → Prop) (x0 : Nat) (x1 : Int32) (x2 : Int32) (x3 : Int32)  (M : kz_M) : Prop := kz_Z G (d + 2) 0 0 mX12_makes Qr Qx 7 [(0, .ref x0), (1, .int x1), (2, .int x2), (3, .int x3)] [] M 0 0
def zX12_makes_32 (G : kz_G) (d : Nat) (Qr : Option Value → kz_M → Prop) (Qx : String → kz_M → Prop) (x0 : Nat) (x1 : Int32) (x2 : Int32) (x3 : Int32) (x4 : Int32) (x5 : Int32)  (M : kz_M) : Prop := kz_Z G (d + 2) 0 0 mX12_makes Qr Qx 32 [(0, .ref x0), (1, .int x1), (2, .int x2), (3, .int x3), (4, .int x4), (5, .int x5)] [] M 0 0
theorem rX12_makes_0 {G : kz_G} {d : Nat} {Qr : Option Value → kz_M → Prop} {Qx : String → kz_M → Prop} {a0 : Nat} {p1 : Int32} {p2 : Int32}  {M : kz_M} (h : ∃ fs1, (M).1 a0 = some (.inl (11, fs1)) ∧ 13 < fs1.length ∧ (zX12_makes_7 G d Qr Qx a0 p1 p2 0 (kz_up M a0 (.inl (11, fs1.set 13 (.int 0)))))) : kz_C G (d + 2) 0 0 mX12_makes [.ref a0, .int p1, .int p2] M Qr Qx := by
  refine kz_enter (n := 2) kmX12_makes.1 (Nat.le_of_ble_eq_true rfl) (ls := [(0, .ref a0), (1, .int p1), (2, .int p2)]) rfl ?_
  refine kz_aload_n (pc := 0) 0 (v := .ref a0) (i := 0) rfl rfl rfl dX12_makes_0 ?_
  refine kz_iconst (pc := 1) (v := 0) (by decide) dX12_makes_1 ?_
  obtain ⟨fs1, hM, hlen, h⟩ := h
  refine kz_putf (pc := 2) (k := 13) kcX12 hM (by decide) hlen kw_1391 rfl rfl rfl dX12_makes_2 ?_
  refine kz_iconst (pc := 5) (v := 0) (by decide) dX12_makes_5 ?_
  refine kz_istore_n (pc := 6) (i := 3) (ls' := [(0, .ref a0), (1, .int p1), (2, .int p2)]) rfl (by decide) rfl dX12_makes_6 ?_
  refine kz_sub [1, 2, 3, 0] rfl ?_
  exact h
theorem rX12_makes_7 {G : kz_G} {d : Nat} {Qr : Option Value → kz_M → Prop} {Qx : String → kz_M → Prop} {x0 : Nat} {x1 : Int32} {x2 : Int32} {x3 : Int32}  {M : kz_M} (h : ∃ fs1 v2, (M).1 x0 = some (.inl (11, fs1)) ∧ fs1[12]? = some (.int v2) ∧ ((v2 ≤ x3 → Qr none M) ∧ (¬ v2 ≤ x3 → ∃ fs3 v4, (M).1 x0 = some (.inl (11, fs3)) ∧ fs3[10]? = some (.ref v4) ∧ (∃ n5 f6, (M).1 v4 = some (.inr (.long, n5, .inr (.inl f6))) ∧ vp_in x3 n5 ∧ (kz_C G (d + 1) 0 0 mX12_lettersOf [.long (f6 x3.toNatClampNeg)] M (fun v M7 => ∃ r8 : Int32, v = some (.int r8) ∧ (zX12_makes_32 G d Qr Qx x0 x1 x2 (x3 + 1) x3 r8 M7)) Qx))))) : zX12_makes_7 G d Qr Qx x0 x1 x2 x3  M := by
  show kz_Z G (d + 2) 0 0 mX12_makes Qr Qx 7 [(0, .ref x0), (1, .int x1), (2, .int x2), (3, .int x3)] [] M 0 0
  refine kz_iload_n (pc := 7) 3 (i := 3) rfl rfl dX12_makes_7 ?_
  refine kz_aload_n (pc := 8) 0 (v := .ref x0) (i := 0) rfl rfl rfl dX12_makes_8 ?_
  obtain ⟨fs1, v2, hM, hv, h⟩ := h
  refine kz_getf (pc := 9) (k := 12) kcX12 hM hv (by decide) kw_1390 dX12_makes_9 ?_
  refine kz_icmp_ge (pc := 12) (tgt := 151) (by decide) dX12_makes_12 (fun hb => ?_) (fun hb => ?_)
  · replace h := h.1 hb
    exact kz_vret (pc := 151) rfl (Nat.le_refl _) (Nat.le_refl _) dX12_makes_151 h
  · replace h := h.2 hb
    refine kz_iload_n (pc := 15) 3 (i := 3) rfl rfl dX12_makes_15 ?_
    refine kz_istore (pc := 16) (i := 4) (ls' := [(0, .ref x0), (1, .int x1), (2, .int x2), (3, .int x3)]) (by decide) rfl dX12_makes_16 ?_
    refine kz_aload_n (pc := 18) 1 (v := .ref x0) (i := 0) rfl rfl rfl dX12_makes_18 ?_
    obtain ⟨fs3, v4, hM, hv, h⟩ := h
    refine kz_getf (pc := 19) (k := 10) kcX12 hM hv (by decide) kw_1388 dX12_makes_19 ?_
    refine kz_iload_n (pc := 22) 4 (i := 3) rfl rfl dX12_makes_22 ?_
    obtain ⟨n5, f6, hM, hi, h⟩ := h
    refine kz_lald (pc := 23) hM hi dX12_makes_23 ?_
    refine kz_callS (pc := 24) (μ' := mX12_lettersOf) (d' := d + 1) (mc' := 0) (ms' := 0) (As := [.long (f6 x3.toNatClampNeg)]) (st := []) (c := 0) (sl := 0) kmX12_lettersOf kw_1737 (by omega) rfl (Nat.le_of_ble_eq_true rfl) (Nat.le_refl _) (Nat.le_refl _) dX12_makes_24 (fun E M9 hx => kz_Tout rfl (Nat.le_refl _) (Nat.le_refl _) hx) (kz_Cmono (fun v M7 h => ?_) (fun _ _ h => h) h)
    obtain ⟨r8, rfl, h⟩ := h
    show kz_Z G (d + 2) 0 0 mX12_makes Qr Qx 27 [(4, .int x3), (0, .ref x0), (1, .int x1), (2, .int x2), (3, .int x3)] [.int r8] M7 0 0
    refine kz_istore (pc := 27) (i := 5) (ls' := [(4, .int x3), (0, .ref x0), (1, .int x1), (2, .int x2), (3, .int x3)]) (by decide) rfl dX12_makes_27 ?_
    refine kz_iinc (pc := 29) 5 (i := 3) (v := x3 + 1) (ls' := [(5, .int r8), (4, .int x3), (0, .ref x0), (1, .int x1), (2, .int x2)]) rfl (congrArg (fun z => x3 + z) (by decide)) (by decide) rfl dX12_makes_29 ?_
    refine kz_sub [3, 4, 5, 0, 2, 1] rfl ?_
    exact h
theorem rX12_makes_32 {G : kz_G} {d : Nat} {Qr : Option Value → kz_M → Prop} {Qx : String → kz_M → Prop} {x0 : Nat} {x1 : Int32} {x2 : Int32} {x3 : Int32} {x4 : Int32} {x5 : Int32}  {M : kz_M} (h : (∃ fs61, (M).1 x0 = some (.inl (11, fs61))) ∧ kz_C G (d + 1) 0 0 mX12_goesOn [.ref x0, .int x1, .int x3, .int x5, .int x2] M (fun v M1 => ∃ r2 : Int32, v = some (.int r2) ∧ ((r2 = 0 → ∃ fs4 v5, (M1).1 x0 = some (.inl (11, fs4)) ∧ fs4[14]? = some (.ref v5) ∧ (∃ fs6 v7, (M1).1 x0 = some (.inl (11, fs6)) ∧ fs6[13]? = some (.int v7) ∧ (∃ n8 f9, (M1).1 v5 = some (.inr (.int, n8, .inl f9)) ∧ vp_in v7 n8 ∧ (∃ fs10 v11, ((kz_up M1 v5 (.inr (.int, n8, .inl (upd f9 (v7 : Int32).toNatClampNeg x4))))).1 x0 = some (.inl (11, fs10)) ∧ fs10[15]? = some (.ref v11) ∧ (∃ fs12 v13, ((kz_up M1 v5 (.inr (.int, n8, .inl (upd f9 (v7 : Int32).toNatClampNeg x4))))).1 x0 = some (.inl (11, fs12)) ∧ fs12[13]? = some (.int v13) ∧ (∃ n14 f15, ((kz_up M1 v5 (.inr (.int, n8, .inl (upd f9 (v7 : Int32).toNatClampNeg x4))))).1 v11 = some (.inr (.int, n14, .inl f15)) ∧ vp_in v13 n14 ∧ (∀ M16, M16 = kz_up (kz_up M1 v5 (.inr (.int, n8, .inl (upd f9 (v7 : Int32).toNatClampNeg x4)))) v11 (.inr (.int, n14, .inl (upd f15 (v13 : Int32).toNatClampNeg (x3 - x4)))) → ∃ fs17 v18, (M16).1 x0 = some (.inl (11, fs17)) ∧ fs17[17]? = some (.ref v18) ∧ (∃ fs19 v20, (M16).1 x0 = some (.inl (11, fs19)) ∧ fs19[13]? = some (.int v20) ∧ ((x2 ≤ (2 * x5) → (∃ fs36, (M16).1 x0 = some (.inl (11, fs36))) ∧ kz_C G (d + 1) 0 0 mX12_its [.ref x0, .int (7 + x1)] M16 (fun v M21 => ∃ r22 : Int32, v = some (.int r22) ∧ (∃ n24 f25, (M21).1 v18 = some (.inr (.int, n24, .inl f25)) ∧ vp_in v20 n24 ∧ (∃ fs26 v27, ((kz_up M21 v18 (.inr (.int, n24, .inl (upd f25 (v20 : Int32).toNatClampNeg r22))))).1 x0 = some (.inl (11, fs26)) ∧ fs26[16]? = some (.ref v27) ∧ (∃ fs28 v29, ((kz_up M21 v18 (.inr (.int, n24, .inl (upd f25 (v20 : Int32).toNatClampNeg r22))))).1 x0 = some (.inl (11, fs28)) ∧ fs28[13]? = some (.int v29) ∧ (∃ n30 f31, ((kz_up M21 v18 (.inr (.int, n24, .inl (upd f25 (v20 : Int32).toNatClampNeg r22))))).1 v27 = some (.inr (.int, n30, .inl f31)) ∧ vp_in v29 n30 ∧ (∀ M32, M32 = kz_up (kz_up M21 v18 (.inr (.int, n24, .inl (upd f25 (v20 : Int32).toNatClampNeg r22)))) v27 (.inr (.int, n30, .inl (upd f31 (v29 : Int32).toNatClampNeg 0))) → ∃ fs33 v34, (M32).1 x0 = some (.inl (11, fs33)) ∧ fs33[13]? = some (.int v34) ∧ (∃ fs35, (M32).1 x0 = some (.inl (11, fs35)) ∧ 13 < fs35.length ∧ (zX12_makes_7 G d Qr Qx x0 x1 x2 x3 (kz_up M32 x0 (.inl (11, fs35.set 13 (.int (v34 + 1))))))))))))) Qx) ∧ (¬ x2 ≤ (2 * x5) → (∃ fs52, (M16).1 x0 = some (.inl (11, fs52))) ∧ kz_C G (d + 1) 0 0 mX12_its [.ref x0, .int (7 + x1)] M16 (fun v M37 => ∃ r38 : Int32, v = some (.int r38) ∧ (∃ n40 f41, (M37).1 v18 = some (.inr (.int, n40, .inl f41)) ∧ vp_in v20 n40 ∧ (∃ fs42 v43, ((kz_up M37 v18 (.inr (.int, n40, .inl (upd f41 (v20 : Int32).toNatClampNeg (r38 / 2)))))).1 x0 = some (.inl (11, fs42)) ∧ fs42[16]? = some (.ref v43) ∧ (∃ fs44 v45, ((kz_up M37 v18 (.inr (.int, n40, .inl (upd f41 (v20 : Int32).toNatClampNeg (r38 / 2)))))).1 x0 = some (.inl (11, fs44)) ∧ fs44[13]? = some (.int v45) ∧ (∃ n46 f47, ((kz_up M37 v18 (.inr (.int, n40, .inl (upd f41 (v20 : Int32).toNatClampNeg (r38 / 2)))))).1 v43 = some (.inr (.int, n46, .inl f47)) ∧ vp_in v45 n46 ∧ (∀ M48, M48 = kz_up (kz_up M37 v18 (.inr (.int, n40, .inl (upd f41 (v20 : Int32).toNatClampNeg (r38 / 2))))) v43 (.inr (.int, n46, .inl (upd f47 (v45 : Int32).toNatClampNeg 0))) → ∃ fs49 v50, (M48).1 x0 = some (.inl (11, fs49)) ∧ fs49[13]? = some (.int v50) ∧ (∃ fs51, (M48).1 x0 = some (.inl (11, fs51)) ∧ 13 < fs51.length ∧ (zX12_makes_7 G d Qr Qx x0 x1 x2 x3 (kz_up M48 x0 (.inl (11, fs51.set 13 (.int (v50 + 1))))))))))))) Qx)))))))))) ∧ (¬ r2 = 0 → ∃ fs53 v54, (M1).1 x0 = some (.inl (11, fs53)) ∧ fs53[10]? = some (.ref v54) ∧ (∃ n55 f56, (M1).1 v54 = some (.inr (.long, n55, .inr (.inl f56))) ∧ vp_in x3 n55 ∧ (kz_C G (d + 1) 0 0 mX12_lettersOf [.long (f56 x3.toNatClampNeg)] M1 (fun v M57 => ∃ r58 : Int32, v = some (.int r58) ∧ (zX12_makes_32 G d Qr Qx x0 x1 x2 (x3 + 1) x4 (x5 + (1 + r58)) M57)) Qx))))) Qx) : zX12_makes_32 G d Qr Qx x0 x1 x2 x3 x4 x5  M := by
  show kz_Z G (d + 2) 0 0 mX12_makes Qr Qx 32 [(0, .ref x0), (1, .int x1), (2, .int x2), (3, .int x3), (4, .int x4), (5, .int x5)] [] M 0 0
  refine kz_aload_n (pc := 32) 0 (v := .ref x0) (i := 0) rfl rfl rfl dX12_makes_32 ?_
  refine kz_iload_n (pc := 33) 1 (i := 1) rfl rfl dX12_makes_33 ?_
  refine kz_iload_n (pc := 34) 3 (i := 3) rfl rfl dX12_makes_34 ?_
  refine kz_iload (pc := 35) 5 (i := 5) rfl dX12_makes_35 ?_
  refine kz_iload_n (pc := 37) 2 (i := 2) rfl rfl dX12_makes_37 ?_
  obtain ⟨⟨fs61, he⟩, h⟩ := h
  refine kz_callV (pc := 38) (μ' := mX12_goesOn) (ci := 11) (q := (RX12, TX12, 32)) (b := x0) (d' := d + 1) (mc' := 0) (ms' := 0) (As := [.int x1, .int x3, .int x5, .int x2]) (st := []) (c := 0) (sl := 0) kmX12_goesOn kw_1831 (by omega) rfl (Nat.le_of_ble_eq_true rfl) he rfl rfl (Nat.le_refl _) (Nat.le_refl _) dX12_makes_38 (fun E M9 hx => kz_Tout rfl (Nat.le_refl _) (Nat.le_refl _) hx) (kz_Cmono (fun v M1 h => ?_) (fun _ _ h => h) h)
  obtain ⟨r2, rfl, h⟩ := h
  show kz_Z G (d + 2) 0 0 mX12_makes Qr Qx 41 [(0, .ref x0), (1, .int x1), (2, .int x2), (3, .int x3), (4, .int x4), (5, .int x5)] [.int r2] M1 0 0
  refine kz_if_eq (pc := 41) (tgt := 66) (by decide) dX12_makes_41 (fun hb => ?_) (fun hb => ?_)
  · replace h := h.1 hb
    refine kz_aload_n (pc := 66) 0 (v := .ref x0) (i := 0) rfl rfl rfl dX12_makes_66 ?_
    obtain ⟨fs4, v5, hM, hv, h⟩ := h
    refine kz_getf (pc := 67) (k := 14) kcX12 hM hv (by decide) kw_1392 dX12_makes_67 ?_
    refine kz_aload_n (pc := 70) 0 (v := .ref x0) (i := 0) rfl rfl rfl dX12_makes_70 ?_
    obtain ⟨fs6, v7, hM, hv, h⟩ := h
    refine kz_getf (pc := 71) (k := 13) kcX12 hM hv (by decide) kw_1391 dX12_makes_71 ?_
    refine kz_iload (pc := 74) 4 (i := 4) rfl dX12_makes_74 ?_
    obtain ⟨n8, f9, hM, hi, h⟩ := h
    refine kz_iast (pc := 76) hM hi dX12_makes_76 ?_
    refine kz_aload_n (pc := 77) 0 (v := .ref x0) (i := 0) rfl rfl rfl dX12_makes_77 ?_
    obtain ⟨fs10, v11, hM, hv, h⟩ := h
    refine kz_getf (pc := 78) (k := 15) kcX12 hM hv (by decide) kw_1393 dX12_makes_78 ?_
    refine kz_aload_n (pc := 81) 0 (v := .ref x0) (i := 0) rfl rfl rfl dX12_makes_81 ?_
    obtain ⟨fs12, v13, hM, hv, h⟩ := h
    refine kz_getf (pc := 82) (k := 13) kcX12 hM hv (by decide) kw_1391 dX12_makes_82 ?_
    refine kz_iload_n (pc := 85) 3 (i := 3) rfl rfl dX12_makes_85 ?_
    refine kz_iload (pc := 86) 4 (i := 4) rfl dX12_makes_86 ?_
    refine kz_isub (pc := 88) dX12_makes_88 ?_
    obtain ⟨n14, f15, hM, hi, h⟩ := h
    refine kz_iast (pc := 89) hM hi dX12_makes_89 ?_
    refine kz_nameM (fun M16 e9 => ?_)
    replace h := h M16 e9
    refine kz_aload_n (pc := 90) 0 (v := .ref x0) (i := 0) rfl rfl rfl dX12_makes_90 ?_
    obtain ⟨fs17, v18, hM, hv, h⟩ := h
    refine kz_getf (pc := 91) (k := 17) kcX12 hM hv (by decide) kw_1395 dX12_makes_91 ?_
    refine kz_aload_n (pc := 94) 0 (v := .ref x0) (i := 0) rfl rfl rfl dX12_makes_94 ?_
    obtain ⟨fs19, v20, hM, hv, h⟩ := h
    refine kz_getf (pc := 95) (k := 13) kcX12 hM hv (by decide) kw_1391 dX12_makes_95 ?_
    refine kz_iconst (pc := 98) (v := 2) (by decide) dX12_makes_98 ?_
    refine kz_iload (pc := 99) 5 (i := 5) rfl dX12_makes_99 ?_
    refine kz_imul (pc := 101) dX12_makes_101 ?_
    refine kz_iload_n (pc := 102) 2 (i := 2) rfl rfl dX12_makes_102 ?_
    refine kz_icmp_ge (pc := 103) (tgt := 119) (by decide) dX12_makes_103 (fun hb => ?_) (fun hb => ?_)
    · replace h := h.1 hb
      refine kz_aload_n (pc := 119) 0 (v := .ref x0) (i := 0) rfl rfl rfl dX12_makes_119 ?_
      refine kz_bipush (pc := 120) (v := 7) (by decide) dX12_makes_120 ?_
      refine kz_iload_n (pc := 122) 1 (i := 1) rfl rfl dX12_makes_122 ?_
      refine kz_iadd (pc := 123) dX12_makes_123 ?_
      obtain ⟨⟨fs36, he⟩, h⟩ := h
      refine kz_callV (pc := 124) (μ' := mX12_its) (ci := 11) (q := (RX12, TX12, 32)) (b := x0) (d' := d + 1) (mc' := 0) (ms' := 0) (As := [.int (7 + x1)]) (st := [.int v20, .ref v18]) (c := 0) (sl := 0) kmX12_its kw_1657 (by omega) rfl (Nat.le_of_ble_eq_true rfl) he rfl rfl (Nat.le_refl _) (Nat.le_refl _) dX12_makes_124 (fun E M9 hx => kz_Tout rfl (Nat.le_refl _) (Nat.le_refl _) hx) (kz_Cmono (fun v M21 h => ?_) (fun _ _ h => h) h)
      obtain ⟨r22, rfl, h⟩ := h
      show kz_Z G (d + 2) 0 0 mX12_makes Qr Qx 127 [(0, .ref x0), (1, .int x1), (2, .int x2), (3, .int x3), (4, .int x4), (5, .int x5)] [.int r22, .int v20, .ref v18] M21 0 0
      obtain ⟨n24, f25, hM, hi, h⟩ := h
      refine kz_iast (pc := 127) hM hi dX12_makes_127 ?_
      refine kz_aload_n (pc := 128) 0 (v := .ref x0) (i := 0) rfl rfl rfl dX12_makes_128 ?_
      obtain ⟨fs26, v27, hM, hv, h⟩ := h
      refine kz_getf (pc := 129) (k := 16) kcX12 hM hv (by decide) kw_1394 dX12_makes_129 ?_
      refine kz_aload_n (pc := 132) 0 (v := .ref x0) (i := 0) rfl rfl rfl dX12_makes_132 ?_
      obtain ⟨fs28, v29, hM, hv, h⟩ := h
      refine kz_getf (pc := 133) (k := 13) kcX12 hM hv (by decide) kw_1391 dX12_makes_133 ?_
      refine kz_iconst (pc := 136) (v := 0) (by decide) dX12_makes_136 ?_
      obtain ⟨n30, f31, hM, hi, h⟩ := h
      refine kz_iast (pc := 137) hM hi dX12_makes_137 ?_
      refine kz_nameM (fun M32 e9 => ?_)
      replace h := h M32 e9
      refine kz_aload_n (pc := 138) 0 (v := .ref x0) (i := 0) rfl rfl rfl dX12_makes_138 ?_
      refine kz_dup (pc := 139) rfl dX12_makes_139 ?_
      obtain ⟨fs33, v34, hM, hv, h⟩ := h
      refine kz_getf (pc := 140) (k := 13) kcX12 hM hv (by decide) kw_1391 dX12_makes_140 ?_
      refine kz_iconst (pc := 143) (v := 1) (by decide) dX12_makes_143 ?_
      refine kz_iadd (pc := 144) dX12_makes_144 ?_
      obtain ⟨fs35, hM, hlen, h⟩ := h
      refine kz_putf (pc := 145) (k := 13) kcX12 hM (by decide) hlen kw_1391 rfl rfl rfl dX12_makes_145 ?_
      refine kz_goto (pc := 148) (tgt := 7) (by decide) dX12_makes_148 ?_
      refine kz_sub [0, 1, 2, 3] rfl ?_
      exact h
    · replace h := h.2 hb
      refine kz_aload_n (pc := 106) 0 (v := .ref x0) (i := 0) rfl rfl rfl dX12_makes_106 ?_
      refine kz_bipush (pc := 107) (v := 7) (by decide) dX12_makes_107 ?_
      refine kz_iload_n (pc := 109) 1 (i := 1) rfl rfl dX12_makes_109 ?_
      refine kz_iadd (pc := 110) dX12_makes_110 ?_
      obtain ⟨⟨fs52, he⟩, h⟩ := h
      refine kz_callV (pc := 111) (μ' := mX12_its) (ci := 11) (q := (RX12, TX12, 32)) (b := x0) (d' := d + 1) (mc' := 0) (ms' := 0) (As := [.int (7 + x1)]) (st := [.int v20, .ref v18]) (c := 0) (sl := 0) kmX12_its kw_1657 (by omega) rfl (Nat.le_of_ble_eq_true rfl) he rfl rfl (Nat.le_refl _) (Nat.le_refl _) dX12_makes_111 (fun E M9 hx => kz_Tout rfl (Nat.le_refl _) (Nat.le_refl _) hx) (kz_Cmono (fun v M37 h => ?_) (fun _ _ h => h) h)
      obtain ⟨r38, rfl, h⟩ := h
      show kz_Z G (d + 2) 0 0 mX12_makes Qr Qx 114 [(0, .ref x0), (1, .int x1), (2, .int x2), (3, .int x3), (4, .int x4), (5, .int x5)] [.int r38, .int v20, .ref v18] M37 0 0
      refine kz_iconst (pc := 114) (v := 2) (by decide) dX12_makes_114 ?_
      refine kz_idiv (pc := 115) (by decide) dX12_makes_115 ?_
      refine kz_goto (pc := 116) (tgt := 127) (by decide) dX12_makes_116 ?_
      obtain ⟨n40, f41, hM, hi, h⟩ := h
      refine kz_iast (pc := 127) hM hi dX12_makes_127 ?_
      refine kz_aload_n (pc := 128) 0 (v := .ref x0) (i := 0) rfl rfl rfl dX12_makes_128 ?_
      obtain ⟨fs42, v43, hM, hv, h⟩ := h
      refine kz_getf (pc := 129) (k := 16) kcX12 hM hv (by decide) kw_1394 dX12_makes_129 ?_
      refine kz_aload_n (pc := 132) 0 (v := .ref x0) (i := 0) rfl rfl rfl dX12_makes_132 ?_
      obtain ⟨fs44, v45, hM, hv, h⟩ := h
      refine kz_getf (pc := 133) (k := 13) kcX12 hM hv (by decide) kw_1391 dX12_makes_133 ?_
      refine kz_iconst (pc := 136) (v := 0) (by decide) dX12_makes_136 ?_
      obtain ⟨n46, f47, hM, hi, h⟩ := h
      refine kz_iast (pc := 137) hM hi dX12_makes_137 ?_
      refine kz_nameM (fun M48 e9 => ?_)
      replace h := h M48 e9
      refine kz_aload_n (pc := 138) 0 (v := .ref x0) (i := 0) rfl rfl rfl dX12_makes_138 ?_
      refine kz_dup (pc := 139) rfl dX12_makes_139 ?_
      obtain ⟨fs49, v50, hM, hv, h⟩ := h
      refine kz_getf (pc := 140) (k := 13) kcX12 hM hv (by decide) kw_1391 dX12_makes_140 ?_
      refine kz_iconst (pc := 143) (v := 1) (by decide) dX12_makes_143 ?_
      refine kz_iadd (pc := 144) dX12_makes_144 ?_
      obtain ⟨fs51, hM, hlen, h⟩ := h
      refine kz_putf (pc := 145) (k := 13) kcX12 hM (by decide) hlen kw_1391 rfl rfl rfl dX12_makes_145 ?_
      refine kz_goto (pc := 148) (tgt := 7) (by decide) dX12_makes_148 ?_
      refine kz_sub [0, 1, 2, 3] rfl ?_
      exact h
  · replace h := h.2 hb
    refine kz_iload (pc := 44) 5 (i := 5) rfl dX12_makes_44 ?_
    refine kz_iconst (pc := 46) (v := 1) (by decide) dX12_makes_46 ?_
    refine kz_aload_n (pc := 47) 0 (v := .ref x0) (i := 0) rfl rfl rfl dX12_makes_47 ?_
    obtain ⟨fs53, v54, hM, hv, h⟩ := h
    refine kz_getf (pc := 48) (k := 10) kcX12 hM hv (by decide) kw_1388 dX12_makes_48 ?_
    refine kz_iload_n (pc := 51) 3 (i := 3) rfl rfl dX12_makes_51 ?_
    obtain ⟨n55, f56, hM, hi, h⟩ := h
    refine kz_lald (pc := 52) hM hi dX12_makes_52 ?_
    refine kz_callS (pc := 53) (μ' := mX12_lettersOf) (d' := d + 1) (mc' := 0) (ms' := 0) (As := [.long (f56 x3.toNatClampNeg)]) (st := [.int 1, .int x5]) (c := 0) (sl := 0) kmX12_lettersOf kw_1737 (by omega) rfl (Nat.le_of_ble_eq_true rfl) (Nat.le_refl _) (Nat.le_refl _) dX12_makes_53 (fun E M9 hx => kz_Tout rfl (Nat.le_refl _) (Nat.le_refl _) hx) (kz_Cmono (fun v M57 h => ?_) (fun _ _ h => h) h)
    obtain ⟨r58, rfl, h⟩ := h
    show kz_Z G (d + 2) 0 0 mX12_makes Qr Qx 56 [(0, .ref x0), (1, .int x1), (2, .int x2), (3, .int x3), (4, .int x4), (5, .int x5)] [.int r58, .int 1, .int x5] M57 0 0
    refine kz_iadd (pc := 56) dX12_makes_56 ?_
    refine kz_iadd (pc := 57) dX12_makes_57 ?_
    refine kz_istore (pc := 58) (i := 5) (ls' := [(0, .ref x0), (1, .int x1), (2, .int x2), (3, .int x3), (4, .int x4)]) (by decide) rfl dX12_makes_58 ?_
    refine kz_iinc (pc := 60) 4 (i := 3) (v := x3 + 1) (ls' := [(5, .int (x5 + (1 + r58))), (0, .ref x0), (1, .int x1), (2, .int x2), (4, .int x4)]) rfl (congrArg (fun z => x3 + z) (by decide)) (by decide) rfl dX12_makes_60 ?_
    refine kz_goto (pc := 63) (tgt := 32) (by decide) dX12_makes_63 ?_
    refine kz_sub [2, 3, 4, 0, 5, 1] rfl ?_
    exact h
theorem dX12_paidByAll_0 : decode cX12_paidByAll 0 = .ok (.iconst 0, 1) := by decide +kernel
theorem dX12_paidByAll_1 : decode cX12_paidByAll 1 = .ok (.istore_n 1, 1) := by decide +kernel
theorem dX12_paidByAll_2 : decode cX12_paidByAll 2 = .ok (.iconst 0, 1) := by decide +kernel
theorem dX12_paidByAll_3 : decode cX12_paidByAll 3 = .ok (.istore_n 2, 1) := by decide +kernel
theorem dX12_paidByAll_4 : decode cX12_paidByAll 4 = .ok (.iload_n 2, 1) := by decide +kernel
theorem dX12_paidByAll_5 : decode cX12_paidByAll 5 = .ok (.aload_n 0, 1) := by decide +kernel
theorem dX12_paidByAll_6 : decode cX12_paidByAll 6 = .ok (.getfield 134, 3) := by decide +kernel
theorem dX12_paidByAll_9 : decode cX12_paidByAll 9 = .ok (.if_icmp .ge 18, 3) := by decide +kernel
theorem dX12_paidByAll_12 : decode cX12_paidByAll 12 = .ok (.iload_n 1, 1) := by decide +kernel
theorem dX12_paidByAll_13 : decode cX12_paidByAll 13 = .ok (.aload_n 0, 1) := by decide +kernel
theorem dX12_paidByAll_14 : decode cX12_paidByAll 14 = .ok (.getfield 44, 3) := by decide +kernel
theorem dX12_paidByAll_17 : decode cX12_paidByAll 17 = .ok (.iload_n 2, 1) := by decide +kernel
theorem dX12_paidByAll_18 : decode cX12_paidByAll 18 = .ok (.iaload, 1) := by decide +kernel
theorem dX12_paidByAll_19 : decode cX12_paidByAll 19 = .ok (.iadd, 1) := by decide +kernel
theorem dX12_paidByAll_20 : decode cX12_paidByAll 20 = .ok (.istore_n 1, 1) := by decide +kernel
theorem dX12_paidByAll_21 : decode cX12_paidByAll 21 = .ok (.iinc 2 1, 3) := by decide +kernel
theorem dX12_paidByAll_24 : decode cX12_paidByAll 24 = .ok (.goto (-20), 3) := by decide +kernel
theorem dX12_paidByAll_27 : decode cX12_paidByAll 27 = .ok (.iload_n 1, 1) := by decide +kernel
theorem dX12_paidByAll_28 : decode cX12_paidByAll 28 = .ok (.ireturn, 1) := by decide +kernel
def zX12_paidByAll_4 (G : kz_G) (d : Nat) (Qr : Option Value → kz_M → Prop) (Qx : String → kz_M → Prop) (x0 : Nat) (x1 : Int32) (x2 : Int32)  (M : kz_M) : Prop := kz_Z G d 0 0 mX12_paidByAll Qr Qx 4 [(0, .ref x0), (1, .int x1), (2, .int x2)] [] M 0 0
theorem rX12_paidByAll_0 {G : kz_G} {d : Nat} {Qr : Option Value → kz_M → Prop} {Qx : String → kz_M → Prop} {a0 : Nat}  {M : kz_M} (h : zX12_paidByAll_4 G d Qr Qx a0 0 0 M) : kz_C G d 0 0 mX12_paidByAll [.ref a0] M Qr Qx := by
  refine kz_enter (n := 0) kmX12_paidByAll.1 (Nat.le_of_ble_eq_true rfl) (ls := [(0, .ref a0)]) rfl ?_
  refine kz_iconst (pc := 0) (v := 0) (by decide) dX12_paidByAll_0 ?_
  refine kz_istore_n (pc := 1) (i := 1) (ls' := [(0, .ref a0)]) rfl (by decide) rfl dX12_paidByAll_1 ?_
  refine kz_iconst (pc := 2) (v := 0) (by decide) dX12_paidByAll_2 ?_
  refine kz_istore_n (pc := 3) (i := 2) (ls' := [(1, .int 0), (0, .ref a0)]) rfl (by decide) rfl dX12_paidByAll_3 ?_
  refine kz_sub [2, 1, 0] rfl ?_
  exact h
theorem rX12_paidByAll_4 {G : kz_G} {d : Nat} {Qr : Option Value → kz_M → Prop} {Qx : String → kz_M → Prop} {x0 : Nat} {x1 : Int32} {x2 : Int32}  {M : kz_M} (h : ∃ fs1 v2, (M).1 x0 = some (.inl (11, fs1)) ∧ fs1[13]? = some (.int v2) ∧ ((v2 ≤ x2 → Qr (some (.int x1)) M) ∧ (¬ v2 ≤ x2 → ∃ fs3 v4, (M).1 x0 = some (.inl (11, fs3)) ∧ fs3[17]? = some (.ref v4) ∧ (∃ n5 f6, (M).1 v4 = some (.inr (.int, n5, .inl f6)) ∧ vp_in x2 n5 ∧ (zX12_paidByAll_4 G d Qr Qx x0 (x1 + (f6 x2.toNatClampNeg)) (x2 + 1) M))))) : zX12_paidByAll_4 G d Qr Qx x0 x1 x2  M := by
  show kz_Z G d 0 0 mX12_paidByAll Qr Qx 4 [(0, .ref x0), (1, .int x1), (2, .int x2)] [] M 0 0
  refine kz_iload_n (pc := 4) 2 (i := 2) rfl rfl dX12_paidByAll_4 ?_
  refine kz_aload_n (pc := 5) 0 (v := .ref x0) (i := 0) rfl rfl rfl dX12_paidByAll_5 ?_
  obtain ⟨fs1, v2, hM, hv, h⟩ := h
  refine kz_getf (pc := 6) (k := 13) kcX12 hM hv (by decide) kw_1391 dX12_paidByAll_6 ?_
  refine kz_icmp_ge (pc := 9) (tgt := 27) (by decide) dX12_paidByAll_9 (fun hb => ?_) (fun hb => ?_)
  · replace h := h.1 hb
    refine kz_iload_n (pc := 27) 1 (i := 1) rfl rfl dX12_paidByAll_27 ?_
    exact kz_iret (pc := 28) rfl (Nat.le_refl _) (Nat.le_refl _) dX12_paidByAll_28 h
  · replace h := h.2 hb
    refine kz_iload_n (pc := 12) 1 (i := 1) rfl rfl dX12_paidByAll_12 ?_
    refine kz_aload_n (pc := 13) 0 (v := .ref x0) (i := 0) rfl rfl rfl dX12_paidByAll_13 ?_
    obtain ⟨fs3, v4, hM, hv, h⟩ := h
    refine kz_getf (pc := 14) (k := 17) kcX12 hM hv (by decide) kw_1395 dX12_paidByAll_14 ?_
    refine kz_iload_n (pc := 17) 2 (i := 2) rfl rfl dX12_paidByAll_17 ?_
    obtain ⟨n5, f6, hM, hi, h⟩ := h
    refine kz_iald (pc := 18) hM hi dX12_paidByAll_18 ?_
    refine kz_iadd (pc := 19) dX12_paidByAll_19 ?_
    refine kz_istore_n (pc := 20) (i := 1) (ls' := [(0, .ref x0), (2, .int x2)]) rfl (by decide) rfl dX12_paidByAll_20 ?_
    refine kz_iinc (pc := 21) 2 (i := 2) (v := x2 + 1) (ls' := [(1, .int (x1 + (f6 x2.toNatClampNeg))), (0, .ref x0)]) rfl (congrArg (fun z => x2 + z) (by decide)) (by decide) rfl dX12_paidByAll_21 ?_
    refine kz_goto (pc := 24) (tgt := 4) (by decide) dX12_paidByAll_24 ?_
    refine kz_sub [2, 1, 0] rfl ?_
    exact h
theorem dX12_isLike_0 : decode cX12_isLike 0 = .ok (.aload_n 0, 1) := by decide +kernel
theorem dX12_isLike_1 : decode cX12_isLike 1 = .ok (.iload_n 2, 1) := by decide +kernel
theorem dX12_isLike_2 : decode cX12_isLike 2 = .ok (.iload_n 3, 1) := by decide +kernel
theorem dX12_isLike_3 : decode cX12_isLike 3 = .ok (.iconst 1, 1) := by decide +kernel
theorem dX12_isLike_4 : decode cX12_isLike 4 = .ok (.invokevirtual 93, 3) := by decide +kernel
theorem dX12_isLike_7 : decode cX12_isLike 7 = .ok (.aload_n 0, 1) := by decide +kernel
theorem dX12_isLike_8 : decode cX12_isLike 8 = .ok (.getfield 38, 3) := by decide +kernel
theorem dX12_isLike_11 : decode cX12_isLike 11 = .ok (.iload_n 1, 1) := by decide +kernel
theorem dX12_isLike_12 : decode cX12_isLike 12 = .ok (.iaload, 1) := by decide +kernel
theorem dX12_isLike_13 : decode cX12_isLike 13 = .ok (.if_icmp .eq 5, 3) := by decide +kernel
theorem dX12_isLike_16 : decode cX12_isLike 16 = .ok (.iconst 0, 1) := by decide +kernel
theorem dX12_isLike_17 : decode cX12_isLike 17 = .ok (.ireturn, 1) := by decide +kernel
theorem dX12_isLike_18 : decode cX12_isLike 18 = .ok (.iconst 0, 1) := by decide +kernel
theorem dX12_isLike_19 : decode cX12_isLike 19 = .ok (.istore 4, 2) := by decide +kernel
theorem dX12_isLike_21 : decode cX12_isLike 21 = .ok (.iload 4, 2) := by decide +kernel
theorem dX12_isLike_23 : decode cX12_isLike 23 = .ok (.aload_n 0, 1) := by decide +kernel
theorem dX12_isLike_24 : decode cX12_isLike 24 = .ok (.getfield 38, 3) := by decide +kernel
theorem dX12_isLike_27 : decode cX12_isLike 27 = .ok (.iload_n 1, 1) := by decide +kernel
theorem dX12_isLike_28 : decode cX12_isLike 28 = .ok (.iaload, 1) := by decide +kernel
theorem dX12_isLike_29 : decode cX12_isLike 29 = .ok (.if_icmp .ge 37, 3) := by decide +kernel
theorem dX12_isLike_32 : decode cX12_isLike 32 = .ok (.aload_n 0, 1) := by decide +kernel
theorem dX12_isLike_33 : decode cX12_isLike 33 = .ok (.iload_n 2, 1) := by decide +kernel
theorem dX12_isLike_34 : decode cX12_isLike 34 = .ok (.iload_n 3, 1) := by decide +kernel
theorem dX12_isLike_35 : decode cX12_isLike 35 = .ok (.iload 4, 2) := by decide +kernel
theorem dX12_isLike_37 : decode cX12_isLike 37 = .ok (.invokevirtual 104, 3) := by decide +kernel
theorem dX12_isLike_40 : decode cX12_isLike 40 = .ok (.aload_n 0, 1) := by decide +kernel
theorem dX12_isLike_41 : decode cX12_isLike 41 = .ok (.getfield 32, 3) := by decide +kernel
theorem dX12_isLike_44 : decode cX12_isLike 44 = .ok (.aload_n 0, 1) := by decide +kernel
theorem dX12_isLike_45 : decode cX12_isLike 45 = .ok (.getfield 35, 3) := by decide +kernel
theorem dX12_isLike_48 : decode cX12_isLike 48 = .ok (.iload_n 1, 1) := by decide +kernel
theorem dX12_isLike_49 : decode cX12_isLike 49 = .ok (.iaload, 1) := by decide +kernel
theorem dX12_isLike_50 : decode cX12_isLike 50 = .ok (.iload 4, 2) := by decide +kernel
theorem dX12_isLike_52 : decode cX12_isLike 52 = .ok (.iadd, 1) := by decide +kernel
theorem dX12_isLike_53 : decode cX12_isLike 53 = .ok (.laload, 1) := by decide +kernel
theorem dX12_isLike_54 : decode cX12_isLike 54 = .ok (.lcmp, 1) := by decide +kernel
theorem dX12_isLike_55 : decode cX12_isLike 55 = .ok (.ifCond .eq 5, 3) := by decide +kernel
theorem dX12_isLike_58 : decode cX12_isLike 58 = .ok (.iconst 0, 1) := by decide +kernel
theorem dX12_isLike_59 : decode cX12_isLike 59 = .ok (.ireturn, 1) := by decide +kernel
theorem dX12_isLike_60 : decode cX12_isLike 60 = .ok (.iinc 4 1, 3) := by decide +kernel
theorem dX12_isLike_63 : decode cX12_isLike 63 = .ok (.goto (-42), 3) := by decide +kernel
theorem dX12_isLike_66 : decode cX12_isLike 66 = .ok (.iconst 1, 1) := by decide +kernel
theorem dX12_isLike_67 : decode cX12_isLike 67 = .ok (.ireturn, 1) := by decide +kernel
def zX12_isLike_21 (G : kz_G) (d : Nat) (Qr : Option Value → kz_M → Prop) (Qx : String → kz_M → Prop) (x0 : Nat) (x1 : Int32) (x2 : Int32) (x3 : Int32) (x4 : Int32)  (M : kz_M) : Prop := kz_Z G (d + 3) 0 0 mX12_isLike Qr Qx 21 [(0, .ref x0), (1, .int x1), (2, .int x2), (3, .int x3), (4, .int x4)] [] M 0 0
theorem rX12_isLike_0 {G : kz_G} {d : Nat} {Qr : Option Value → kz_M → Prop} {Qx : String → kz_M → Prop} {a0 : Nat} {p1 : Int32} {p2 : Int32} {p3 : Int32}  {M : kz_M} (h : (∃ fs8, (M).1 a0 = some (.inl (11, fs8))) ∧ kz_C G (d + 2) 0 0 mX12_ofLine [.ref a0, .int p2, .int p3, .int 1] M (fun v M1 => ∃ r2 : Int32, v = some (.int r2) ∧ (∃ fs4 v5, (M1).1 a0 = some (.inl (11, fs4)) ∧ fs4[15]? = some (.ref v5) ∧ (∃ n6 f7, (M1).1 v5 = some (.inr (.int, n6, .inl f7)) ∧ vp_in p1 n6 ∧ ((r2 = (f7 p1.toNatClampNeg) → zX12_isLike_21 G d Qr Qx a0 p1 p2 p3 0 M1) ∧ (¬ r2 = (f7 p1.toNatClampNeg) → Qr (some (.int 0)) M1))))) Qx) : kz_C G (d + 3) 0 0 mX12_isLike [.ref a0, .int p1, .int p2, .int p3] M Qr Qx := by
  refine kz_enter (n := 3) kmX12_isLike.1 (Nat.le_of_ble_eq_true rfl) (ls := [(0, .ref a0), (1, .int p1), (2, .int p2), (3, .int p3)]) rfl ?_
  refine kz_aload_n (pc := 0) 0 (v := .ref a0) (i := 0) rfl rfl rfl dX12_isLike_0 ?_
  refine kz_iload_n (pc := 1) 2 (i := 2) rfl rfl dX12_isLike_1 ?_
  refine kz_iload_n (pc := 2) 3 (i := 3) rfl rfl dX12_isLike_2 ?_
  refine kz_iconst (pc := 3) (v := 1) (by decide) dX12_isLike_3 ?_
  obtain ⟨⟨fs8, he⟩, h⟩ := h
  refine kz_callV (pc := 4) (μ' := mX12_ofLine) (ci := 11) (q := (RX12, TX12, 32)) (b := a0) (d' := d + 2) (mc' := 0) (ms' := 0) (As := [.int p2, .int p3, .int 1]) (st := []) (c := 0) (sl := 0) kmX12_ofLine kw_1636 (by omega) rfl (Nat.le_of_ble_eq_true rfl) he rfl rfl (Nat.le_refl _) (Nat.le_refl _) dX12_isLike_4 (fun E M9 hx => kz_Tout rfl (Nat.le_refl _) (Nat.le_refl _) hx) (kz_Cmono (fun v M1 h => ?_) (fun _ _ h => h) h)
  obtain ⟨r2, rfl, h⟩ := h
  show kz_Z G (d + 3) 0 0 mX12_isLike Qr Qx 7 [(0, .ref a0), (1, .int p1), (2, .int p2), (3, .int p3)] [.int r2] M1 0 0
  refine kz_aload_n (pc := 7) 0 (v := .ref a0) (i := 0) rfl rfl rfl dX12_isLike_7 ?_
  obtain ⟨fs4, v5, hM, hv, h⟩ := h
  refine kz_getf (pc := 8) (k := 15) kcX12 hM hv (by decide) kw_1393 dX12_isLike_8 ?_
  refine kz_iload_n (pc := 11) 1 (i := 1) rfl rfl dX12_isLike_11 ?_
  obtain ⟨n6, f7, hM, hi, h⟩ := h
  refine kz_iald (pc := 12) hM hi dX12_isLike_12 ?_
  refine kz_icmp_eq (pc := 13) (tgt := 18) (by decide) dX12_isLike_13 (fun hb => ?_) (fun hb => ?_)
  · replace h := h.1 hb
    refine kz_iconst (pc := 18) (v := 0) (by decide) dX12_isLike_18 ?_
    refine kz_istore (pc := 19) (i := 4) (ls' := [(0, .ref a0), (1, .int p1), (2, .int p2), (3, .int p3)]) (by decide) rfl dX12_isLike_19 ?_
    refine kz_sub [1, 2, 3, 4, 0] rfl ?_
    exact h
  · replace h := h.2 hb
    refine kz_iconst (pc := 16) (v := 0) (by decide) dX12_isLike_16 ?_
    exact kz_zret (pc := 17) (ty := .boolean) rfl (by decide) (Nat.le_refl _) (Nat.le_refl _) dX12_isLike_17 h
theorem rX12_isLike_21 {G : kz_G} {d : Nat} {Qr : Option Value → kz_M → Prop} {Qx : String → kz_M → Prop} {x0 : Nat} {x1 : Int32} {x2 : Int32} {x3 : Int32} {x4 : Int32}  {M : kz_M} (h : ∃ fs1 v2, (M).1 x0 = some (.inl (11, fs1)) ∧ fs1[15]? = some (.ref v2) ∧ (∃ n3 f4, (M).1 v2 = some (.inr (.int, n3, .inl f4)) ∧ vp_in x1 n3 ∧ (((f4 x1.toNatClampNeg) ≤ x4 → Qr (some (.int 1)) M) ∧ (¬ (f4 x1.toNatClampNeg) ≤ x4 → (∃ fs16, (M).1 x0 = some (.inl (11, fs16))) ∧ kz_C G (d + 2) 0 0 mX12_wordIn [.ref x0, .int x2, .int x3, .int x4] M (fun v M5 => ∃ r6 : Int64, v = some (.long r6) ∧ (∃ fs8 v9, (M5).1 x0 = some (.inl (11, fs8)) ∧ fs8[10]? = some (.ref v9) ∧ (∃ fs10 v11, (M5).1 x0 = some (.inl (11, fs10)) ∧ fs10[14]? = some (.ref v11) ∧ (∃ n12 f13, (M5).1 v11 = some (.inr (.int, n12, .inl f13)) ∧ vp_in x1 n12 ∧ (∃ n14 f15, (M5).1 v9 = some (.inr (.long, n14, .inr (.inl f15))) ∧ vp_in ((f13 x1.toNatClampNeg) + x4) n14 ∧ ((r6 = (f15 ((f13 x1.toNatClampNeg) + x4).toNatClampNeg) → zX12_isLike_21 G d Qr Qx x0 x1 x2 x3 (x4 + 1) M5) ∧ (¬ r6 = (f15 ((f13 x1.toNatClampNeg) + x4).toNatClampNeg) → Qr (some (.int 0)) M5))))))) Qx)))) : zX12_isLike_21 G d Qr Qx x0 x1 x2 x3 x4  M := by
  show kz_Z G (d + 3) 0 0 mX12_isLike Qr Qx 21 [(0, .ref x0), (1, .int x1), (2, .int x2), (3, .int x3), (4, .int x4)] [] M 0 0
  refine kz_iload (pc := 21) 4 (i := 4) rfl dX12_isLike_21 ?_
  refine kz_aload_n (pc := 23) 0 (v := .ref x0) (i := 0) rfl rfl rfl dX12_isLike_23 ?_
  obtain ⟨fs1, v2, hM, hv, h⟩ := h
  refine kz_getf (pc := 24) (k := 15) kcX12 hM hv (by decide) kw_1393 dX12_isLike_24 ?_
  refine kz_iload_n (pc := 27) 1 (i := 1) rfl rfl dX12_isLike_27 ?_
  obtain ⟨n3, f4, hM, hi, h⟩ := h
  refine kz_iald (pc := 28) hM hi dX12_isLike_28 ?_
  refine kz_icmp_ge (pc := 29) (tgt := 66) (by decide) dX12_isLike_29 (fun hb => ?_) (fun hb => ?_)
  · replace h := h.1 hb
    refine kz_iconst (pc := 66) (v := 1) (by decide) dX12_isLike_66 ?_
    exact kz_zret (pc := 67) (ty := .boolean) rfl (by decide) (Nat.le_refl _) (Nat.le_refl _) dX12_isLike_67 h
  · replace h := h.2 hb
    refine kz_aload_n (pc := 32) 0 (v := .ref x0) (i := 0) rfl rfl rfl dX12_isLike_32 ?_
    refine kz_iload_n (pc := 33) 2 (i := 2) rfl rfl dX12_isLike_33 ?_
    refine kz_iload_n (pc := 34) 3 (i := 3) rfl rfl dX12_isLike_34 ?_
    refine kz_iload (pc := 35) 4 (i := 4) rfl dX12_isLike_35 ?_
    obtain ⟨⟨fs16, he⟩, h⟩ := h
    refine kz_callV (pc := 37) (μ' := mX12_wordIn) (ci := 11) (q := (RX12, TX12, 32)) (b := x0) (d' := d + 2) (mc' := 0) (ms' := 0) (As := [.int x2, .int x3, .int x4]) (st := []) (c := 0) (sl := 0) kmX12_wordIn kw_1705 (by omega) rfl (Nat.le_of_ble_eq_true rfl) he rfl rfl (Nat.le_refl _) (Nat.le_refl _) dX12_isLike_37 (fun E M9 hx => kz_Tout rfl (Nat.le_refl _) (Nat.le_refl _) hx) (kz_Cmono (fun v M5 h => ?_) (fun _ _ h => h) h)
    obtain ⟨r6, rfl, h⟩ := h
    show kz_Z G (d + 3) 0 0 mX12_isLike Qr Qx 40 [(0, .ref x0), (1, .int x1), (2, .int x2), (3, .int x3), (4, .int x4)] [.long r6] M5 0 0
    refine kz_aload_n (pc := 40) 0 (v := .ref x0) (i := 0) rfl rfl rfl dX12_isLike_40 ?_
    obtain ⟨fs8, v9, hM, hv, h⟩ := h
    refine kz_getf (pc := 41) (k := 10) kcX12 hM hv (by decide) kw_1388 dX12_isLike_41 ?_
    refine kz_aload_n (pc := 44) 0 (v := .ref x0) (i := 0) rfl rfl rfl dX12_isLike_44 ?_
    obtain ⟨fs10, v11, hM, hv, h⟩ := h
    refine kz_getf (pc := 45) (k := 14) kcX12 hM hv (by decide) kw_1392 dX12_isLike_45 ?_
    refine kz_iload_n (pc := 48) 1 (i := 1) rfl rfl dX12_isLike_48 ?_
    obtain ⟨n12, f13, hM, hi, h⟩ := h
    refine kz_iald (pc := 49) hM hi dX12_isLike_49 ?_
    refine kz_iload (pc := 50) 4 (i := 4) rfl dX12_isLike_50 ?_
    refine kz_iadd (pc := 52) dX12_isLike_52 ?_
    obtain ⟨n14, f15, hM, hi, h⟩ := h
    refine kz_lald (pc := 53) hM hi dX12_isLike_53 ?_
    refine kz_lcmp_eq (pc := 54) (tgt := 60) (by decide) dX12_isLike_54 dX12_isLike_55 (fun hb => ?_) (fun hb => ?_)
    · replace h := h.1 hb
      refine kz_iinc (pc := 60) 4 (i := 4) (v := x4 + 1) (ls' := [(0, .ref x0), (1, .int x1), (2, .int x2), (3, .int x3)]) rfl (congrArg (fun z => x4 + z) (by decide)) (by decide) rfl dX12_isLike_60 ?_
      refine kz_goto (pc := 63) (tgt := 21) (by decide) dX12_isLike_63 ?_
      refine kz_sub [1, 2, 3, 4, 0] rfl ?_
      exact h
    · replace h := h.2 hb
      refine kz_iconst (pc := 58) (v := 0) (by decide) dX12_isLike_58 ?_
      exact kz_zret (pc := 59) (ty := .boolean) rfl (by decide) (Nat.le_refl _) (Nat.le_refl _) dX12_isLike_59 h
theorem dX12_isLikeOwn_0 : decode cX12_isLikeOwn 0 = .ok (.aload_n 0, 1) := by decide +kernel
theorem dX12_isLikeOwn_1 : decode cX12_isLikeOwn 1 = .ok (.getfield 38, 3) := by decide +kernel
theorem dX12_isLikeOwn_4 : decode cX12_isLikeOwn 4 = .ok (.iload_n 2, 1) := by decide +kernel
theorem dX12_isLikeOwn_5 : decode cX12_isLikeOwn 5 = .ok (.iaload, 1) := by decide +kernel
theorem dX12_isLikeOwn_6 : decode cX12_isLikeOwn 6 = .ok (.aload_n 0, 1) := by decide +kernel
theorem dX12_isLikeOwn_7 : decode cX12_isLikeOwn 7 = .ok (.getfield 38, 3) := by decide +kernel
theorem dX12_isLikeOwn_10 : decode cX12_isLikeOwn 10 = .ok (.iload_n 1, 1) := by decide +kernel
theorem dX12_isLikeOwn_11 : decode cX12_isLikeOwn 11 = .ok (.iaload, 1) := by decide +kernel
theorem dX12_isLikeOwn_12 : decode cX12_isLikeOwn 12 = .ok (.if_icmp .eq 5, 3) := by decide +kernel
theorem dX12_isLikeOwn_15 : decode cX12_isLikeOwn 15 = .ok (.iconst 0, 1) := by decide +kernel
theorem dX12_isLikeOwn_16 : decode cX12_isLikeOwn 16 = .ok (.ireturn, 1) := by decide +kernel
theorem dX12_isLikeOwn_17 : decode cX12_isLikeOwn 17 = .ok (.iconst 0, 1) := by decide +kernel
theorem dX12_isLikeOwn_18 : decode cX12_isLikeOwn 18 = .ok (.istore_n 3, 1) := by decide +kernel
theorem dX12_isLikeOwn_19 : decode cX12_isLikeOwn 19 = .ok (.iload_n 3, 1) := by decide +kernel
theorem dX12_isLikeOwn_20 : decode cX12_isLikeOwn 20 = .ok (.aload_n 0, 1) := by decide +kernel
theorem dX12_isLikeOwn_21 : decode cX12_isLikeOwn 21 = .ok (.getfield 38, 3) := by decide +kernel
theorem dX12_isLikeOwn_24 : decode cX12_isLikeOwn 24 = .ok (.iload_n 1, 1) := by decide +kernel
theorem dX12_isLikeOwn_25 : decode cX12_isLikeOwn 25 = .ok (.iaload, 1) := by decide +kernel
theorem dX12_isLikeOwn_26 : decode cX12_isLikeOwn 26 = .ok (.if_icmp .ge 41, 3) := by decide +kernel
theorem dX12_isLikeOwn_29 : decode cX12_isLikeOwn 29 = .ok (.aload_n 0, 1) := by decide +kernel
theorem dX12_isLikeOwn_30 : decode cX12_isLikeOwn 30 = .ok (.getfield 32, 3) := by decide +kernel
theorem dX12_isLikeOwn_33 : decode cX12_isLikeOwn 33 = .ok (.aload_n 0, 1) := by decide +kernel
theorem dX12_isLikeOwn_34 : decode cX12_isLikeOwn 34 = .ok (.getfield 35, 3) := by decide +kernel
theorem dX12_isLikeOwn_37 : decode cX12_isLikeOwn 37 = .ok (.iload_n 2, 1) := by decide +kernel
theorem dX12_isLikeOwn_38 : decode cX12_isLikeOwn 38 = .ok (.iaload, 1) := by decide +kernel
theorem dX12_isLikeOwn_39 : decode cX12_isLikeOwn 39 = .ok (.iload_n 3, 1) := by decide +kernel
theorem dX12_isLikeOwn_40 : decode cX12_isLikeOwn 40 = .ok (.iadd, 1) := by decide +kernel
theorem dX12_isLikeOwn_41 : decode cX12_isLikeOwn 41 = .ok (.laload, 1) := by decide +kernel
theorem dX12_isLikeOwn_42 : decode cX12_isLikeOwn 42 = .ok (.aload_n 0, 1) := by decide +kernel
theorem dX12_isLikeOwn_43 : decode cX12_isLikeOwn 43 = .ok (.getfield 32, 3) := by decide +kernel
theorem dX12_isLikeOwn_46 : decode cX12_isLikeOwn 46 = .ok (.aload_n 0, 1) := by decide +kernel
theorem dX12_isLikeOwn_47 : decode cX12_isLikeOwn 47 = .ok (.getfield 35, 3) := by decide +kernel
theorem dX12_isLikeOwn_50 : decode cX12_isLikeOwn 50 = .ok (.iload_n 1, 1) := by decide +kernel
theorem dX12_isLikeOwn_51 : decode cX12_isLikeOwn 51 = .ok (.iaload, 1) := by decide +kernel
theorem dX12_isLikeOwn_52 : decode cX12_isLikeOwn 52 = .ok (.iload_n 3, 1) := by decide +kernel
theorem dX12_isLikeOwn_53 : decode cX12_isLikeOwn 53 = .ok (.iadd, 1) := by decide +kernel
theorem dX12_isLikeOwn_54 : decode cX12_isLikeOwn 54 = .ok (.laload, 1) := by decide +kernel
theorem dX12_isLikeOwn_55 : decode cX12_isLikeOwn 55 = .ok (.lcmp, 1) := by decide +kernel
theorem dX12_isLikeOwn_56 : decode cX12_isLikeOwn 56 = .ok (.ifCond .eq 5, 3) := by decide +kernel
theorem dX12_isLikeOwn_59 : decode cX12_isLikeOwn 59 = .ok (.iconst 0, 1) := by decide +kernel
theorem dX12_isLikeOwn_60 : decode cX12_isLikeOwn 60 = .ok (.ireturn, 1) := by decide +kernel
theorem dX12_isLikeOwn_61 : decode cX12_isLikeOwn 61 = .ok (.iinc 3 1, 3) := by decide +kernel
theorem dX12_isLikeOwn_64 : decode cX12_isLikeOwn 64 = .ok (.goto (-45), 3) := by decide +kernel
theorem dX12_isLikeOwn_67 : decode cX12_isLikeOwn 67 = .ok (.iconst 1, 1) := by decide +kernel
theorem dX12_isLikeOwn_68 : decode cX12_isLikeOwn 68 = .ok (.ireturn, 1) := by decide +kernel
def zX12_isLikeOwn_19 (G : kz_G) (d : Nat) (Qr : Option Value → kz_M → Prop) (Qx : String → kz_M → Prop) (x0 : Nat) (x1 : Int32) (x2 : Int32) (x3 : Int32)  (M : kz_M) : Prop := kz_Z G d 0 0 mX12_isLikeOwn Qr Qx 19 [(0, .ref x0), (1, .int x1), (2, .int x2), (3, .int x3)] [] M 0 0
theorem rX12_isLikeOwn_0 {G : kz_G} {d : Nat} {Qr : Option Value → kz_M → Prop} {Qx : String → kz_M → Prop} {a0 : Nat} {p1 : Int32} {p2 : Int32}  {M : kz_M} (h : ∃ fs1 v2, (M).1 a0 = some (.inl (11, fs1)) ∧ fs1[15]? = some (.ref v2) ∧ (∃ n3 f4, (M).1 v2 = some (.inr (.int, n3, .inl f4)) ∧ vp_in p2 n3 ∧ (∃ fs5 v6, (M).1 a0 = some (.inl (11, fs5)) ∧ fs5[15]? = some (.ref v6) ∧ (∃ n7 f8, (M).1 v6 = some (.inr (.int, n7, .inl f8)) ∧ vp_in p1 n7 ∧ (((f4 p2.toNatClampNeg) = (f8 p1.toNatClampNeg) → zX12_isLikeOwn_19 G d Qr Qx a0 p1 p2 0 M) ∧ (¬ (f4 p2.toNatClampNeg) = (f8 p1.toNatClampNeg) → Qr (some (.int 0)) M)))))) : kz_C G d 0 0 mX12_isLikeOwn [.ref a0, .int p1, .int p2] M Qr Qx := by
  refine kz_enter (n := 2) kmX12_isLikeOwn.1 (Nat.le_of_ble_eq_true rfl) (ls := [(0, .ref a0), (1, .int p1), (2, .int p2)]) rfl ?_
  refine kz_aload_n (pc := 0) 0 (v := .ref a0) (i := 0) rfl rfl rfl dX12_isLikeOwn_0 ?_
  obtain ⟨fs1, v2, hM, hv, h⟩ := h
  refine kz_getf (pc := 1) (k := 15) kcX12 hM hv (by decide) kw_1393 dX12_isLikeOwn_1 ?_
  refine kz_iload_n (pc := 4) 2 (i := 2) rfl rfl dX12_isLikeOwn_4 ?_
  obtain ⟨n3, f4, hM, hi, h⟩ := h
  refine kz_iald (pc := 5) hM hi dX12_isLikeOwn_5 ?_
  refine kz_aload_n (pc := 6) 0 (v := .ref a0) (i := 0) rfl rfl rfl dX12_isLikeOwn_6 ?_
  obtain ⟨fs5, v6, hM, hv, h⟩ := h
  refine kz_getf (pc := 7) (k := 15) kcX12 hM hv (by decide) kw_1393 dX12_isLikeOwn_7 ?_
  refine kz_iload_n (pc := 10) 1 (i := 1) rfl rfl dX12_isLikeOwn_10 ?_
  obtain ⟨n7, f8, hM, hi, h⟩ := h
  refine kz_iald (pc := 11) hM hi dX12_isLikeOwn_11 ?_
  refine kz_icmp_eq (pc := 12) (tgt := 17) (by decide) dX12_isLikeOwn_12 (fun hb => ?_) (fun hb => ?_)
  · replace h := h.1 hb
    refine kz_iconst (pc := 17) (v := 0) (by decide) dX12_isLikeOwn_17 ?_
    refine kz_istore_n (pc := 18) (i := 3) (ls' := [(0, .ref a0), (1, .int p1), (2, .int p2)]) rfl (by decide) rfl dX12_isLikeOwn_18 ?_
    refine kz_sub [1, 2, 3, 0] rfl ?_
    exact h
  · replace h := h.2 hb
    refine kz_iconst (pc := 15) (v := 0) (by decide) dX12_isLikeOwn_15 ?_
    exact kz_zret (pc := 16) (ty := .boolean) rfl (by decide) (Nat.le_refl _) (Nat.le_refl _) dX12_isLikeOwn_16 h
theorem rX12_isLikeOwn_19 {G : kz_G} {d : Nat} {Qr : Option Value → kz_M → Prop} {Qx : String → kz_M → Prop} {x0 : Nat} {x1 : Int32} {x2 : Int32} {x3 : Int32}  {M : kz_M} (h : ∃ fs1 v2, (M).1 x0 = some (.inl (11, fs1)) ∧ fs1[15]? = some (.ref v2) ∧ (∃ n3 f4, (M).1 v2 = some (.inr (.int, n3, .inl f4)) ∧ vp_in x1 n3 ∧ (((f4 x1.toNatClampNeg) ≤ x3 → Qr (some (.int 1)) M) ∧ (¬ (f4 x1.toNatClampNeg) ≤ x3 → ∃ fs5 v6, (M).1 x0 = some (.inl (11, fs5)) ∧ fs5[10]? = some (.ref v6) ∧ (∃ fs7 v8, (M).1 x0 = some (.inl (11, fs7)) ∧ fs7[14]? = some (.ref v8) ∧ (∃ n9 f10, (M).1 v8 = some (.inr (.int, n9, .inl f10)) ∧ vp_in x2 n9 ∧ (∃ n11 f12, (M).1 v6 = some (.inr (.long, n11, .inr (.inl f12))) ∧ vp_in ((f10 x2.toNatClampNeg) + x3) n11 ∧ (∃ fs13 v14, (M).1 x0 = some (.inl (11, fs13)) ∧ fs13[10]? = some (.ref v14) ∧ (∃ fs15 v16, (M).1 x0 = some (.inl (11, fs15)) ∧ fs15[14]? = some (.ref v16) ∧ (∃ n17 f18, (M).1 v16 = some (.inr (.int, n17, .inl f18)) ∧ vp_in x1 n17 ∧ (∃ n19 f20, (M).1 v14 = some (.inr (.long, n19, .inr (.inl f20))) ∧ vp_in ((f18 x1.toNatClampNeg) + x3) n19 ∧ (((f12 ((f10 x2.toNatClampNeg) + x3).toNatClampNeg) = (f20 ((f18 x1.toNatClampNeg) + x3).toNatClampNeg) → zX12_isLikeOwn_19 G d Qr Qx x0 x1 x2 (x3 + 1) M) ∧ (¬ (f12 ((f10 x2.toNatClampNeg) + x3).toNatClampNeg) = (f20 ((f18 x1.toNatClampNeg) + x3).toNatClampNeg) → Qr (some (.int 0)) M))))))))))))) : zX12_isLikeOwn_19 G d Qr Qx x0 x1 x2 x3  M := by
  show kz_Z G d 0 0 mX12_isLikeOwn Qr Qx 19 [(0, .ref x0), (1, .int x1), (2, .int x2), (3, .int x3)] [] M 0 0
  refine kz_iload_n (pc := 19) 3 (i := 3) rfl rfl dX12_isLikeOwn_19 ?_
  refine kz_aload_n (pc := 20) 0 (v := .ref x0) (i := 0) rfl rfl rfl dX12_isLikeOwn_20 ?_
  obtain ⟨fs1, v2, hM, hv, h⟩ := h
  refine kz_getf (pc := 21) (k := 15) kcX12 hM hv (by decide) kw_1393 dX12_isLikeOwn_21 ?_
  refine kz_iload_n (pc := 24) 1 (i := 1) rfl rfl dX12_isLikeOwn_24 ?_
  obtain ⟨n3, f4, hM, hi, h⟩ := h
  refine kz_iald (pc := 25) hM hi dX12_isLikeOwn_25 ?_
  refine kz_icmp_ge (pc := 26) (tgt := 67) (by decide) dX12_isLikeOwn_26 (fun hb => ?_) (fun hb => ?_)
  · replace h := h.1 hb
    refine kz_iconst (pc := 67) (v := 1) (by decide) dX12_isLikeOwn_67 ?_
    exact kz_zret (pc := 68) (ty := .boolean) rfl (by decide) (Nat.le_refl _) (Nat.le_refl _) dX12_isLikeOwn_68 h
  · replace h := h.2 hb
    refine kz_aload_n (pc := 29) 0 (v := .ref x0) (i := 0) rfl rfl rfl dX12_isLikeOwn_29 ?_
    obtain ⟨fs5, v6, hM, hv, h⟩ := h
    refine kz_getf (pc := 30) (k := 10) kcX12 hM hv (by decide) kw_1388 dX12_isLikeOwn_30 ?_
    refine kz_aload_n (pc := 33) 0 (v := .ref x0) (i := 0) rfl rfl rfl dX12_isLikeOwn_33 ?_
    obtain ⟨fs7, v8, hM, hv, h⟩ := h
    refine kz_getf (pc := 34) (k := 14) kcX12 hM hv (by decide) kw_1392 dX12_isLikeOwn_34 ?_
    refine kz_iload_n (pc := 37) 2 (i := 2) rfl rfl dX12_isLikeOwn_37 ?_
    obtain ⟨n9, f10, hM, hi, h⟩ := h
    refine kz_iald (pc := 38) hM hi dX12_isLikeOwn_38 ?_
    refine kz_iload_n (pc := 39) 3 (i := 3) rfl rfl dX12_isLikeOwn_39 ?_
    refine kz_iadd (pc := 40) dX12_isLikeOwn_40 ?_
    obtain ⟨n11, f12, hM, hi, h⟩ := h
    refine kz_lald (pc := 41) hM hi dX12_isLikeOwn_41 ?_
    refine kz_aload_n (pc := 42) 0 (v := .ref x0) (i := 0) rfl rfl rfl dX12_isLikeOwn_42 ?_
    obtain ⟨fs13, v14, hM, hv, h⟩ := h
    refine kz_getf (pc := 43) (k := 10) kcX12 hM hv (by decide) kw_1388 dX12_isLikeOwn_43 ?_
    refine kz_aload_n (pc := 46) 0 (v := .ref x0) (i := 0) rfl rfl rfl dX12_isLikeOwn_46 ?_
    obtain ⟨fs15, v16, hM, hv, h⟩ := h
    refine kz_getf (pc := 47) (k := 14) kcX12 hM hv (by decide) kw_1392 dX12_isLikeOwn_47 ?_
    refine kz_iload_n (pc := 50) 1 (i := 1) rfl rfl dX12_isLikeOwn_50 ?_
    obtain ⟨n17, f18, hM, hi, h⟩ := h
    refine kz_iald (pc := 51) hM hi dX12_isLikeOwn_51 ?_
    refine kz_iload_n (pc := 52) 3 (i := 3) rfl rfl dX12_isLikeOwn_52 ?_
    refine kz_iadd (pc := 53) dX12_isLikeOwn_53 ?_
    obtain ⟨n19, f20, hM, hi, h⟩ := h
    refine kz_lald (pc := 54) hM hi dX12_isLikeOwn_54 ?_
    refine kz_lcmp_eq (pc := 55) (tgt := 61) (by decide) dX12_isLikeOwn_55 dX12_isLikeOwn_56 (fun hb => ?_) (fun hb => ?_)
    · replace h := h.1 hb
      refine kz_iinc (pc := 61) 3 (i := 3) (v := x3 + 1) (ls' := [(0, .ref x0), (1, .int x1), (2, .int x2)]) rfl (congrArg (fun z => x3 + z) (by decide)) (by decide) rfl dX12_isLikeOwn_61 ?_
      refine kz_goto (pc := 64) (tgt := 19) (by decide) dX12_isLikeOwn_64 ?_
      refine kz_sub [1, 2, 3, 0] rfl ?_
      exact h
    · replace h := h.2 hb
      refine kz_iconst (pc := 59) (v := 0) (by decide) dX12_isLikeOwn_59 ?_
      exact kz_zret (pc := 60) (ty := .boolean) rfl (by decide) (Nat.le_refl _) (Nat.le_refl _) dX12_isLikeOwn_60 h
theorem dX12_isStale_0 : decode cX12_isStale 0 = .ok (.iconst 0, 1) := by decide +kernel
theorem dX12_isStale_1 : decode cX12_isStale 1 = .ok (.istore 4, 2) := by decide +kernel
theorem dX12_isStale_3 : decode cX12_isStale 3 = .ok (.iload 4, 2) := by decide +kernel
theorem dX12_isStale_5 : decode cX12_isStale 5 = .ok (.iload_n 1, 1) := by decide +kernel
theorem dX12_isStale_6 : decode cX12_isStale 6 = .ok (.if_icmp .ge 31, 3) := by decide +kernel
theorem dX12_isStale_9 : decode cX12_isStale 9 = .ok (.aload_n 0, 1) := by decide +kernel
theorem dX12_isStale_10 : decode cX12_isStale 10 = .ok (.getfield 41, 3) := by decide +kernel
theorem dX12_isStale_13 : decode cX12_isStale 13 = .ok (.iload 4, 2) := by decide +kernel
theorem dX12_isStale_15 : decode cX12_isStale 15 = .ok (.iaload, 1) := by decide +kernel
theorem dX12_isStale_16 : decode cX12_isStale 16 = .ok (.ifCond .ne 15, 3) := by decide +kernel
theorem dX12_isStale_19 : decode cX12_isStale 19 = .ok (.aload_n 0, 1) := by decide +kernel
theorem dX12_isStale_20 : decode cX12_isStale 20 = .ok (.iload_n 1, 1) := by decide +kernel
theorem dX12_isStale_21 : decode cX12_isStale 21 = .ok (.iload 4, 2) := by decide +kernel
theorem dX12_isStale_23 : decode cX12_isStale 23 = .ok (.invokevirtual 144, 3) := by decide +kernel
theorem dX12_isStale_26 : decode cX12_isStale 26 = .ok (.ifCond .eq 5, 3) := by decide +kernel
theorem dX12_isStale_29 : decode cX12_isStale 29 = .ok (.iconst 1, 1) := by decide +kernel
theorem dX12_isStale_30 : decode cX12_isStale 30 = .ok (.ireturn, 1) := by decide +kernel
theorem dX12_isStale_31 : decode cX12_isStale 31 = .ok (.iinc 4 1, 3) := by decide +kernel
theorem dX12_isStale_34 : decode cX12_isStale 34 = .ok (.goto (-31), 3) := by decide +kernel
theorem dX12_isStale_37 : decode cX12_isStale 37 = .ok (.iconst 0, 1) := by decide +kernel
theorem dX12_isStale_38 : decode cX12_isStale 38 = .ok (.istore 4, 2) := by decide +kernel
theorem dX12_isStale_40 : decode cX12_isStale 40 = .ok (.iload 4, 2) := by decide +kernel
theorem dX12_isStale_42 : decode cX12_isStale 42 = .ok (.iload_n 3, 1) := by decide +kernel
theorem dX12_isStale_43 : decode cX12_isStale 43 = .ok (.if_icmp .ge 68, 3) := by decide +kernel
theorem dX12_isStale_46 : decode cX12_isStale 46 = .ok (.aload_n 0, 1) := by decide +kernel
theorem dX12_isStale_47 : decode cX12_isStale 47 = .ok (.iload 4, 2) := by decide +kernel
theorem dX12_isStale_49 : decode cX12_isStale 49 = .ok (.iload_n 2, 1) := by decide +kernel
theorem dX12_isStale_50 : decode cX12_isStale 50 = .ok (.invokevirtual 116, 3) := by decide +kernel
theorem dX12_isStale_53 : decode cX12_isStale 53 = .ok (.ifCond .ne 6, 3) := by decide +kernel
theorem dX12_isStale_56 : decode cX12_isStale 56 = .ok (.goto 49, 3) := by decide +kernel
theorem dX12_isStale_59 : decode cX12_isStale 59 = .ok (.iconst 0, 1) := by decide +kernel
theorem dX12_isStale_60 : decode cX12_isStale 60 = .ok (.istore 5, 2) := by decide +kernel
theorem dX12_isStale_62 : decode cX12_isStale 62 = .ok (.iload 5, 2) := by decide +kernel
theorem dX12_isStale_64 : decode cX12_isStale 64 = .ok (.aload_n 0, 1) := by decide +kernel
theorem dX12_isStale_65 : decode cX12_isStale 65 = .ok (.iload 4, 2) := by decide +kernel
theorem dX12_isStale_67 : decode cX12_isStale 67 = .ok (.iconst 4, 1) := by decide +kernel
theorem dX12_isStale_68 : decode cX12_isStale 68 = .ok (.invokevirtual 101, 3) := by decide +kernel
theorem dX12_isStale_71 : decode cX12_isStale 71 = .ok (.if_icmp .ge 34, 3) := by decide +kernel
theorem dX12_isStale_74 : decode cX12_isStale 74 = .ok (.aload_n 0, 1) := by decide +kernel
theorem dX12_isStale_75 : decode cX12_isStale 75 = .ok (.iload 4, 2) := by decide +kernel
theorem dX12_isStale_77 : decode cX12_isStale 77 = .ok (.iload 5, 2) := by decide +kernel
theorem dX12_isStale_79 : decode cX12_isStale 79 = .ok (.invokevirtual 120, 3) := by decide +kernel
theorem dX12_isStale_82 : decode cX12_isStale 82 = .ok (.ifCond .eq 17, 3) := by decide +kernel
theorem dX12_isStale_85 : decode cX12_isStale 85 = .ok (.aload_n 0, 1) := by decide +kernel
theorem dX12_isStale_86 : decode cX12_isStale 86 = .ok (.iload_n 1, 1) := by decide +kernel
theorem dX12_isStale_87 : decode cX12_isStale 87 = .ok (.iload 4, 2) := by decide +kernel
theorem dX12_isStale_89 : decode cX12_isStale 89 = .ok (.iload 5, 2) := by decide +kernel
theorem dX12_isStale_91 : decode cX12_isStale 91 = .ok (.invokevirtual 147, 3) := by decide +kernel
theorem dX12_isStale_94 : decode cX12_isStale 94 = .ok (.ifCond .eq 5, 3) := by decide +kernel
theorem dX12_isStale_97 : decode cX12_isStale 97 = .ok (.iconst 1, 1) := by decide +kernel
theorem dX12_isStale_98 : decode cX12_isStale 98 = .ok (.ireturn, 1) := by decide +kernel
theorem dX12_isStale_99 : decode cX12_isStale 99 = .ok (.iinc 5 1, 3) := by decide +kernel
theorem dX12_isStale_102 : decode cX12_isStale 102 = .ok (.goto (-40), 3) := by decide +kernel
theorem dX12_isStale_105 : decode cX12_isStale 105 = .ok (.iinc 4 1, 3) := by decide +kernel
theorem dX12_isStale_108 : decode cX12_isStale 108 = .ok (.goto (-68), 3) := by decide +kernel
theorem dX12_isStale_111 : decode cX12_isStale 111 = .ok (.iconst 0, 1) := by decide +kernel
theorem dX12_isStale_112 : decode cX12_isStale 112 = .ok (.ireturn, 1) := by decide +kernel
def zX12_isStale_3 (G : kz_G) (d : Nat) (Qr : Option Value → kz_M → Prop) (Qx : String → kz_M → Prop) (x0 : Nat) (x1 : Int32) (x2 : Int32) (x3 : Int32) (x4 : Int32)  (M : kz_M) : Prop := kz_Z G (d + 4) 0 0 mX12_isStale Qr Qx 3 [(0, .ref x0), (1, .int x1), (2, .int x2), (3, .int x3), (4, .int x4)] [] M 0 0
def zX12_isStale_40 (G : kz_G) (d : Nat) (Qr : Option Value → kz_M → Prop) (Qx : String → kz_M → Prop) (x0 : Nat) (x1 : Int32) (x2 : Int32) (x3 : Int32) (x4 : Int32)  (M : kz_M) : Prop := kz_Z G (d + 4) 0 0 mX12_isStale Qr Qx 40 [(0, .ref x0), (1, .int x1), (2, .int x2), (3, .int x3), (4, .int x4)] [] M 0 0
def zX12_isStale_62 (G : kz_G) (d : Nat) (Qr : Option Value → kz_M → Prop) (Qx : String → kz_M → Prop) (x0 : Nat) (x1 : Int32) (x2 : Int32) (x3 : Int32) (x4 : Int32) (x5 : Int32)  (M : kz_M) : Prop := kz_Z G (d + 4) 0 0 mX12_isStale Qr Qx 62 [(0, .ref x0), (1, .int x1), (2, .int x2), (3, .int x3), (4, .int x4), (5, .int x5)] [] M 0 0
theorem rX12_isStale_0 {G : kz_G} {d : Nat} {Qr : Option Value → kz_M → Prop} {Qx : String → kz_M → Prop} {a0 : Nat} {p1 : Int32} {p2 : Int32} {p3 : Int32}  {M : kz_M} (h : zX12_isStale_3 G d Qr Qx a0 p1 p2 p3 0 M) : kz_C G (d + 4) 0 0 mX12_isStale [.ref a0, .int p1, .int p2, .int p3] M Qr Qx := by
  refine kz_enter (n := 3) kmX12_isStale.1 (Nat.le_of_ble_eq_true rfl) (ls := [(0, .ref a0), (1, .int p1), (2, .int p2), (3, .int p3)]) rfl ?_
  refine kz_iconst (pc := 0) (v := 0) (by decide) dX12_isStale_0 ?_
  refine kz_istore (pc := 1) (i := 4) (ls' := [(0, .ref a0), (1, .int p1), (2, .int p2), (3, .int p3)]) (by decide) rfl dX12_isStale_1 ?_
  refine kz_sub [1, 2, 3, 4, 0] rfl ?_
  exact h
theorem rX12_isStale_3 {G : kz_G} {d : Nat} {Qr : Option Value → kz_M → Prop} {Qx : String → kz_M → Prop} {x0 : Nat} {x1 : Int32} {x2 : Int32} {x3 : Int32} {x4 : Int32}  {M : kz_M} (h : (x1 ≤ x4 → zX12_isStale_40 G d Qr Qx x0 x1 x2 x3 0 M) ∧ (¬ x1 ≤ x4 → ∃ fs1 v2, (M).1 x0 = some (.inl (11, fs1)) ∧ fs1[16]? = some (.ref v2) ∧ (∃ n3 f4, (M).1 v2 = some (.inr (.int, n3, .inl f4)) ∧ vp_in x4 n3 ∧ ((¬ (f4 x4.toNatClampNeg) = 0 → zX12_isStale_3 G d Qr Qx x0 x1 x2 x3 (x4 + 1) M) ∧ ((f4 x4.toNatClampNeg) = 0 → (∃ fs8, (M).1 x0 = some (.inl (11, fs8))) ∧ kz_C G (d + 3) 0 0 mX12_isLikeOwn [.ref x0, .int x1, .int x4] M (fun v M5 => ∃ r6 : Int32, v = some (.int r6) ∧ ((r6 = 0 → zX12_isStale_3 G d Qr Qx x0 x1 x2 x3 (x4 + 1) M5) ∧ (¬ r6 = 0 → Qr (some (.int 1)) M5))) Qx))))) : zX12_isStale_3 G d Qr Qx x0 x1 x2 x3 x4  M := by
  show kz_Z G (d + 4) 0 0 mX12_isStale Qr Qx 3 [(0, .ref x0), (1, .int x1), (2, .int x2), (3, .int x3), (4, .int x4)] [] M 0 0
  refine kz_iload (pc := 3) 4 (i := 4) rfl dX12_isStale_3 ?_
  refine kz_iload_n (pc := 5) 1 (i := 1) rfl rfl dX12_isStale_5 ?_
  refine kz_icmp_ge (pc := 6) (tgt := 37) (by decide) dX12_isStale_6 (fun hb => ?_) (fun hb => ?_)
  · replace h := h.1 hb
    refine kz_iconst (pc := 37) (v := 0) (by decide) dX12_isStale_37 ?_
    refine kz_istore (pc := 38) (i := 4) (ls' := [(0, .ref x0), (1, .int x1), (2, .int x2), (3, .int x3)]) (by decide) rfl dX12_isStale_38 ?_
    refine kz_sub [1, 2, 3, 4, 0] rfl ?_
    exact h
  · replace h := h.2 hb
    refine kz_aload_n (pc := 9) 0 (v := .ref x0) (i := 0) rfl rfl rfl dX12_isStale_9 ?_
    obtain ⟨fs1, v2, hM, hv, h⟩ := h
    refine kz_getf (pc := 10) (k := 16) kcX12 hM hv (by decide) kw_1394 dX12_isStale_10 ?_
    refine kz_iload (pc := 13) 4 (i := 4) rfl dX12_isStale_13 ?_
    obtain ⟨n3, f4, hM, hi, h⟩ := h
    refine kz_iald (pc := 15) hM hi dX12_isStale_15 ?_
    refine kz_if_ne (pc := 16) (tgt := 31) (by decide) dX12_isStale_16 (fun hb => ?_) (fun hb => ?_)
    · replace h := h.1 hb
      refine kz_iinc (pc := 31) 4 (i := 4) (v := x4 + 1) (ls' := [(0, .ref x0), (1, .int x1), (2, .int x2), (3, .int x3)]) rfl (congrArg (fun z => x4 + z) (by decide)) (by decide) rfl dX12_isStale_31 ?_
      refine kz_goto (pc := 34) (tgt := 3) (by decide) dX12_isStale_34 ?_
      refine kz_sub [1, 2, 3, 4, 0] rfl ?_
      exact h
    · replace h := h.2 hb
      refine kz_aload_n (pc := 19) 0 (v := .ref x0) (i := 0) rfl rfl rfl dX12_isStale_19 ?_
      refine kz_iload_n (pc := 20) 1 (i := 1) rfl rfl dX12_isStale_20 ?_
      refine kz_iload (pc := 21) 4 (i := 4) rfl dX12_isStale_21 ?_
      obtain ⟨⟨fs8, he⟩, h⟩ := h
      refine kz_callV (pc := 23) (μ' := mX12_isLikeOwn) (ci := 11) (q := (RX12, TX12, 32)) (b := x0) (d' := d + 3) (mc' := 0) (ms' := 0) (As := [.int x1, .int x4]) (st := []) (c := 0) (sl := 0) kmX12_isLikeOwn kw_1868 (by omega) rfl (Nat.le_of_ble_eq_true rfl) he rfl rfl (Nat.le_refl _) (Nat.le_refl _) dX12_isStale_23 (fun E M9 hx => kz_Tout rfl (Nat.le_refl _) (Nat.le_refl _) hx) (kz_Cmono (fun v M5 h => ?_) (fun _ _ h => h) h)
      obtain ⟨r6, rfl, h⟩ := h
      show kz_Z G (d + 4) 0 0 mX12_isStale Qr Qx 26 [(0, .ref x0), (1, .int x1), (2, .int x2), (3, .int x3), (4, .int x4)] [.int r6] M5 0 0
      refine kz_if_eq (pc := 26) (tgt := 31) (by decide) dX12_isStale_26 (fun hb => ?_) (fun hb => ?_)
      · replace h := h.1 hb
        refine kz_iinc (pc := 31) 4 (i := 4) (v := x4 + 1) (ls' := [(0, .ref x0), (1, .int x1), (2, .int x2), (3, .int x3)]) rfl (congrArg (fun z => x4 + z) (by decide)) (by decide) rfl dX12_isStale_31 ?_
        refine kz_goto (pc := 34) (tgt := 3) (by decide) dX12_isStale_34 ?_
        refine kz_sub [1, 2, 3, 4, 0] rfl ?_
        exact h
      · replace h := h.2 hb
        refine kz_iconst (pc := 29) (v := 1) (by decide) dX12_isStale_29 ?_
        exact kz_zret (pc := 30) (ty := .boolean) rfl (by decide) (Nat.le_refl _) (Nat.le_refl _) dX12_isStale_30 h
theorem rX12_isStale_40 {G : kz_G} {d : Nat} {Qr : Option Value → kz_M → Prop} {Qx : String → kz_M → Prop} {x0 : Nat} {x1 : Int32} {x2 : Int32} {x3 : Int32} {x4 : Int32}  {M : kz_M} (h : (x3 ≤ x4 → Qr (some (.int 0)) M) ∧ (¬ x3 ≤ x4 → (∃ fs4, (M).1 x0 = some (.inl (11, fs4))) ∧ kz_C G (d + 3) 0 0 mX12_isBy [.ref x0, .int x4, .int x2] M (fun v M1 => ∃ r2 : Int32, v = some (.int r2) ∧ ((¬ r2 = 0 → zX12_isStale_62 G d Qr Qx x0 x1 x2 x3 x4 0 M1) ∧ (r2 = 0 → zX12_isStale_40 G d Qr Qx x0 x1 x2 x3 (x4 + 1) M1))) Qx)) : zX12_isStale_40 G d Qr Qx x0 x1 x2 x3 x4  M := by
  show kz_Z G (d + 4) 0 0 mX12_isStale Qr Qx 40 [(0, .ref x0), (1, .int x1), (2, .int x2), (3, .int x3), (4, .int x4)] [] M 0 0
  refine kz_iload (pc := 40) 4 (i := 4) rfl dX12_isStale_40 ?_
  refine kz_iload_n (pc := 42) 3 (i := 3) rfl rfl dX12_isStale_42 ?_
  refine kz_icmp_ge (pc := 43) (tgt := 111) (by decide) dX12_isStale_43 (fun hb => ?_) (fun hb => ?_)
  · replace h := h.1 hb
    refine kz_iconst (pc := 111) (v := 0) (by decide) dX12_isStale_111 ?_
    exact kz_zret (pc := 112) (ty := .boolean) rfl (by decide) (Nat.le_refl _) (Nat.le_refl _) dX12_isStale_112 h
  · replace h := h.2 hb
    refine kz_aload_n (pc := 46) 0 (v := .ref x0) (i := 0) rfl rfl rfl dX12_isStale_46 ?_
    refine kz_iload (pc := 47) 4 (i := 4) rfl dX12_isStale_47 ?_
    refine kz_iload_n (pc := 49) 2 (i := 2) rfl rfl dX12_isStale_49 ?_
    obtain ⟨⟨fs4, he⟩, h⟩ := h
    refine kz_callV (pc := 50) (μ' := mX12_isBy) (ci := 11) (q := (RX12, TX12, 32)) (b := x0) (d' := d + 3) (mc' := 0) (ms' := 0) (As := [.int x4, .int x2]) (st := []) (c := 0) (sl := 0) kmX12_isBy kw_1616 (by omega) rfl (Nat.le_of_ble_eq_true rfl) he rfl rfl (Nat.le_refl _) (Nat.le_refl _) dX12_isStale_50 (fun E M9 hx => kz_Tout rfl (Nat.le_refl _) (Nat.le_refl _) hx) (kz_Cmono (fun v M1 h => ?_) (fun _ _ h => h) h)
    obtain ⟨r2, rfl, h⟩ := h
    show kz_Z G (d + 4) 0 0 mX12_isStale Qr Qx 53 [(0, .ref x0), (1, .int x1), (2, .int x2), (3, .int x3), (4, .int x4)] [.int r2] M1 0 0
    refine kz_if_ne (pc := 53) (tgt := 59) (by decide) dX12_isStale_53 (fun hb => ?_) (fun hb => ?_)
    · replace h := h.1 hb
      refine kz_iconst (pc := 59) (v := 0) (by decide) dX12_isStale_59 ?_
      refine kz_istore (pc := 60) (i := 5) (ls' := [(0, .ref x0), (1, .int x1), (2, .int x2), (3, .int x3), (4, .int x4)]) (by decide) rfl dX12_isStale_60 ?_
      refine kz_sub [1, 2, 3, 4, 5, 0] rfl ?_
      exact h
    · replace h := h.2 hb
      refine kz_goto (pc := 56) (tgt := 105) (by decide) dX12_isStale_56 ?_
      refine kz_iinc (pc := 105) 4 (i := 4) (v := x4 + 1) (ls' := [(0, .ref x0), (1, .int x1), (2, .int x2), (3, .int x3)]) rfl (congrArg (fun z => x4 + z) (by decide)) (by decide) rfl dX12_isStale_105 ?_
      refine kz_goto (pc := 108) (tgt := 40) (by decide) dX12_isStale_108 ?_
      refine kz_sub [1, 2, 3, 4, 0] rfl ?_
      exact h
theorem rX12_isStale_62 {G : kz_G} {d : Nat} {Qr : Option Value → kz_M → Prop} {Qx : String → kz_M → Prop} {x0 : Nat} {x1 : Int32} {x2 : Int32} {x3 : Int32} {x4 : Int32} {x5 : Int32}  {M : kz_M} (h : (∃ fs12, (M).1 x0 = some (.inl (11, fs12))) ∧ kz_C G (d + 3) 0 0 mX12_of [.ref x0, .int x4, .int 4] M (fun v M1 => ∃ r2 : Int32, v = some (.int r2) ∧ ((r2 ≤ x5 → zX12_isStale_40 G d Qr Qx x0 x1 x2 x3 (x4 + 1) M1) ∧ (¬ r2 ≤ x5 → (∃ fs11, (M1).1 x0 = some (.inl (11, fs11))) ∧ kz_C G (d + 3) 0 0 mX12_countsNow [.ref x0, .int x4, .int x5] M1 (fun v M4 => ∃ r5 : Int32, v = some (.int r5) ∧ ((r5 = 0 → zX12_isStale_62 G d Qr Qx x0 x1 x2 x3 x4 (x5 + 1) M4) ∧ (¬ r5 = 0 → (∃ fs10, (M4).1 x0 = some (.inl (11, fs10))) ∧ kz_C G (d + 3) 0 0 mX12_isLike [.ref x0, .int x1, .int x4, .int x5] M4 (fun v M7 => ∃ r8 : Int32, v = some (.int r8) ∧ ((r8 = 0 → zX12_isStale_62 G d Qr Qx x0 x1 x2 x3 x4 (x5 + 1) M7) ∧ (¬ r8 = 0 → Qr (some (.int 1)) M7))) Qx))) Qx))) Qx) : zX12_isStale_62 G d Qr Qx x0 x1 x2 x3 x4 x5  M := by
  show kz_Z G (d + 4) 0 0 mX12_isStale Qr Qx 62 [(0, .ref x0), (1, .int x1), (2, .int x2), (3, .int x3), (4, .int x4), (5, .int x5)] [] M 0 0
  refine kz_iload (pc := 62) 5 (i := 5) rfl dX12_isStale_62 ?_
  refine kz_aload_n (pc := 64) 0 (v := .ref x0) (i := 0) rfl rfl rfl dX12_isStale_64 ?_
  refine kz_iload (pc := 65) 4 (i := 4) rfl dX12_isStale_65 ?_
  refine kz_iconst (pc := 67) (v := 4) (by decide) dX12_isStale_67 ?_
  obtain ⟨⟨fs12, he⟩, h⟩ := h
  refine kz_callV (pc := 68) (μ' := mX12_of) (ci := 11) (q := (RX12, TX12, 32)) (b := x0) (d' := d + 3) (mc' := 0) (ms' := 0) (As := [.int x4, .int 4]) (st := [.int x5]) (c := 0) (sl := 0) kmX12_of kw_1620 (by omega) rfl (Nat.le_of_ble_eq_true rfl) he rfl rfl (Nat.le_refl _) (Nat.le_refl _) dX12_isStale_68 (fun E M9 hx => kz_Tout rfl (Nat.le_refl _) (Nat.le_refl _) hx) (kz_Cmono (fun v M1 h => ?_) (fun _ _ h => h) h)
  obtain ⟨r2, rfl, h⟩ := h
  show kz_Z G (d + 4) 0 0 mX12_isStale Qr Qx 71 [(0, .ref x0), (1, .int x1), (2, .int x2), (3, .int x3), (4, .int x4), (5, .int x5)] [.int r2, .int x5] M1 0 0
  refine kz_icmp_ge (pc := 71) (tgt := 105) (by decide) dX12_isStale_71 (fun hb => ?_) (fun hb => ?_)
  · replace h := h.1 hb
    refine kz_iinc (pc := 105) 4 (i := 4) (v := x4 + 1) (ls' := [(0, .ref x0), (1, .int x1), (2, .int x2), (3, .int x3), (5, .int x5)]) rfl (congrArg (fun z => x4 + z) (by decide)) (by decide) rfl dX12_isStale_105 ?_
    refine kz_goto (pc := 108) (tgt := 40) (by decide) dX12_isStale_108 ?_
    refine kz_sub [1, 2, 3, 4, 0] rfl ?_
    exact h
  · replace h := h.2 hb
    refine kz_aload_n (pc := 74) 0 (v := .ref x0) (i := 0) rfl rfl rfl dX12_isStale_74 ?_
    refine kz_iload (pc := 75) 4 (i := 4) rfl dX12_isStale_75 ?_
    refine kz_iload (pc := 77) 5 (i := 5) rfl dX12_isStale_77 ?_
    obtain ⟨⟨fs11, he⟩, h⟩ := h
    refine kz_callV (pc := 79) (μ' := mX12_countsNow) (ci := 11) (q := (RX12, TX12, 32)) (b := x0) (d' := d + 3) (mc' := 0) (ms' := 0) (As := [.int x4, .int x5]) (st := []) (c := 0) (sl := 0) kmX12_countsNow kw_1632 (by omega) rfl (Nat.le_of_ble_eq_true rfl) he rfl rfl (Nat.le_refl _) (Nat.le_refl _) dX12_isStale_79 (fun E M9 hx => kz_Tout rfl (Nat.le_refl _) (Nat.le_refl _) hx) (kz_Cmono (fun v M4 h => ?_) (fun _ _ h => h) h)
    obtain ⟨r5, rfl, h⟩ := h
    show kz_Z G (d + 4) 0 0 mX12_isStale Qr Qx 82 [(0, .ref x0), (1, .int x1), (2, .int x2), (3, .int x3), (4, .int x4), (5, .int x5)] [.int r5] M4 0 0
    refine kz_if_eq (pc := 82) (tgt := 99) (by decide) dX12_isStale_82 (fun hb => ?_) (fun hb => ?_)
    · replace h := h.1 hb
      refine kz_iinc (pc := 99) 5 (i := 5) (v := x5 + 1) (ls' := [(0, .ref x0), (1, .int x1), (2, .int x2), (3, .int x3), (4, .int x4)]) rfl (congrArg (fun z => x5 + z) (by decide)) (by decide) rfl dX12_isStale_99 ?_
      refine kz_goto (pc := 102) (tgt := 62) (by decide) dX12_isStale_102 ?_
      refine kz_sub [1, 2, 3, 4, 5, 0] rfl ?_
      exact h
    · replace h := h.2 hb
      refine kz_aload_n (pc := 85) 0 (v := .ref x0) (i := 0) rfl rfl rfl dX12_isStale_85 ?_
      refine kz_iload_n (pc := 86) 1 (i := 1) rfl rfl dX12_isStale_86 ?_
      refine kz_iload (pc := 87) 4 (i := 4) rfl dX12_isStale_87 ?_
      refine kz_iload (pc := 89) 5 (i := 5) rfl dX12_isStale_89 ?_
      obtain ⟨⟨fs10, he⟩, h⟩ := h
      refine kz_callV (pc := 91) (μ' := mX12_isLike) (ci := 11) (q := (RX12, TX12, 32)) (b := x0) (d' := d + 3) (mc' := 0) (ms' := 0) (As := [.int x1, .int x4, .int x5]) (st := []) (c := 0) (sl := 0) kmX12_isLike kw_1872 (by omega) rfl (Nat.le_of_ble_eq_true rfl) he rfl rfl (Nat.le_refl _) (Nat.le_refl _) dX12_isStale_91 (fun E M9 hx => kz_Tout rfl (Nat.le_refl _) (Nat.le_refl _) hx) (kz_Cmono (fun v M7 h => ?_) (fun _ _ h => h) h)
      obtain ⟨r8, rfl, h⟩ := h
      show kz_Z G (d + 4) 0 0 mX12_isStale Qr Qx 94 [(0, .ref x0), (1, .int x1), (2, .int x2), (3, .int x3), (4, .int x4), (5, .int x5)] [.int r8] M7 0 0
      refine kz_if_eq (pc := 94) (tgt := 99) (by decide) dX12_isStale_94 (fun hb => ?_) (fun hb => ?_)
      · replace h := h.1 hb
        refine kz_iinc (pc := 99) 5 (i := 5) (v := x5 + 1) (ls' := [(0, .ref x0), (1, .int x1), (2, .int x2), (3, .int x3), (4, .int x4)]) rfl (congrArg (fun z => x5 + z) (by decide)) (by decide) rfl dX12_isStale_99 ?_
        refine kz_goto (pc := 102) (tgt := 62) (by decide) dX12_isStale_102 ?_
        refine kz_sub [1, 2, 3, 4, 5, 0] rfl ?_
        exact h
      · replace h := h.2 hb
        refine kz_iconst (pc := 97) (v := 1) (by decide) dX12_isStale_97 ?_
        exact kz_zret (pc := 98) (ty := .boolean) rfl (by decide) (Nat.le_refl _) (Nat.le_refl _) dX12_isStale_98 h
