/-! Part 86: the law's constructor as a whole -/
def jtg : Nat → Int32 := fun k => if k = 100000 then 1 else 0
theorem jRow_tg {M : kz_M} {a : Nat} (h : M.1 a = some (.inr (.int, 3, .inl jtg))) : jRow M a 3 (fun _ => 0) := ⟨_, h, if_pos rfl, fun i hi => if_neg (by omega)⟩
theorem jRow.to {M M1 : kz_M} {a : Nat} {g : Nat → Int32} (h : jRow M a 3 g) (e : M1.1 a = M.1 a) : jRow M1 a 3 g := by
  obtain ⟨f, h1, h2⟩ := h
  exact ⟨f, e.trans h1, h2⟩
section JI2
variable {G : kz_G} {d mc ms : Nat} {Qr : Option Value → kz_M → Prop} {Qx : String → kz_M → Prop} {M0 : kz_M}
theorem c_initL {p N : Nat} {xs : Nat → Int32} (hG : kz_stat G) (hG2 : kz_stat2 G) (hP : kz_statP G) (hX : va_X (G.2.2.2 p) N xs G.2.2.1 G.2.2.1.heap) (hbs : G.2.2.2 p < G.2.2.1.heap.size) (hN : N < 2 ^ 31) (h0 : M0.1 0 = some (.inl (13, [.null, .null, .null, .null, .int 0, .int 0, .int 0, .int 0, .int 0, .int 0, .int 0, .int 0, .int 0, .null, .null]))) (h2 : M0.2 = 1) (hmc : 40 ≤ mc) (hms : 20000 ≤ ms) (Q : ∀ M1 x, jY M1 (jv0 (jbt x 0 8) (6 + jbt x 8 4) (2 + jbt x 12 2) (1 + jbt x 14 2) (jbt x 16 3) (jbt x 19 2) (1 + jbt x 21 2) (jbt x 23 2)) (jst (jbt x 0 8) (6 + jbt x 8 4) (2 + jbt x 12 2) (1 + jbt x 14 2) (jbt x 16 3) (jbt x 19 2) (1 + jbt x 21 2) (jbt x 23 2)) 400 → Qr none M1) : kz_C G (d + 6) mc ms mL_init [.ref 0, .retAddr p] M0 Qr Qx := by
  refine rL_init_0 ⟨by omega, by omega, c_listInit hG2 (kz_nw_same _ _) fun M1 g1 g2 g3 => ⟨rfl, _, (g1 0 (by omega)).trans ((kz_nw_ne (by omega)).trans h0), ow_l rfl, ?_⟩⟩
  rw [h2] at g1 g3 ⊢
  have g22 : M1.2 = 2 := g2.trans (by rw [kz_nw_2, h2])
  have l1 : M1.1 1 = some (.inl (16, [.int 0, .retAddr 3002, .int 0])) := by
    rcases g3 with ⟨-, -, -, h⟩ | ⟨h, -⟩
    · exact h
    · exact absurd h (Nat.lt_irrefl 0)
  have a0 : (kz_up M1 0 (.inl (13, List.set [.null, .null, .null, .null, .int 0, .int 0, .int 0, .int 0, .int 0, .int 0, .int 0, .int 0, .int 0, .null, .null] 0 (.ref 1)))).1 0 = some (.inl (13, [.ref 1, .null, .null, .null, .int 0, .int 0, .int 0, .int 0, .int 0, .int 0, .int 0, .int 0, .int 0, .null, .null])) := kz_up_same _ _ _
  have a1 : (kz_up M1 0 (.inl (13, List.set [.null, .null, .null, .null, .int 0, .int 0, .int 0, .int 0, .int 0, .int 0, .int 0, .int 0, .int 0, .null, .null] 0 (.ref 1)))).1 1 = _ := (kz_up_ne (by decide)).trans l1
  have a2 : (kz_up M1 0 (.inl (13, List.set [.null, .null, .null, .null, .int 0, .int 0, .int 0, .int 0, .int 0, .int 0, .int 0, .int 0, .int 0, .null, .null] 0 (.ref 1)))).2 = 2 := g22
  generalize kz_up M1 0 (.inl (13, List.set [.null, .null, .null, .null, .int 0, .int 0, .int 0, .int 0, .int 0, .int 0, .int 0, .int 0, .int 0, .null, .null] 0 (.ref 1))) = MA at a0 a1 a2 ⊢
  -- the balances
  refine rL_init_15 (by omega) (by omega) ⟨3, by decide, by decide, by decide, by omega, by omega, _, (kz_nw_ne (by omega)).trans a0, ow_l rfl, ?_⟩
  rw [a2]
  have b2 : (kz_up (kz_nw MA (.inr (.int, 3, .inl (fun _ => 0)))) 0 (.inl (13, List.set [.ref 1, .null, .null, .null, .int 0, .int 0, .int 0, .int 0, .int 0, .int 0, .int 0, .int 0, .int 0, .null, .null] 1 (.ref 2)))).1 2 = some (.inr (.int, 3, .inl (fun _ => 0))) := (kz_up_ne (by decide)).trans (by rw [← a2]; exact kz_nw_same _ _)
  refine kz_tag (a := 2) (n := 3) (f' := jtg) (fun i hi => if_neg (by omega)) b2 ?_
  show zL_init_22 G d mc ms Qr Qx 0 p _ (0 + 1 + 1) (0 + 3 + 3)
  have c0 : (kz_up (kz_up (kz_nw MA (.inr (.int, 3, .inl (fun _ => 0)))) 0 (.inl (13, List.set [.ref 1, .null, .null, .null, .int 0, .int 0, .int 0, .int 0, .int 0, .int 0, .int 0, .int 0, .int 0, .null, .null] 1 (.ref 2)))) 2 (.inr (.int, 3, .inl jtg))).1 0 = some (.inl (13, [.ref 1, .ref 2, .null, .null, .int 0, .int 0, .int 0, .int 0, .int 0, .int 0, .int 0, .int 0, .int 0, .null, .null])) := (kz_up_ne (by decide)).trans (kz_up_same _ _ _)
  have c1 : (kz_up (kz_up (kz_nw MA (.inr (.int, 3, .inl (fun _ => 0)))) 0 (.inl (13, List.set [.ref 1, .null, .null, .null, .int 0, .int 0, .int 0, .int 0, .int 0, .int 0, .int 0, .int 0, .int 0, .null, .null] 1 (.ref 2)))) 2 (.inr (.int, 3, .inl jtg))).1 1 = _ := (kz_up_ne (by decide)).trans ((kz_up_ne (by decide)).trans ((kz_nw_ne (by omega)).trans a1))
  have c2 := jRow_tg (kz_up_same (kz_up (kz_nw MA (.inr (.int, 3, .inl (fun _ => 0)))) 0 (.inl (13, List.set [.ref 1, .null, .null, .null, .int 0, .int 0, .int 0, .int 0, .int 0, .int 0, .int 0, .int 0, .int 0, .null, .null] 1 (.ref 2)))) 2 (.inr (.int, 3, .inl jtg)))
  have c9 : (kz_up (kz_up (kz_nw MA (.inr (.int, 3, .inl (fun _ => 0)))) 0 (.inl (13, List.set [.ref 1, .null, .null, .null, .int 0, .int 0, .int 0, .int 0, .int 0, .int 0, .int 0, .int 0, .int 0, .null, .null] 1 (.ref 2)))) 2 (.inr (.int, 3, .inl jtg))).2 = 3 := by rw [kz_up_2, kz_up_2, kz_nw_2, a2]
  generalize kz_up (kz_up (kz_nw MA (.inr (.int, 3, .inl (fun _ => 0)))) 0 (.inl (13, List.set [.ref 1, .null, .null, .null, .int 0, .int 0, .int 0, .int 0, .int 0, .int 0, .int 0, .int 0, .int 0, .null, .null] 1 (.ref 2)))) 2 (.inr (.int, 3, .inl jtg)) = MB at c0 c1 c2 c9 ⊢
  -- what is paid, what is lost
  refine rL_init_22 (by omega) (by omega) ⟨3, by decide, by decide, by decide, by omega, by omega, _, (kz_nw_ne (by omega)).trans c0, ow_l rfl, 3, by decide, by decide, by decide, by omega, by omega, _, (kz_nw_ne (by rw [kz_up_2, kz_nw_2]; omega)).trans (kz_up_same _ _ _), ow_l rfl, fun M7 e7 => ?_⟩
  rw [kz_up_2, kz_nw_2, c9] at e7
  have d0 : M7.1 0 = some (.inl (13, [.ref 1, .ref 2, .ref 3, .ref 4, .int 0, .int 0, .int 0, .int 0, .int 0, .int 0, .int 0, .int 0, .int 0, .null, .null])) := by rw [e7, kz_up_same]; rfl
  have dk : ∀ k, k ≠ 0 → k ≠ 3 → k ≠ 4 → M7.1 k = MB.1 k := fun k k0 k3 k4 => by rw [e7, kz_up_ne k0, kz_nw_ne (by rw [kz_up_2, kz_nw_2]; omega), kz_up_ne k0, kz_nw_ne (by omega)]
  have d3 : M7.1 3 = some (.inr (.int, 3, .inl (fun _ => 0))) := by
    rw [e7, kz_up_ne (by decide), kz_nw_ne (by rw [kz_up_2, kz_nw_2]; omega), kz_up_ne (by decide), ← c9]
    exact kz_nw_same _ _
  have d4 : M7.1 4 = some (.inr (.int, 3, .inl (fun _ => 0))) := by
    rw [e7, kz_up_ne (by decide)]
    exact (congrArg _ (show 4 = MB.2 + 1 by omega)).trans (kz_nw_same _ _)
  have d9 : M7.2 = 5 := by rw [e7, kz_up_2, kz_nw_2, kz_up_2, kz_nw_2, c9]
  refine kz_tag (a := 3) (n := 3) (f' := jtg) (fun i hi => if_neg (by omega)) d3 ?_
  refine kz_tag (a := 4) (n := 3) (f' := jtg) (fun i hi => if_neg (by omega)) ((kz_up_ne (by decide)).trans d4) ?_
  show zL_init_36 G d mc ms Qr Qx 0 p _ (0 + 1 + 1 + 1 + 1) (0 + 3 + 3 + 3 + 3)
  have f0 := (kz_up_ne (M := kz_up M7 3 (.inr (.int, 3, .inl jtg))) (a := 4) (b := 0) (e := .inr (.int, 3, .inl jtg)) (by decide)).trans ((kz_up_ne (by decide)).trans d0)
  have f1 := (kz_up_ne (M := kz_up M7 3 (.inr (.int, 3, .inl jtg))) (a := 4) (b := 1) (e := .inr (.int, 3, .inl jtg)) (by decide)).trans ((kz_up_ne (by decide)).trans ((dk 1 (by decide) (by decide) (by decide)).trans c1))
  have f2 : jRow (kz_up (kz_up M7 3 (.inr (.int, 3, .inl jtg))) 4 (.inr (.int, 3, .inl jtg))) 2 3 (fun _ => 0) := c2.to ((kz_up_ne (by decide)).trans ((kz_up_ne (by decide)).trans (dk 2 (by decide) (by decide) (by decide))))
  have f3 : jRow (kz_up (kz_up M7 3 (.inr (.int, 3, .inl jtg))) 4 (.inr (.int, 3, .inl jtg))) 3 3 (fun _ => 0) := jRow_tg ((kz_up_ne (by decide)).trans (kz_up_same _ _ _))
  have f4 : jRow (kz_up (kz_up M7 3 (.inr (.int, 3, .inl jtg))) 4 (.inr (.int, 3, .inl jtg))) 4 3 (fun _ => 0) := jRow_tg (kz_up_same _ _ _)
  have f9 : (kz_up (kz_up M7 3 (.inr (.int, 3, .inl jtg))) 4 (.inr (.int, 3, .inl jtg))).2 = 5 := d9
  generalize kz_up (kz_up M7 3 (.inr (.int, 3, .inl jtg))) 4 (.inr (.int, 3, .inl jtg)) = MC at f0 f1 f2 f3 f4 f9 ⊢
  -- the usual rules
  refine rL_init_36 (by omega) (by omega) ⟨_, f0, ow_l rfl, _, kz_up_same _ _ _, ow_l rfl, _, kz_up_same _ _ _, ow_l rfl, _, kz_up_same _ _ _, ow_l rfl, fun M5 e5 => ⟨_, (congrFun (congrArg Prod.fst e5) 0).trans (kz_up_same _ _ _), ow_l rfl, ?_⟩⟩
  have hk : ∀ (L : List Value) k, k ≠ 0 → (kz_up M5 0 (.inl (13, L))).1 k = MC.1 k := fun L k k0 => by rw [kz_up_ne k0, e5, kz_up_ne k0, kz_up_ne k0, kz_up_ne k0, kz_up_ne k0]
  have h5 : M5.2 = 5 := by rw [e5]; exact f9
  generalize hL : List.set _ 11 _ = LD
  have i0 : (kz_up M5 0 (.inl (13, LD))).1 0 = some (.inl (13, LD)) := kz_up_same _ _ _
  have i1 := (hk LD 1 (by decide)).trans f1
  have i2 := f2.to (hk LD 2 (by decide))
  have i3 := f3.to (hk LD 3 (by decide))
  have i4 := f4.to (hk LD 4 (by decide))
  have i9 : (kz_up M5 0 (.inl (13, LD))).2 = 5 := h5
  generalize kz_up M5 0 (.inl (13, LD)) = MD at i0 i1 i2 i3 i4 i9 ⊢
  have hLD : LD = [.ref 1, .ref 2, .ref 3, .ref 4, .int 0, .int 0, .int 20, .int 3, .int 4, .int 0, .int 7, .int 3, .int 0, .null, .null] := hL.symm
  rw [hLD] at i0
  -- the rates
  refine rL_init_63 (by omega) (by omega) ⟨3, by decide, by decide, by decide, by omega, by omega, _, _, kz_nw_same _ _, vp_in_nI (n := 0) (by decide) (by decide), _, _, kz_up_same _ _ _, vp_in_nI (n := 1) (by decide) (by decide), fun M7 e7 => ⟨_, _, (congrFun (congrArg Prod.fst e7) _).trans (kz_up_same _ _ _), vp_in_nI (n := 2) (by decide) (by decide), _, (kz_up_ne (by omega)).trans ((congrFun (congrArg Prod.fst e7) 0).trans ((kz_up_ne (by omega)).trans ((kz_up_ne (by omega)).trans ((kz_nw_ne (by omega)).trans i0)))), ow_l rfl, ?_⟩⟩
  rw [i9] at e7 ⊢
  have n0 : (0 : Int32).toNatClampNeg = 0 := by decide
  have n1 : (1 : Int32).toNatClampNeg = 1 := by decide
  have n2 : (2 : Int32).toNatClampNeg = 2 := by decide
  rw [n0, n1] at e7
  rw [n0, n1, n2]
  have j5 : (kz_up (kz_up M7 5 (.inr (.int, 3, .inl (upd (upd (upd (fun _ => 0) 0 10) 1 8) 2 5)))) 0 (.inl (13, List.set [.ref 1, .ref 2, .ref 3, .ref 4, .int 0, .int 0, .int 20, .int 3, .int 4, .int 0, .int 7, .int 3, .int 0, .null, .null] 13 (.ref 5)))).1 5 = some (.inr (.int, 3, .inl (upd (upd (upd (fun _ => 0) 0 10) 1 8) 2 5))) := (kz_up_ne (by decide)).trans (kz_up_same _ _ _)
  have jk : ∀ k, k ≠ 0 → k ≠ 5 → (kz_up (kz_up M7 5 (.inr (.int, 3, .inl (upd (upd (upd (fun _ => 0) 0 10) 1 8) 2 5)))) 0 (.inl (13, List.set [.ref 1, .ref 2, .ref 3, .ref 4, .int 0, .int 0, .int 20, .int 3, .int 4, .int 0, .int 7, .int 3, .int 0, .null, .null] 13 (.ref 5)))).1 k = MD.1 k := fun k k0 k5 => by rw [kz_up_ne k0, kz_up_ne k5, e7, kz_up_ne k5, kz_up_ne k5, kz_nw_ne (by omega)]
  have j0 : (kz_up (kz_up M7 5 (.inr (.int, 3, .inl (upd (upd (upd (fun _ => 0) 0 10) 1 8) 2 5)))) 0 (.inl (13, List.set [.ref 1, .ref 2, .ref 3, .ref 4, .int 0, .int 0, .int 20, .int 3, .int 4, .int 0, .int 7, .int 3, .int 0, .null, .null] 13 (.ref 5)))).1 0 = some (.inl (13, [.ref 1, .ref 2, .ref 3, .ref 4, .int 0, .int 0, .int 20, .int 3, .int 4, .int 0, .int 7, .int 3, .int 0, .ref 5, .null])) := kz_up_same _ _ _
  have j9 : (kz_up (kz_up M7 5 (.inr (.int, 3, .inl (upd (upd (upd (fun _ => 0) 0 10) 1 8) 2 5)))) 0 (.inl (13, List.set [.ref 1, .ref 2, .ref 3, .ref 4, .int 0, .int 0, .int 20, .int 3, .int 4, .int 0, .int 7, .int 3, .int 0, .null, .null] 13 (.ref 5)))).2 = 6 := by rw [kz_up_2, kz_up_2, e7, kz_up_2, kz_up_2, kz_nw_2, i9]
  refine kz_tag (a := 5) (n := 3) (f' := fun k => if k = 100000 then 1 else upd (upd (upd (fun _ => 0) 0 10) 1 8) 2 5 k) (fun i hi => if_neg (by omega)) j5 ?_
  generalize kz_up (kz_up M7 5 (.inr (.int, 3, .inl (upd (upd (upd (fun _ => 0) 0 10) 1 8) 2 5)))) 0 (.inl (13, List.set [.ref 1, .ref 2, .ref 3, .ref 4, .int 0, .int 0, .int 20, .int 3, .int 4, .int 0, .int 7, .int 3, .int 0, .null, .null] 13 (.ref 5))) = ME at j0 jk j9 ⊢
  show zL_init_84 G d mc ms Qr Qx 0 p _ (0 + 1 + 1 + 1 + 1 + 1) (0 + 3 + 3 + 3 + 3 + 3)
  have k5 : jRow (kz_up ME 5 (.inr (.int, 3, .inl (fun k => if k = 100000 then 1 else upd (upd (upd (fun _ => 0) 0 10) 1 8) 2 5 k)))) 5 3 (fun i => [10, 8, 5].getD i 0) := ⟨_, kz_up_same _ _ _, if_pos rfl, fun i hi => by
    have : i = 0 ∨ i = 1 ∨ i = 2 := by omega
    rcases this with rfl | rfl | rfl <;> rfl⟩
  have k0 := (kz_up_ne (M := ME) (a := 5) (b := 0) (e := .inr (.int, 3, .inl (fun k => if k = 100000 then 1 else upd (upd (upd (fun _ => 0) 0 10) 1 8) 2 5 k))) (by decide)).trans j0
  have kk : ∀ k, k ≠ 0 → k ≠ 5 → (kz_up ME 5 (.inr (.int, 3, .inl (fun k => if k = 100000 then 1 else upd (upd (upd (fun _ => 0) 0 10) 1 8) 2 5 k)))).1 k = MD.1 k := fun k h0 h5 => (kz_up_ne h5).trans (jk k h0 h5)
  have k9 : (kz_up ME 5 (.inr (.int, 3, .inl (fun k => if k = 100000 then 1 else upd (upd (upd (fun _ => 0) 0 10) 1 8) 2 5 k)))).2 = 6 := j9
  generalize kz_up ME 5 (.inr (.int, 3, .inl (fun k => if k = 100000 then 1 else upd (upd (upd (fun _ => 0) 0 10) 1 8) 2 5 k))) = MF at k5 k0 kk k9 ⊢
  have o1 := (kk 1 (by decide) (by decide)).trans i1
  have o2 := i2.to (kk 2 (by decide) (by decide))
  have o3 := i3.to (kk 3 (by decide) (by decide))
  have o4 := i4.to (kk 4 (by decide) (by decide))
  -- the builder
  refine rL_init_84 (by omega) (by omega) ⟨by omega, by omega, 1, 16, by omega, by omega, ?_⟩
  refine c_sbInit hG (kz_nw_same _ _) (Nat.le_refl _) (Nat.le_refl _) fun M8 u1 u2 u3 => ?_
  rw [k9] at u1 u3 ⊢
  have u22 : M8.2 = 8 := u2.trans (by rw [kz_nw_2, k9])
  have u4 : (kz_nw MF (.inl (15, [.null, .int 0, .int 0, .int 0]))).2 = 7 := by rw [kz_nw_2, k9]
  rw [u4] at u3
  have un : ∀ k, k < 6 → M8.1 k = MF.1 k := fun k hk => (u1.1 k (by rw [u4]; omega) (show ¬ k = 6 by omega)).trans (kz_nw_ne (by omega))
  refine ⟨rfl, _, (un 0 (by decide)).trans k0, ow_l rfl, ?_⟩
  have Y : jY (kz_up M8 0 (.inl (13, List.set [.ref 1, .ref 2, .ref 3, .ref 4, .int 0, .int 0, .int 20, .int 3, .int 4, .int 0, .int 7, .int 3, .int 0, .ref 5, .null] 14 (.ref 6)))) [.ref 1, .ref 2, .ref 3, .ref 4, .int 0, .int 0, .int 20, .int 3, .int 4, .int 0, .int 7, .int 3, .int 0, .ref 5, .ref 6] [] 0 := by
    refine ⟨kz_up_same _ _ _, ⟨(kz_up_ne (by decide)).trans ((un 1 (by decide)).trans o1), o2.to ((kz_up_ne (by decide)).trans (un 2 (by decide))), o3.to ((kz_up_ne (by decide)).trans (un 3 (by decide))), o4.to ((kz_up_ne (by decide)).trans (un 4 (by decide))), k5.to ((kz_up_ne (by decide)).trans (un 5 (by decide)))⟩, ⟨7, 16, ⟨(kz_up_ne (by decide)).trans u3.1, (kz_up_ne (by decide)).trans u3.2.1, u3.2.2⟩, Nat.le_refl _, by show 7 < M8.2; omega⟩, Nat.le_refl _⟩
  generalize kz_up M8 0 (.inl (13, List.set [.ref 1, .ref 2, .ref 3, .ref 4, .int 0, .int 0, .int 20, .int 3, .int 4, .int 0, .int 7, .int 3, .int 0, .ref 5, .null] 14 (.ref 6))) = MG at Y ⊢
  -- the script's first cell
  refine rL_init_95 (by omega) (by omega) (c_cell (k := 0) rfl hX hbs hN (by decide) fun x => ⟨_, rfl, ?_⟩)
  have Q := Q (x := x)
  refine rL_init_101 (by omega) (by omega) (c_bits (f := 0) (m := 8) rfl rfl (by decide) (by decide) ⟨_, rfl, _, Y.1, ow_l rfl, c_bits (f := 8) (m := 4) rfl rfl (by decide) (by decide) ⟨_, rfl, _, kz_up_same _ _ _, ow_l rfl, ?_⟩⟩)
  refine rL_init_126 (by omega) (by omega) (c_bits (f := 12) (m := 2) rfl rfl (by decide) (by decide) ⟨_, rfl, _, kz_up_same _ _ _, ow_l rfl, c_bits (f := 14) (m := 2) rfl rfl (by decide) (by decide) ⟨_, rfl, _, kz_up_same _ _ _, ow_l rfl, ?_⟩⟩)
  refine rL_init_152 (by omega) (by omega) (c_bits (f := 16) (m := 3) rfl rfl (by decide) (by decide) ⟨_, rfl, _, kz_up_same _ _ _, ow_l rfl, c_bits (f := 19) (m := 2) rfl rfl (by decide) (by decide) ⟨_, rfl, _, kz_up_same _ _ _, ow_l rfl, ?_⟩⟩)
  refine rL_init_174 (by omega) (by omega) (c_bits (f := 21) (m := 2) rfl rfl (by decide) (by decide) ⟨_, rfl, _, kz_up_same _ _ _, ow_l rfl, c_bits (f := 23) (m := 2) rfl rfl (by decide) (by decide) ⟨_, rfl, _, kz_up_same _ _ _, ow_l rfl, ?_⟩⟩)
  have p1 := jbt_lt x 0 8
  have p2 := jbt_lt x 8 4
  have p3 := jbt_lt x 12 2
  have p4 := jbt_lt x 14 2
  have p5 := jbt_lt x 16 3
  have p6 := jbt_lt x 19 2
  have p7 := jbt_lt x 21 2
  have p8 := jbt_lt x 23 2
  generalize jbt x 0 8 = mo at Q p1 ⊢
  generalize jbt x 8 4 = me at Q p2 ⊢
  generalize jbt x 12 2 = st at Q p3 ⊢
  generalize jbt x 14 2 = wo at Q p4 ⊢
  generalize jbt x 16 3 = fi at Q p5 ⊢
  generalize jbt x 19 2 = te at Q p6 ⊢
  generalize jbt x 21 2 = di at Q p7 ⊢
  generalize jbt x 23 2 = fe at Q p8 ⊢
  rw [show (6 : Int32) + nI me = nI (6 + me) from nI_add 6 me, show (2 : Int32) + nI st = nI (2 + st) from nI_add 2 st, show (1 : Int32) + nI wo = nI (1 + wo) from nI_add 1 wo, show (1 : Int32) + nI di = nI (1 + di) from nI_add 1 di]
  exact c_initText (K := 1000) hG hG2 hP (((((((Y.set).set).set).set).set).set).set).set ⟨by omega, by omega, by omega, by omega, by omega, by omega, by omega, by omega⟩ (by omega) (Nat.le_refl _) (Nat.le_trans (by decide) hms) fun M1 h => Q M1 h
end JI2
