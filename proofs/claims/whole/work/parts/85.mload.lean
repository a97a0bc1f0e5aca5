/-! Part 85: the reference: loadOffice -/
theorem mo_A.ld {M M1 : kz_M} {O O' : ow_O} {hn hn' : Nat} {h h' : Nat → ow_O} {sv : ow_O} {isS isS' : Bool} {n : Nat} {b : Nat → Nat} {l : List Nat} (A : mo_A M O hn h sv isS n b l) (g : ow_Sm (fun z => z = 99 ∨ z = 100 ∨ z = 101) M M1) (B : ∃ f g, M1.1 100 = some (.inr (.int, 3813, .inl f)) ∧ M1.1 104 = some (.inr (.long, 732, .inr (.inl g))) ∧ mo_W O' f g 0 0) (B1 : ∃ f, M1.1 101 = some (.inr (.int, 3813, .inl f))) (hh : hn' ≤ hn ∧ ∀ i, i < hn' → h' i = h i) (hS : isS' = true → isS = true) : mo_A M1 O' hn' h' sv isS' 0 b l := by
  obtain ⟨-, -, ⟨f3, g3, a5, a6, a7⟩, ⟨f4, g4, a8, a9, a10, a11⟩, ⟨⟨g5, b1⟩, ⟨f6, b2⟩, ⟨f7, b3⟩, ⟨f8, b4⟩, f9, b5⟩, ⟨f10, c1, c2⟩, f11, c3, c4⟩ := A
  have u : ∀ k x, k ≠ 99 ∧ k ≠ 100 ∧ k ≠ 101 → M.1 k = some x → M1.1 k = some x := fun k x hk hx => (g k (by omega)).trans hx
  exact ⟨B, B1, ⟨f3, g3, u _ _ (by omega) a5, u _ _ (by omega) a6, fun z => a7 (hS z)⟩, ⟨f4, g4, u _ _ (by omega) a8, u _ _ (by omega) a9, Nat.le_trans hh.1 a10, fun i hi => by rw [hh.2 i hi]; exact a11 i (by omega)⟩, ⟨⟨g5, u _ _ (by omega) b1⟩, ⟨f6, u _ _ (by omega) b2⟩, ⟨f7, u _ _ (by omega) b3⟩, ⟨f8, u _ _ (by omega) b4⟩, f9, u _ _ (by omega) b5⟩, ⟨f10, u _ _ (by omega) c1, Nat.zero_le _, fun i hi => absurd hi (Nat.not_lt_zero i)⟩, f11, u _ _ (by omega) c3, c4⟩
theorem mo_inv_0 : mo_inv o_0 := ⟨o_0_ok, fun i hi => absurd hi (Nat.not_lt_zero i), rfl, fun i hi => absurd hi (Nat.not_lt_zero i)⟩
section MOA
variable {G : kz_G} {d : Nat} {Qr : Option Value → kz_M → Prop} {Qx : String → kz_M → Prop} {M : kz_M} {O : ow_O} {s : Nat → Int32} {rb : Int64} {hn : Nat} {h : Nat → ow_O} {sv : ow_O} {isS : Bool} {er : Nat} {ea : Int32} {n : Nat} {b : Nat → Nat} {l : List Nat} {f : Nat → Int32} {g : Nat → Int64}
theorem m_begins {N : Nat} (D : mo_D M s rb f g) (q : ∀ M1 f1, ow_Sm (· = 100) M M1 → M1.2 = M.2 → mo_D M1 s rb f1 g → mo_W o_0 f1 g 0 0 → (∀ j, 15 ≤ j → j < 3813 → f1 j = 0) → Qr none M1) : kz_C G (d + 1) 0 0 mX12_begins [.ref 99] M Qr Qx := by
  have key : ∀ i, i ≤ 3813 → ∀ M0 f0, ow_Sm (· = 100) M M0 → M0.2 = M.2 → mo_D M0 s rb f0 g → (∀ j, j < i → f0 j = 0) → zX12_begins_2 G d Qr Qx 99 (nI i) M0 := by
    refine ow_loop 3813 ?_ ?_
    · intro M0 f0 S0 t0 D0 h0
      refine rX12_begins_2 (ow_y (by decide) ⟨D0.ob, m_sets (k := 0) D0 (by omega) fun M1 S1 t1 D1 => ⟨rfl, ⟨D1.ob, m_sets (k := 1) D1 (by omega) fun M2 S2 t2 D2 => ⟨rfl, ⟨D2.ob, m_sets (k := 2) D2 (by omega) fun M3 S3 t3 D3 => ⟨rfl, ⟨D3.ob, m_sets (k := 3) D3 (by omega) fun M4 S4 t4 D4 => ⟨rfl, ⟨D4.ob, m_sets (k := 4) D4 (by omega) fun M5 S5 t5 D5 => ⟨rfl, ⟨D5.ob, m_sets (k := 5) D5 (by omega) fun M6 S6 t6 D6 => ⟨rfl, ⟨D6.ob, m_sets (k := 6) D6 (by omega) fun M7 S7 t7 D7 => ⟨rfl, ⟨D7.ob, m_sets (k := 7) D7 (by omega) fun M8 S8 t8 D8 => ⟨rfl, ⟨D8.ob, m_sets (k := 8) D8 (by omega) fun M9 S9 t9 D9 => ⟨rfl, ⟨D9.ob, m_sets (k := 9) D9 (by omega) fun M10 S10 t10 D10 => ⟨rfl, ?_⟩⟩⟩⟩⟩⟩⟩⟩⟩⟩⟩⟩⟩⟩⟩⟩⟩⟩⟩⟩)
      refine q M10 (upd (upd (upd (upd (upd (upd (upd (upd (upd (upd (f0) (5 + 0) 20) (5 + 1) 3) (5 + 2) 4) (5 + 3) 2) (5 + 4) 7) (5 + 5) 3) (5 + 6) 1) (5 + 7) 10) (5 + 8) 8) (5 + 9) 5) (fun z hz => ?_) ?_ D10 ?_ (fun j h1 h2 => (if_neg (by omega)).trans ((if_neg (by omega)).trans ((if_neg (by omega)).trans ((if_neg (by omega)).trans ((if_neg (by omega)).trans ((if_neg (by omega)).trans ((if_neg (by omega)).trans ((if_neg (by omega)).trans ((if_neg (by omega)).trans ((if_neg (by omega)).trans (h0 j h2)))))))))))
      · rw [S10 z hz, S9 z hz, S8 z hz, S7 z hz, S6 z hz, S5 z hz, S4 z hz, S3 z hz, S2 z hz, S1 z hz]; exact S0 z hz
      · rw [t10, t9, t8, t7, t6, t5, t4, t3, t2, t1]; exact t0
      have u : ∀ j, j < 5 → (upd (upd (upd (upd (upd (upd (upd (upd (upd (upd (f0) (5 + 0) 20) (5 + 1) 3) (5 + 2) 4) (5 + 3) 2) (5 + 4) 7) (5 + 5) 3) (5 + 6) 1) (5 + 7) 10) (5 + 8) 8) (5 + 9) 5) j = 0 := fun j hj => (if_neg (by omega)).trans ((if_neg (by omega)).trans ((if_neg (by omega)).trans ((if_neg (by omega)).trans ((if_neg (by omega)).trans ((if_neg (by omega)).trans ((if_neg (by omega)).trans ((if_neg (by omega)).trans ((if_neg (by omega)).trans ((if_neg (by omega)).trans (h0 j (by omega)))))))))))
      refine ⟨⟨u 0 (by omega), u 1 (by omega), u 2 (by omega), u 3 (by omega), u 4 (by omega)⟩, fun i hi => ?_, fun i hi => absurd hi (Nat.not_lt_zero i), fun i hi => absurd hi (Nat.not_lt_zero i), fun i hi => absurd hi (Nat.not_lt_zero i)⟩
      rcases (by omega : i = 0 ∨ i = 1 ∨ i = 2 ∨ i = 3 ∨ i = 4 ∨ i = 5 ∨ i = 6 ∨ i = 7 ∨ i = 8 ∨ i = 9) with rfl | rfl | rfl | rfl | rfl | rfl | rfl | rfl | rfl | rfl <;> rfl
    · intro i hi ih M0 f0 S0 t0 D0 h0
      refine rX12_begins_2 (ow_n (nI_ge (b := 3813) hi (by omega)) ⟨_, _, D0.1, rfl, _, _, D0.2.1, vp_in_nI (by omega) (by omega), ?_⟩)
      rw [nI_clamp (by omega), nI_1]
      refine ih _ _ (fun z hz => (kz_up_ne hz).trans (S0 z hz)) t0 D0.w fun j hj => ?_
      show (if j = i then 0 else f0 j) = 0
      by_cases hz : j = i
      · rw [if_pos hz]
      · rw [if_neg hz]; exact h0 j (by omega)
  exact rX12_begins_0 (key 0 (Nat.zero_le _) M f (fun _ _ => rfl) rfl D fun j hj => absurd hj (Nat.not_lt_zero j))
theorem m_loadOffice (hG : kz_stat G) (I : mo_I M O hn h sv isS er ea n b l s rb) (hO : ow_Ok2 O) (q0 : ∀ c o, sp_read n b = .inl (c, o) → mo_K M O hn h sv isS c (nI o) 0 b l 0 (Qr (some (.int (-1))))) (q1 : ∀ p O' t', sp_read n b = .inr (p, O', t') → mo_inv O' → 0 < o_nw O' → ∀ h', mo_K M O' 0 h' sv false 0 (-1) 0 b l 0 (Qr (some (.int (nI (o_nw O')))))) (h' : Nat → ow_O) : kz_C G (d + 10) 0 0 mX12_loadOffice [.ref 99] M Qr Qx := by
  have I0 := I.th' 0
  have C0 := I.cf 0
  have h9 : upd s 9 0 9 = nI 0 := rfl
  refine rX12_loadOffice_0 ⟨_, I.1, ow_l rfl, ?_⟩
  generalize kz_up M 99 (.inl (11, (mo_fs s rb).set 9 (.int 0))) = M0 at I0 C0 ⊢
  generalize upd s 9 0 = s0 at I0 h9
  obtain ⟨f, g, D, W⟩ := I0.D
  have hwk := hO.1.1.2.2.2.1
  have hnw := hO.1.1.2.2.1
  have hO1 := hO.1
  obtain ⟨f1, h101⟩ := I0.2.2.2.1
  obtain ⟨hn6, fi, c1, c2⟩ := I0.inp
  have I0' := I0
  obtain ⟨i1, ⟨i2, i3, i4, i5, i6, i7⟩, A⟩ := I0'
  refine ⟨_, _, D.1, rfl, _, _, D.1, rfl, m_copies (a := 100) (b := 101) (x := 0) (y := 0) (n := 3813) D.2.1 h101 (Or.inl (by omega)) (by omega) (by omega) (by omega) (by omega) fun M1 g1 t1 k1 => ⟨rfl, ?_⟩⟩
  have D1 : mo_D M1 s0 rb f g := ⟨(g1 99 (by omega)).trans D.1, (g1 100 (by omega)).trans D.2.1, (g1 104 (by omega)).trans D.2.2⟩
  refine ⟨D1.ob, m_begins (N := 0) D1 fun M2 f2 g2 t2 D2 W2 _ => ⟨rfl, _, D2.1, ow_l rfl, _, kz_up_same _ _ _, ow_l rfl, _, kz_up_same _ _ _, ow_l rfl, _, kz_up_same _ _ _, ow_l rfl, fun M3 e3 => ?_⟩⟩
  have x99 : M3.1 99 = some (.inl (11, mo_fs (upd (upd (upd (upd s0 22 0) 23 (-1)) 24 0) 29 0) rb)) := by rw [e3]; exact kz_up_same _ _ _
  have xne : ∀ z, z ≠ 99 → M3.1 z = M2.1 z := fun z hz => by rw [e3, kz_up_ne hz, kz_up_ne hz, kz_up_ne hz, kz_up_ne hz]
  have x2 : M3.2 = M0.2 := by rw [e3, kz_up_2, kz_up_2, kz_up_2, kz_up_2, t2, t1]
  have s19 : upd (upd (upd (upd s0 22 0) 23 (-1)) 24 0) 29 0 19 = nI n := i4
  have s7 : upd (upd (upd (upd s0 22 0) 23 (-1)) 24 0) 29 0 7 = nI hn := i2
  have s8 : upd (upd (upd (upd s0 22 0) 23 (-1)) 24 0) 29 0 8 = ow_b isS := i3
  have s9 : upd (upd (upd (upd s0 22 0) 23 (-1)) 24 0) 29 0 9 = nI 0 := h9
  have s31 : upd (upd (upd (upd s0 22 0) 23 (-1)) 24 0) 29 0 31 = nI l.length := i7
  have s22 : upd (upd (upd (upd s0 22 0) 23 (-1)) 24 0) 29 0 22 = 0 := rfl
  have s23 : upd (upd (upd (upd s0 22 0) 23 (-1)) 24 0) 29 0 23 = -1 := rfl
  have s24 : upd (upd (upd (upd s0 22 0) 23 (-1)) 24 0) 29 0 24 = nI 0 := rfl
  have s29 : upd (upd (upd (upd s0 22 0) 23 (-1)) 24 0) 29 0 29 = 0 := rfl
  generalize upd (upd (upd (upd s0 22 0) 23 (-1)) 24 0) 29 0 = s3 at x99 s19 s7 s8 s9 s31 s22 s23 s24 s29
  clear e3
  have y112 : M3.1 112 = some (.inr (.int, 600, .inl fi)) := (xne 112 (by omega)).trans ((g2 112 (by omega)).trans ((g1 112 (by omega)).trans c1))
  have y101 : M3.1 101 = some (.inr (.int, 3813, .inl (mo_cp f f1 0 0 3813))) := (xne 101 (by omega)).trans ((g2 101 (by omega)).trans k1)
  have B : mo_ib M3 s3 n b := ⟨s19, hn6, fi, y112, c2⟩
  have S30 : ow_Sm (fun z => z = 99 ∨ z = 100 ∨ z = 101) M0 M3 := fun z hz => (xne z (by omega)).trans ((g2 z (by omega)).trans (g1 z (by omega)))
  have D3 : mo_D M3 s3 rb f2 g := ⟨x99, (xne 100 (by omega)).trans D2.2.1, (xne 104 (by omega)).trans D2.2.2⟩
  refine ⟨D3.ob, m_token (M0 := M3) (s0 := s3) ⟨x99, hn6, fi, y112, c2⟩ s19 (Nat.zero_le n) s24 fun M4 s4 T4 hT => ⟨rfl, ?_⟩⟩
  have R4 : mo_RS M3 s3 rb M4 s4 := ⟨fun z hz => T4.1 z (by omega), T4.2.1, T4.2.2.1, fun j hj => T4.2.2.2 j (by omega), f2, (T4.1 100 (by omega)).trans D3.2.1⟩
  have S4 : mo_SR M3 s3 rb g n b M4 s4 0 o_0 (fun _ => false) := ⟨R4, ⟨f2, ⟨T4.2.2.1, (T4.1 100 (by omega)).trans D3.2.1, (T4.1 104 (by omega)).trans D3.2.2⟩, W2⟩, ⟨(T4.2.2.2 22 (by omega)).trans s22, (T4.2.2.2 23 (by omega)).trans s23⟩, hT, fun j hj => by rw [T4.2.2.2 29 (by omega), s29]; exact mo_b32_0 hj, mo_inv_0, Nat.zero_le _⟩
  refine ⟨S4.ob, m_readText (O := o_0) hG B S4 (fun c o e M5 s5 F => ⟨_, rfl, ?_⟩) fun p O' t' i' e hpos M5 s5 S5 => ⟨_, rfl, ?_⟩⟩
  · obtain ⟨R5, e22, e23⟩ := F
    obtain ⟨f5, hf5⟩ := R5.2.2.2.2
    refine ⟨_, R5.2.2.1, ow_l rfl, _, _, kz_up_same _ _ _, rfl, _, kz_up_same _ _ _, ow_l rfl, _, _, kz_up_same _ _ _, rfl, _, kz_up_same _ _ _, ow_l rfl, fun z => absurd rfl z, fun _ => ⟨_, _, kz_up_same _ _ _, rfl, _, _, kz_up_same _ _ _, rfl, ?_⟩⟩
    refine m_copies (a := 101) (b := 100) (x := 0) (y := 0) (n := 3813) (Na := 3813) (Nb := 3813) (F := mo_cp f f1 0 0 3813) (H := f5) ?_ ?_ (Or.inl (by omega)) (by omega) (by omega) (by omega) (by omega) fun M6 g6 t6 k6 => ⟨rfl, ?_⟩
    · rw [kz_up_ne (by omega), kz_up_ne (by omega), kz_up_ne (by omega)]
      exact (R5.1 101 (by omega)).trans y101
    · rw [kz_up_ne (by omega), kz_up_ne (by omega), kz_up_ne (by omega)]
      exact hf5
    have S6 : ow_Sm (fun z => z = 99 ∨ z = 100 ∨ z = 101) M0 M6 := fun z hz => by
      rw [g6 z (by omega), kz_up_ne (by omega), kz_up_ne (by omega), kz_up_ne (by omega), R5.1 z (by omega)]
      exact S30 z hz
    have W6 : mo_W O (mo_cp (mo_cp f f1 0 0 3813) f5 0 0 3813) g 0 0 := W.cp hO1 (fun i hi => (mo_cp_in hi).trans (mo_cp_in hi)) (fun i hi => rfl)
    refine q0 c o e M6 (upd (upd (upd s5 19 0) 20 (s5 22)) 21 (s5 23)) rb (C0.sm2 S6 (t6.trans (R5.2.1.trans x2)) (fun z hz => by omega)) ⟨(g6 99 (by omega)).trans (kz_up_same _ _ _), ⟨(R5.2.2.2.1 7 (by omega)).trans s7, (R5.2.2.2.1 8 (by omega)).trans s8, rfl, e22, e23, (R5.2.2.2.1 31 (by omega)).trans s31⟩, A.ld S6 ⟨_, _, k6, (S6 104 (by omega)).trans D.2.2, W6⟩ ⟨mo_cp f f1 0 0 3813, ?_⟩ ⟨Nat.le_refl _, fun _ _ => rfl⟩ id⟩ ((R5.2.2.2.1 9 (by omega)).trans s9)
    rw [g6 101 (by omega), kz_up_ne (by omega), kz_up_ne (by omega), kz_up_ne (by omega)]
    exact (R5.1 101 (by omega)).trans y101
  · obtain ⟨R5, ⟨f5, D5, W5⟩, ⟨e22, e23⟩, T5, td5, iv5, hi5⟩ := S5
    refine ⟨_, R5.2.2.1, ow_l rfl, _, _, kz_up_same _ _ _, rfl, _, kz_up_same _ _ _, ow_l rfl, _, _, kz_up_same _ _ _, rfl, _, kz_up_same _ _ _, ow_l rfl, fun _ => ⟨_, kz_up_same _ _ _, ow_l rfl, fun M6 e6 => ?_⟩, fun z => absurd z (by decide)⟩
    have z99 : M6.1 99 = some (.inl (11, mo_fs (upd (upd (upd (upd s5 19 0) 20 (s5 22)) 21 (s5 23)) 7 0) rb)) := by rw [e6]; exact kz_up_same _ _ _
    have zne : ∀ z, z ≠ 99 → M6.1 z = M5.1 z := fun z hz => by rw [e6, kz_up_ne hz, kz_up_ne hz, kz_up_ne hz, kz_up_ne hz]
    have z2 : M6.2 = M5.2 := by rw [e6]; rfl
    clear e6
    have D7 : mo_D (kz_up M6 99 (.inl (11, (mo_fs (upd (upd (upd (upd s5 19 0) 20 (s5 22)) 21 (s5 23)) 7 0) rb).set 8 (.int 0)))) (upd (upd (upd (upd (upd s5 19 0) 20 (s5 22)) 21 (s5 23)) 7 0) 8 0) rb f5 g := ⟨kz_up_same _ _ _, (kz_up_ne (by omega)).trans ((zne 100 (by omega)).trans D5.2.1), (kz_up_ne (by omega)).trans ((zne 104 (by omega)).trans D5.2.2)⟩
    have S7 : ow_Sm (fun z => z = 99 ∨ z = 100 ∨ z = 101) M0 (kz_up M6 99 (.inl (11, (mo_fs (upd (upd (upd (upd s5 19 0) 20 (s5 22)) 21 (s5 23)) 7 0) rb).set 8 (.int 0)))) := fun z hz => by
      rw [kz_up_ne (by omega), zne z (by omega), R5.1 z (by omega)]
      exact S30 z hz
    refine ⟨_, z99, ow_l rfl, _, _, D7.1, rfl, _, _, D7.2.1, mo_in0, ?_⟩
    rw [W5.at0]
    refine q1 p O' t' e iv5 hpos h' _ (upd (upd (upd (upd (upd s5 19 0) 20 (s5 22)) 21 (s5 23)) 7 0) 8 0) rb (C0.sm2 S7 (z2.trans (R5.2.1.trans x2)) (fun z hz => by omega)) ⟨D7.1, ⟨rfl, rfl, rfl, e22, e23, (R5.2.2.2.1 31 (by omega)).trans s31⟩, A.ld S7 ⟨_, _, D7.2.1, D7.2.2, W5⟩ ⟨mo_cp f f1 0 0 3813, ?_⟩ ⟨Nat.zero_le _, fun i hi => absurd hi (Nat.not_lt_zero i)⟩ (fun z => by cases z)⟩ ((R5.2.2.2.1 9 (by omega)).trans s9)
    rw [kz_up_ne (by omega), zne 101 (by omega)]
    exact (R5.1 101 (by omega)).trans y101
end MOA
