/-! Part 81: the reference: undo, what is saved, the input -/
theorem mo_A.sav {M M1 : kz_M} {O : ow_O} {hn : Nat} {h : Nat → ow_O} {sv sv' : ow_O} {isS isS' : Bool} {n : Nat} {b : Nat → Nat} {l : List Nat} (A : mo_A M O hn h sv isS n b l) (g : ow_Sm (fun z => z = 99 ∨ z = 102 ∨ z = 105) M M1) (B : ∃ f g, M1.1 102 = some (.inr (.int, 3813, .inl f)) ∧ M1.1 105 = some (.inr (.long, 732, .inr (.inl g))) ∧ (isS' = true → mo_W sv' f g 0 0)) : mo_A M1 O hn h sv' isS' n b l := by
  obtain ⟨⟨f1, g1, a1, a2, a3⟩, ⟨f2, a4⟩, -, ⟨f4, g4, a8, a9, a10⟩, ⟨⟨g5, b1⟩, ⟨f6, b2⟩, ⟨f7, b3⟩, ⟨f8, b4⟩, f9, b5⟩, ⟨f10, c1, c2⟩, f11, c3, c4⟩ := A
  have u : ∀ k x, k ≠ 99 ∧ k ≠ 102 ∧ k ≠ 105 → M.1 k = some x → M1.1 k = some x := fun k x hk hx => (g k (by omega)).trans hx
  exact ⟨⟨f1, g1, u _ _ (by omega) a1, u _ _ (by omega) a2, a3⟩, ⟨f2, u _ _ (by omega) a4⟩, B, ⟨f4, g4, u _ _ (by omega) a8, u _ _ (by omega) a9, a10⟩, ⟨⟨g5, u _ _ (by omega) b1⟩, ⟨f6, u _ _ (by omega) b2⟩, ⟨f7, u _ _ (by omega) b3⟩, ⟨f8, u _ _ (by omega) b4⟩, f9, u _ _ (by omega) b5⟩, ⟨f10, u _ _ (by omega) c1, c2⟩, f11, u _ _ (by omega) c3, c4⟩
theorem mo_A.inp {M M1 : kz_M} {O : ow_O} {hn : Nat} {h : Nat → ow_O} {sv : ow_O} {isS : Bool} {n n' : Nat} {b b' : Nat → Nat} {l : List Nat} (A : mo_A M O hn h sv isS n b l) (g : ow_Sm (fun z => z = 99 ∨ z = 112) M M1) (B : ∃ f, M1.1 112 = some (.inr (.int, 600, .inl f)) ∧ n' ≤ 600 ∧ ∀ i, i < n' → f i = nI (b' i) ∧ b' i < 256) : mo_A M1 O hn h sv isS n' b' l := by
  obtain ⟨⟨f1, g1, a1, a2, a3⟩, ⟨f2, a4⟩, ⟨f3, g3, a5, a6, a7⟩, ⟨f4, g4, a8, a9, a10⟩, ⟨⟨g5, b1⟩, ⟨f6, b2⟩, ⟨f7, b3⟩, ⟨f8, b4⟩, f9, b5⟩, -, f11, c3, c4⟩ := A
  have u : ∀ k x, k ≠ 99 ∧ k ≠ 112 → M.1 k = some x → M1.1 k = some x := fun k x hk hx => (g k (by omega)).trans hx
  exact ⟨⟨f1, g1, u _ _ (by omega) a1, u _ _ (by omega) a2, a3⟩, ⟨f2, u _ _ (by omega) a4⟩, ⟨f3, g3, u _ _ (by omega) a5, u _ _ (by omega) a6, a7⟩, ⟨f4, g4, u _ _ (by omega) a8, u _ _ (by omega) a9, a10⟩, ⟨⟨g5, u _ _ (by omega) b1⟩, ⟨f6, u _ _ (by omega) b2⟩, ⟨f7, u _ _ (by omega) b3⟩, ⟨f8, u _ _ (by omega) b4⟩, f9, u _ _ (by omega) b5⟩, B, f11, u _ _ (by omega) c3, c4⟩
theorem mo_A.out {M M1 : kz_M} {O : ow_O} {hn : Nat} {h : Nat → ow_O} {sv : ow_O} {isS : Bool} {n : Nat} {b : Nat → Nat} {l l' : List Nat} (A : mo_A M O hn h sv isS n b l) (g : ow_Sm (fun z => z = 99 ∨ z = 113) M M1) (B : ∃ f, M1.1 113 = some (.inr (.int, 400, .inl f)) ∧ l'.length ≤ 256 ∧ ∀ i, i < l'.length → f i = nI (l'.getD i 0)) : mo_A M1 O hn h sv isS n b l' := by
  obtain ⟨⟨f1, g1, a1, a2, a3⟩, ⟨f2, a4⟩, ⟨f3, g3, a5, a6, a7⟩, ⟨f4, g4, a8, a9, a10⟩, ⟨⟨g5, b1⟩, ⟨f6, b2⟩, ⟨f7, b3⟩, ⟨f8, b4⟩, f9, b5⟩, ⟨f10, c1, c2⟩, -⟩ := A
  have u : ∀ k x, k ≠ 99 ∧ k ≠ 113 → M.1 k = some x → M1.1 k = some x := fun k x hk hx => (g k (by omega)).trans hx
  exact ⟨⟨f1, g1, u _ _ (by omega) a1, u _ _ (by omega) a2, a3⟩, ⟨f2, u _ _ (by omega) a4⟩, ⟨f3, g3, u _ _ (by omega) a5, u _ _ (by omega) a6, a7⟩, ⟨f4, g4, u _ _ (by omega) a8, u _ _ (by omega) a9, a10⟩, ⟨⟨g5, u _ _ (by omega) b1⟩, ⟨f6, u _ _ (by omega) b2⟩, ⟨f7, u _ _ (by omega) b3⟩, ⟨f8, u _ _ (by omega) b4⟩, f9, u _ _ (by omega) b5⟩, ⟨f10, u _ _ (by omega) c1, c2⟩, B⟩
theorem mo_by (y : Int32) : y &&& 255 = nI (y.toBitVec.toNat % 256) := by
  apply Int32.toBitVec_inj.mp
  show y.toBitVec &&& 255#32 = BitVec.ofNat 32 (y.toBitVec.toNat % 256)
  apply BitVec.eq_of_toNat_eq
  rw [BitVec.toNat_and]
  show y.toBitVec.toNat &&& 255 = (y.toBitVec.toNat % 256) % 2 ^ 32
  rw [Nat.mod_eq_of_lt (show y.toBitVec.toNat % 256 < 2 ^ 32 by omega)]
  exact Nat.and_two_pow_sub_one_eq_mod _ 8
section MOA
variable {G : kz_G} {d : Nat} {Qr : Option Value → kz_M → Prop} {Qx : String → kz_M → Prop} {M : kz_M} {O : ow_O} {s : Nat → Int32} {rb : Int64} {hn : Nat} {h : Nat → ow_O} {sv : ow_O} {isS : Bool} {er : Nat} {ea : Int32} {n : Nat} {b : Nat → Nat} {l : List Nat} {f : Nat → Int32} {g : Nat → Int64}
theorem mo_I.hs (I : mo_I M O hn h sv isS er ea n b l s rb) (m : Nat) (h' : Nat → ow_O) (hm : m ≤ hn) (hh : ∀ i, i < m → h' i = h i) : mo_I (kz_up M 99 (.inl (11, (mo_fs s rb).set 7 (.int (nI m))))) O m h' sv isS er ea n b l (upd s 7 (nI m)) rb := by
  obtain ⟨i1, ⟨i2, i3, i4, i5, i6, i7⟩, A⟩ := I
  have A0 := A
  obtain ⟨-, -, -, ⟨F, H, hF, hH, h8, hW⟩, -⟩ := A0
  refine ⟨kz_up_same _ _ _, ⟨rfl, i3, i4, i5, i6, i7⟩, A.past (fun z hz => kz_up_ne (by omega)) ⟨F, H, (kz_up_ne (by omega)).trans hF, (kz_up_ne (by omega)).trans hH, by omega, fun i hi => ?_⟩⟩
  rw [hh i hi]
  exact hW i (by omega)

theorem m_undo (I : mo_I M O hn h sv isS er ea n b l s rb) (hO : ow_Ok2 O) (hh : ∀ i, i < hn → ow_Ok1 (h i)) (q0 : hn = 0 → mo_K M O hn h sv isS er ea n b l 1 (Qr (some (.int 0)))) (q1 : 0 < hn → mo_K M (h (hn - 1)) (hn - 1) h sv isS er ea n b l 0 (Qr (some (.int (nI (hn - 1)))))) : kz_C G (d + 1) 0 0 mX12_undo [.ref 99] M Qr Qx := by
  have I0 := I.th' 0
  have C0 := I.cf 0
  have h9 : upd s 9 0 9 = nI 0 := rfl
  refine rX12_undo_0 ⟨_, I.1, ow_l rfl, ?_⟩
  generalize kz_up M 99 (.inl (11, (mo_fs s rb).set 9 (.int 0))) = M0 at I0 C0 ⊢
  generalize upd s 9 0 = s0 at I0 h9
  obtain ⟨f, g, D, W⟩ := I0.D
  have hwk := hO.1.1.2.2.2.1
  have hnw := hO.1.1.2.2.1
  have hO1 := hO.1
  obtain ⟨F, H, hF, hH, h8, hW⟩ := I0.2.2.2.2.2.1
  have i7 := I0.2.1.1
  refine ⟨_, _, D.1, rfl, ?_⟩
  rw [i7]
  refine ⟨fun z => ⟨D.ob, m_fails0 ⟨_, rfl, fun _ => ?_, fun z => absurd rfl z⟩⟩, fun z => ⟨D.ob, m_fails1 D.1 ⟨_, rfl, fun z => absurd z (by decide), fun _ => ?_⟩⟩⟩
  · obtain ⟨m, rfl⟩ : ∃ m, hn = m + 1 := by
      refine ⟨hn - 1, ?_⟩
      have : hn ≠ 0 := fun e => z (by rw [e]; rfl)
      omega
    have Q1 := q1 (by omega)
    rw [show m + 1 - 1 = m by omega] at Q1
    have J := I0.hs m h (by omega) (fun _ _ => rfl)
    have D1 : mo_D (kz_up M0 99 (.inl (11, (mo_fs s0 rb).set 7 (.int (nI m))))) (upd s0 7 (nI m)) rb f g := D.up (s' := upd s0 7 (nI m)) (rb' := rb)
    have C1 : mo_Cf M (kz_up M0 99 (.inl (11, (mo_fs s0 rb).set 7 (.int (nI m))))) := C0.up (a := 99) (by omega) (by omega)
    have j7 : upd s0 7 (nI m) 7 = nI m := rfl
    have j9 : upd s0 7 (nI m) 9 = nI 0 := h9
    have j103 : (kz_up M0 99 (.inl (11, (mo_fs s0 rb).set 7 (.int (nI m))))).1 103 = _ := (kz_up_ne (by omega)).trans hF
    have j106 : (kz_up M0 99 (.inl (11, (mo_fs s0 rb).set 7 (.int (nI m))))).1 106 = _ := (kz_up_ne (by omega)).trans hH
    refine ⟨_, _, D.1, rfl, _, D.1, ow_l rfl, ?_⟩
    rw [i7, show nI (m + 1) - 1 = nI m from nI_pred m]
    generalize kz_up M0 99 (.inl (11, (mo_fs s0 rb).set 7 (.int (nI m)))) = M1 at J D1 C1 j103 j106 ⊢
    generalize upd s0 7 (nI m) = s1 at J D1 j7 j9
    refine ⟨_, _, D1.1, rfl, _, _, D1.1, rfl, _, _, D1.1, rfl, ?_⟩
    rw [j7, show (3813 : Int32) * nI m = nI (3813 * m) from pk_mul 3813 m]
    refine m_copies (a := 103) (b := 100) (x := 3813 * m) (y := 0) (n := 3813) j103 D1.2.1 (Or.inl (by omega)) (by omega) (by omega) (by omega) (by omega) fun M2 g2 t2 c2 => ⟨rfl, ?_⟩
    have x99 := (g2 99 (by omega)).trans D1.1
    refine ⟨_, _, x99, rfl, _, _, x99, rfl, _, _, x99, rfl, ?_⟩
    rw [j7, show (732 : Int32) * nI m = nI (732 * m) from pk_mul 732 m]
    refine m_copiesW (a := 106) (b := 104) (x := 732 * m) (y := 0) (n := 732) ((g2 106 (by omega)).trans j106) ((g2 104 (by omega)).trans D1.2.2) (Or.inl (by omega)) (by omega) (by omega) (by omega) (by omega) fun M3 g3 t3 c3 => ⟨rfl, ?_⟩
    have x99' := (g3 99 (by omega)).trans x99
    refine ⟨_, _, x99', rfl, ?_⟩
    rw [j7]
    have D3 : mo_D M3 s1 rb _ _ := ⟨x99', (g3 100 (by omega)).trans c2, c3⟩
    have W3 : mo_W (h m) (mo_cp F f (3813 * m) 0 3813) (mo_cpL H g (732 * m) 0 732) 0 0 := (hW m (by omega)).cp (hh m (by omega)) (fun i hi => mo_cp_in hi) (fun i hi => mo_cpL_in hi)
    have S3 : ow_Sm (fun z => z = 100 ∨ z = 104) M1 M3 := fun z hz => (g3 z (by omega)).trans (g2 z (by omega))
    exact Q1 _ _ _ (C1.sm2 S3 (t3.trans t2) (fun z hz => by omega)) (J.now S3 D3 W3) j9
  · have hz : hn = 0 := (nI_eq (b := 0) (by omega) (by omega)).mp z
    exact (q0 hz).fl C0 I0 rfl

theorem m_saveState (I : mo_I M O hn h sv isS er ea n b l s rb) (hO : ow_Ok2 O) (q : mo_K M O hn h O true er ea n b l 0 (Qr (some (.int (nI (o_dy O)))))) : kz_C G (d + 1) 0 0 mX12_saveState [.ref 99] M Qr Qx := by
  have I0 := I.th' 0
  have C0 := I.cf 0
  have h9 : upd s 9 0 9 = nI 0 := rfl
  refine rX12_saveState_0 ⟨_, I.1, ow_l rfl, ?_⟩
  generalize kz_up M 99 (.inl (11, (mo_fs s rb).set 9 (.int 0))) = M0 at I0 C0 ⊢
  generalize upd s 9 0 = s0 at I0 h9
  obtain ⟨f, g, D, W⟩ := I0.D
  have hwk := hO.1.1.2.2.2.1
  have hnw := hO.1.1.2.2.1
  have hO1 := hO.1
  obtain ⟨F, H, hF, hH, hW⟩ := I0.2.2.2.2.1
  refine ⟨_, _, D.1, rfl, _, _, D.1, rfl, ?_⟩
  refine m_copies (a := 100) (b := 102) (x := 0) (y := 0) (n := 3813) D.2.1 hF (Or.inl (by omega)) (by omega) (by omega) (by omega) (by omega) fun M2 g2 t2 c2 => ⟨rfl, ?_⟩
  have x99 := (g2 99 (by omega)).trans D.1
  refine ⟨_, _, x99, rfl, _, _, x99, rfl, ?_⟩
  refine m_copiesW (a := 104) (b := 105) (x := 0) (y := 0) (n := 732) ((g2 104 (by omega)).trans D.2.2) ((g2 105 (by omega)).trans hH) (Or.inl (by omega)) (by omega) (by omega) (by omega) (by omega) fun M3 g3 t3 c3 => ⟨rfl, ?_⟩
  have x99' := (g3 99 (by omega)).trans x99
  refine ⟨_, x99', ow_l rfl, ?_⟩
  have S : ow_Sm (fun z => z = 99 ∨ z = 102 ∨ z = 105) M0 (kz_up M3 99 (.inl (11, (mo_fs s0 rb).set 8 (.int 1)))) := fun z hz => (kz_up_ne (by omega)).trans ((g3 z (by omega)).trans (g2 z (by omega)))
  have W3 : mo_W O (mo_cp f F 0 0 3813) (mo_cpL g H 0 0 732) 0 0 := W.cp hO1 (fun i hi => mo_cp_in hi) (fun i hi => mo_cpL_in hi)
  have J : mo_I (kz_up M3 99 (.inl (11, (mo_fs s0 rb).set 8 (.int 1)))) O hn h O true er ea n b l (upd s0 8 1) rb := by
    obtain ⟨i1, ⟨i2, i3, i4, i5, i6, i7⟩, A⟩ := I0
    exact ⟨kz_up_same _ _ _, ⟨i2, rfl, i4, i5, i6, i7⟩, A.sav S ⟨_, _, (kz_up_ne (by omega)).trans ((g3 102 (by omega)).trans c2), (kz_up_ne (by omega)).trans c3, fun _ => W3⟩⟩
  have D3 : mo_D (kz_up M3 99 (.inl (11, (mo_fs s0 rb).set 8 (.int 1)))) (upd s0 8 1) rb f g := ⟨kz_up_same _ _ _, (S 100 (by omega)).trans D.2.1, (S 104 (by omega)).trans D.2.2⟩
  refine ⟨_, _, D3.1, rfl, _, _, D3.2.1, mo_in2, ?_⟩
  rw [W.at2]
  exact q _ _ _ (C0.sm2 S (t3.trans t2) (fun z hz => by omega)) J h9

theorem m_restoreState (I : mo_I M O hn h sv isS er ea n b l s rb) (hO : ow_Ok2 O) (hs : isS = true → ow_Ok1 sv) (q0 : isS = false → mo_K M O hn h sv isS er ea n b l 1 (Qr (some (.int 0)))) (q1 : isS = true → ∀ h', mo_K M sv 0 h' sv isS er ea n b l 0 (Qr (some (.int (nI (o_dy sv)))))) (h' : Nat → ow_O) : kz_C G (d + 1) 0 0 mX12_restoreState [.ref 99] M Qr Qx := by
  have I0 := I.th' 0
  have C0 := I.cf 0
  have h9 : upd s 9 0 9 = nI 0 := rfl
  refine rX12_restoreState_0 ⟨_, I.1, ow_l rfl, ?_⟩
  generalize kz_up M 99 (.inl (11, (mo_fs s rb).set 9 (.int 0))) = M0 at I0 C0 ⊢
  generalize upd s 9 0 = s0 at I0 h9
  obtain ⟨f, g, D, W⟩ := I0.D
  have hwk := hO.1.1.2.2.2.1
  have hnw := hO.1.1.2.2.1
  have hO1 := hO.1
  obtain ⟨F, H, hF, hH, hW⟩ := I0.2.2.2.2.1
  refine ⟨_, _, D.1, rfl, ?_⟩
  rw [I0.2.1.2.1]
  refine ow_ifn (fun hi => ⟨D.ob, m_fails0 ⟨_, rfl, fun _ => ?_, fun z => absurd rfl z⟩⟩) (fun hi => ⟨D.ob, m_fails1 D.1 ⟨_, rfl, fun z => absurd z (by decide), fun _ => (q0 hi).fl C0 I0 rfl⟩⟩)
  refine ⟨_, _, D.1, rfl, _, _, D.1, rfl, ?_⟩
  refine m_copies (a := 102) (b := 100) (x := 0) (y := 0) (n := 3813) hF D.2.1 (Or.inl (by omega)) (by omega) (by omega) (by omega) (by omega) fun M2 g2 t2 c2 => ⟨rfl, ?_⟩
  have x99 := (g2 99 (by omega)).trans D.1
  refine ⟨_, _, x99, rfl, _, _, x99, rfl, ?_⟩
  refine m_copiesW (a := 105) (b := 104) (x := 0) (y := 0) (n := 732) ((g2 105 (by omega)).trans hH) ((g2 104 (by omega)).trans D.2.2) (Or.inl (by omega)) (by omega) (by omega) (by omega) (by omega) fun M3 g3 t3 c3 => ⟨rfl, ?_⟩
  have D3 : mo_D M3 s0 rb _ _ := ⟨(g3 99 (by omega)).trans x99, (g3 100 (by omega)).trans c2, c3⟩
  have W3 : mo_W sv (mo_cp F f 0 0 3813) (mo_cpL H g 0 0 732) 0 0 := (hW hi).cp (hs hi) (fun i hi => mo_cp_in hi) (fun i hi => mo_cpL_in hi)
  have S3 : ow_Sm (fun z => z = 100 ∨ z = 104) M0 M3 := fun z hz => (g3 z (by omega)).trans (g2 z (by omega))
  have J := (I0.now S3 D3 W3).hs 0 h' (Nat.zero_le _) (fun i hi => absurd hi (Nat.not_lt_zero i))
  have D4 : mo_D (kz_up M3 99 (.inl (11, (mo_fs s0 rb).set 7 (.int (nI 0))))) (upd s0 7 (nI 0)) rb (mo_cp F f 0 0 3813) (mo_cpL H g 0 0 732) := D3.up (s' := upd s0 7 (nI 0)) (rb' := rb)
  refine ⟨_, D3.1, ow_l rfl, _, _, D4.1, rfl, _, _, D4.2.1, mo_in2, ?_⟩
  rw [W3.at2]
  exact q1 hi h' _ _ _ ((C0.sm2 S3 (t3.trans t2) (fun z hz => by omega)).up (a := 99) (by omega) (by omega)) J h9

theorem m_truncateInput {x : Int32} (I : mo_I M O hn h sv isS er ea n b l s rb) (q0 : (∀ m, m ≤ n → x ≠ nI m) → mo_K M O hn h sv isS er ea n b l 0 (Qr (some (.int 0)))) (q1 : ∀ m, m ≤ n → x = nI m → mo_K M O hn h sv isS er ea m b l 0 (Qr (some (.int 1)))) : kz_C G (d + 1) 0 0 mX12_truncateInput [.ref 99, .int x] M Qr Qx := by
  have I0 := I.th' 0
  have C0 := I.cf 0
  have h9 : upd s 9 0 9 = nI 0 := rfl
  refine rX12_truncateInput_0 ⟨_, I.1, ow_l rfl, ?_⟩
  generalize kz_up M 99 (.inl (11, (mo_fs s rb).set 9 (.int 0))) = M0 at I0 C0 ⊢
  generalize upd s 9 0 = s0 at I0 h9
  obtain ⟨f, g, D, W⟩ := I0.D
  obtain ⟨hn6, hin⟩ := I0.inp
  refine ⟨_, _, D.1, rfl, ?_⟩
  rw [I0.2.1.2.2.1]
  refine m_in rfl ⟨_, rfl, ow_ifn (fun e => ?_) (fun e => (q0 fun m hm => mo_rgF (a := 0) (b := n) (by omega) e m (Nat.zero_le _) hm).go C0 I0 h9)⟩
  obtain ⟨m, -, hm, rfl⟩ := mo_rgT (a := 0) (b := n) (by omega) (by omega) e
  refine ⟨_, D.1, ow_l rfl, ?_⟩
  exact q1 m hm rfl _ _ _ (C0.up (a := 99) (by omega) (by omega)) (I0.n0 m hm) h9
theorem m_ap1 {k k' x : Int32} (I : mo_I M O hn h sv isS er ea n b l s rb) (hn6 : n < 600) (hk : ¬ k < 0) (ek : k &&& 31 = k) (ek' : k + (-8) = k') (q : ∀ M1 s1, mo_Cf M M1 → mo_I M1 O hn h sv isS er ea (n + 1) (fun i => if i = n then ow_by x k else b i) l s1 rb → s1 9 = s 9 → zX12_appendWord_3 G d Qr Qx 99 x k' M1) : zX12_appendWord_3 G d Qr Qx 99 x k M := by
  obtain ⟨-, f, c1, c2⟩ := I.inp
  obtain ⟨i1, ⟨i2, i3, i4, i5, i6, i7⟩, A⟩ := I
  refine rX12_appendWord_3 (ow_n hk ?_)
  rw [ek, ek', mo_by]
  refine ⟨_, _, i1, rfl, _, _, i1, rfl, ?_⟩
  rw [i4]
  refine ⟨_, _, c1, vp_in_nI (by omega) (by omega), _, _, (kz_up_ne (by omega)).trans i1, rfl, _, (kz_up_ne (by omega)).trans i1, ow_l rfl, fun M1 e1 => ?_⟩
  rw [i4, nI_1, nI_clamp (by omega)] at e1
  have S : ow_Sm (fun z => z = 99 ∨ z = 112) M M1 := fun z hz => by rw [e1, kz_up_ne (by omega), kz_up_ne (by omega)]
  refine q M1 (upd s 19 (nI (n + 1))) ((mo_Cf.refl M).sm2 S (by rw [e1]; rfl) (fun z hz => by omega)) ⟨by rw [e1]; exact kz_up_same _ _ _, ⟨i2, i3, rfl, i5, i6, i7⟩, A.inp S ⟨upd f n (nI (ow_by x k)), by rw [e1, kz_up_ne (by omega)]; exact kz_up_same _ _ _, by omega, fun i hi => ?_⟩⟩ rfl
  show (if i = n then nI (ow_by x k) else f i) = nI (if i = n then _ else _) ∧ (if i = n then _ else _) < 256
  by_cases hz : i = n
  · rw [if_pos hz, if_pos hz]
    exact ⟨rfl, Nat.mod_lt _ (by omega)⟩
  · rw [if_neg hz, if_neg hz]
    exact c2 i (by omega)
theorem m_appendWord {x : Int32} (I : mo_I M O hn h sv isS er ea n b l s rb) (hn6 : n + 4 ≤ 600) (q : ∀ M1 s1, mo_Cf M M1 → mo_I M1 O hn h sv isS er ea (n + 4) (ow_ap n b x) l s1 rb → s1 9 = s 9 → Qr none M1) : kz_C G d 0 0 mX12_appendWord [.ref 99, .int x] M Qr Qx := by
  refine rX12_appendWord_0 (m_ap1 (k' := 16) I (by omega) (by decide) (by decide) (by decide) fun M1 s1 C1 I1 e1 => m_ap1 (k' := 8) I1 (by omega) (by decide) (by decide) (by decide) fun M2 s2 C2 I2 e2 => m_ap1 (k' := 0) I2 (by omega) (by decide) (by decide) (by decide) fun M3 s3 C3 I3 e3 => m_ap1 (k' := -8) I3 (by omega) (by decide) (by decide) (by decide) fun M4 s4 C4 I4 e4 => rX12_appendWord_3 (ow_y (by decide) ?_))
  have eb : (fun i => if i = n + 1 + 1 + 1 then ow_by x 0 else if i = n + 1 + 1 then ow_by x 8 else if i = n + 1 then ow_by x 16 else if i = n then ow_by x 24 else b i) = ow_ap n b x := by
    funext i
    unfold ow_ap
    show (if i = n + 3 then ow_by x 0 else if i = n + 2 then ow_by x 8 else if i = n + 1 then ow_by x 16 else if i = n then ow_by x 24 else b i) = _
    by_cases i0 : i = n
    · rw [if_neg (show ¬ i = n + 3 by omega), if_neg (show ¬ i = n + 2 by omega), if_neg (show ¬ i = n + 1 by omega)]
      rw [if_pos i0, if_pos i0]
    by_cases i1 : i = n + 1
    · rw [if_neg (show ¬ i = n + 3 by omega), if_neg (show ¬ i = n + 2 by omega), if_pos i1, if_neg i0, if_pos i1]
    by_cases i2 : i = n + 2
    · rw [if_neg (show ¬ i = n + 3 by omega), if_pos i2, if_neg i0, if_neg i1, if_pos i2]
    by_cases i3 : i = n + 3
    · rw [if_pos i3, if_neg i0, if_neg i1, if_neg i2, if_pos i3]
    · rw [if_neg i3, if_neg i2, if_neg i1, if_neg i0, if_neg i0, if_neg i1, if_neg i2, if_neg i3]
  rw [eb] at I4
  exact q M4 s4 (((C1.trans C2).trans C3).trans C4) I4 (e4.trans (e3.trans (e2.trans e1)))
theorem m_appendInput {x1 x2 x3 x4 x5 : Int32} (I : mo_I M O hn h sv isS er ea n b l s rb) (q0 : 600 < n + 20 → mo_K M O hn h sv isS er ea n b l 0 (Qr (some (.int (-1))))) (q1 : n + 20 ≤ 600 → mo_K M O hn h sv isS er ea (n + 20) (sp_ap n b x1 x2 x3 x4 x5) l 0 (Qr (some (.int (nI (n + 20)))))) : kz_C G (d + 1) 0 0 mX12_appendInput [.ref 99, .int x1, .int x2, .int x3, .int x4, .int x5] M Qr Qx := by
  have I0 := I.th' 0
  have C0 := I.cf 0
  have h9 : upd s 9 0 9 = nI 0 := rfl
  refine rX12_appendInput_0 ⟨_, I.1, ow_l rfl, ?_⟩
  generalize kz_up M 99 (.inl (11, (mo_fs s rb).set 9 (.int 0))) = M0 at I0 C0 ⊢
  generalize upd s 9 0 = s0 at I0 h9
  obtain ⟨f, g, D, W⟩ := I0.D
  refine ⟨_, _, D.1, rfl, ?_⟩
  rw [I0.2.1.2.2.1]
  have hn6 := I0.inp.1
  refine pk_le (n + 20) 600 (fun hz => ⟨D.ob, m_appendWord I0 (by omega) fun M1 s1 C1 I1 e1 => ⟨rfl, I1.ob, m_appendWord I1 (by omega) fun M2 s2 C2 I2 e2 => ⟨rfl, I2.ob, m_appendWord I2 (by omega) fun M3 s3 C3 I3 e3 => ⟨rfl, I3.ob, m_appendWord I3 (by omega) fun M4 s4 C4 I4 e4 => ⟨rfl, I4.ob, m_appendWord I4 (by omega) fun M5 s5 C5 I5 e5 => ⟨rfl, _, _, I5.1, rfl, ?_⟩⟩⟩⟩⟩⟩) (fun hz => (q0 hz).go C0 I0 h9) (nI_add n 20) rfl
  rw [I5.2.1.2.2.1]
  exact q1 hz _ _ _ (((((C0.trans C1).trans C2).trans C3).trans C4).trans C5) I5 (e5.trans (e4.trans (e3.trans (e2.trans (e1.trans h9)))))
end MOA
