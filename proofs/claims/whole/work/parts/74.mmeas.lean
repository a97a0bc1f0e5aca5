/-! Part 74: the reference: what a measure would do; settings' values; can it be read? -/
theorem sp_val_nI {i : Nat} (hi : i < 10) (y : Int32) : sp_val (nI i) y = (!decide (y < kz_lo i) && !decide (kz_hi i < y)) := by
  cases h : (!decide (y < kz_lo i) && !decide (kz_hi i < y)) with
  | true => exact ow_ex_iff.mpr ⟨i, hi, by rw [decide_eq_true rfl, h]; rfl⟩
  | false =>
    refine ow_ex_f.mpr fun j hj => ?_
    by_cases hij : nI i = nI j
    · have : i = j := (nI_eq (by omega) (by omega)).mp hij
      subst this
      rw [h, Bool.and_false]
    · rw [decide_eq_false hij]; rfl
theorem mo_mn (n : Nat) (h : n < 2 ^ 31) : (if nI n < (500 : Int32) then nI n else 500) = nI (min n 500) := by
  by_cases hlt : n < 500
  · have hh : nI n < (500 : Int32) := nI_lt (b := 500) hlt (by omega)
    rw [if_pos hh, Nat.min_eq_left (by omega)]
  · have hh : ¬ nI n < (500 : Int32) := nI_nlt (b := 500) (by omega) h
    rw [if_neg hh, Nat.min_eq_right (by omega)]
    rfl
theorem sp_sub_eq {n : Nat} (h : n < 2 ^ 31) (y z : Int32) : sp_sub n y z = ((!decide (y < 0) && !decide (2 < y)) && (!decide (z < 0) && !decide (nI (min n 500) < z))) := by
  unfold sp_sub
  have e1 : decide (y ≤ 2) = !decide (2 < y) := by
    by_cases h1 : y ≤ 2
    · rw [decide_eq_true h1, decide_eq_false (Int32.not_lt.mpr h1)]; rfl
    · rw [decide_eq_false h1, decide_eq_true (Int32.not_le.mp h1)]; rfl
  have e2 : (!decide (500 < z) && decide (z ≤ nI n)) = !decide (nI (min n 500) < z) := by
    have t500 : (500 : Int32).toInt = 500 := by decide
    by_cases h1 : nI (min n 500) < z
    · rw [decide_eq_true h1]
      rw [Int32.lt_iff_toInt_lt, nI_toInt (by omega)] at h1
      by_cases h2 : (500 : Int32) < z
      · rw [decide_eq_true h2]; rfl
      · rw [decide_eq_false h2, decide_eq_false (p := z ≤ nI n)]
        · rfl
        · rw [Int32.le_iff_toInt_le, nI_toInt h]
          rw [Int32.lt_iff_toInt_lt] at h2
          omega
    · rw [decide_eq_false h1]
      rw [Int32.lt_iff_toInt_lt, nI_toInt (by omega)] at h1
      rw [decide_eq_false (p := (500 : Int32) < z), decide_eq_true (p := z ≤ nI n)]
      · rfl
      · rw [Int32.le_iff_toInt_le, nI_toInt h]
        omega
      · rw [Int32.lt_iff_toInt_lt]
        omega
  rw [e1, e2, Bool.and_assoc]
theorem mo_Cf.sm {M M0 M1 : kz_M} (C : mo_Cf M M0) (g : ow_Sm mo_inR M0 M1) (e : M1.2 = M0.2) : mo_Cf M M1 := ⟨fun k hk => (g k (by omega)).trans (C.1 k hk), e.trans C.2⟩
theorem mo_A.row {M M1 : kz_M} {O : ow_O} {hn : Nat} {h : Nat → ow_O} {sv : ow_O} {isS : Bool} {n : Nat} {b : Nat → Nat} {l : List Nat} (A : mo_A M O hn h sv isS n b l) (g : ow_Sm mo_inR M M1) (B : mo_rows M1) : mo_A M1 O hn h sv isS n b l := by
  obtain ⟨⟨f1, g1, a1, a2, a3⟩, ⟨f2, a4⟩, ⟨f3, g3, a5, a6, a7⟩, ⟨f4, g4, a8, a9, a10⟩, -, ⟨f10, c1, c2⟩, f11, c3, c4⟩ := A
  have u : ∀ k x, (99 < k ∧ k < 107) ∨ 111 < k → M.1 k = some x → M1.1 k = some x := fun k x hk hx => (g k (by omega)).trans hx
  exact ⟨⟨f1, g1, u _ _ (by omega) a1, u _ _ (by omega) a2, a3⟩, ⟨f2, u _ _ (by omega) a4⟩, ⟨f3, g3, u _ _ (by omega) a5, u _ _ (by omega) a6, a7⟩, ⟨f4, g4, u _ _ (by omega) a8, u _ _ (by omega) a9, a10⟩, B, ⟨f10, u _ _ (by omega) c1, c2⟩, f11, u _ _ (by omega) c3, c4⟩
section MOA
variable {G : kz_G} {d : Nat} {Qr : Option Value → kz_M → Prop} {Qx : String → kz_M → Prop} {M : kz_M} {O : ow_O} {s : Nat → Int32} {rb : Int64} {hn : Nat} {h : Nat → ow_O} {sv : ow_O} {isS : Bool} {er : Nat} {ea : Int32} {n : Nat} {b : Nat → Nat} {l : List Nat}
theorem mo_I.row {M1 : kz_M} {s1 : Nat → Int32} {rb1 : Int64} (I : mo_I M O hn h sv isS er ea n b l s rb) (g : ow_Sm mo_inR M M1) (h99 : M1.1 99 = some (.inl (11, mo_fs s1 rb1))) (hs : ∀ j, j ≠ 12 → j ≠ 13 → s1 j = s j) (A : mo_rows M1) : mo_I M1 O hn h sv isS er ea n b l s1 rb1 := by
  obtain ⟨i1, ⟨i2, i3, i4, i5, i6, i7⟩, i8⟩ := I
  exact ⟨h99, ⟨(hs 7 (by omega) (by omega)).trans i2, (hs 8 (by omega) (by omega)).trans i3, (hs 19 (by omega) (by omega)).trans i4, (hs 20 (by omega) (by omega)).trans i5, (hs 21 (by omega) (by omega)).trans i6, (hs 31 (by omega) (by omega)).trans i7⟩, i8.row g A⟩
theorem mo_I.rows (I : mo_I M O hn h sv isS er ea n b l s rb) : mo_rows M := I.2.2.2.2.2.2.1
theorem mo_K.goR {Q : kz_M → Prop} {c : Nat} {M0 M1 : kz_M} {s0 s1 : Nat → Int32} {rb1 : Int64} (q : mo_K M O hn h sv isS er ea n b l c Q) (C : mo_Cf M M0) (I : mo_I M0 O hn h sv isS er ea n b l s0 rb) (e : s0 9 = nI c) (g : ow_Sm mo_inR M0 M1) (e2 : M1.2 = M0.2) (h99 : M1.1 99 = some (.inl (11, mo_fs s1 rb1))) (hs : ∀ j, j ≠ 12 → j ≠ 13 → s1 j = s0 j) (A : mo_rows M1) : Q M1 := q _ _ _ (C.sm g e2) (I.row g h99 hs A) ((hs 9 (by omega) (by omega)).trans e)
theorem m_noMeasure {y : Int32} (h9 : M.1 99 = some (.inl (11, mo_fs s rb))) (q0 : sp_val 0 y = false → Qr (some (.int 1)) (kz_up M 99 (.inl (11, mo_fs (upd s 9 2) rb)))) (q1 : sp_val 0 y = true → Qr (some (.int 0)) M) : kz_C G (d + 1) 0 0 mX12_noMeasure [.ref 99, .int y] M Qr Qx :=
  rX12_noMeasure_0 (m_in (sp_val_nI (i := 0) (by omega) y) ⟨_, rfl, ow_ifn (fun e => ⟨⟨_, h9⟩, m_fails0 ⟨_, rfl, rfl, q1 e⟩⟩) (fun e => ⟨⟨_, h9⟩, m_fails1 h9 ⟨_, rfl, rfl, q0 e⟩⟩)⟩)
theorem m_mayBe {x y : Int32} (q : Qr (some (.int (ow_b (sp_val x y)))) M) : kz_C G (d + 1) 0 0 mX12_mayBe [.int x, .int y] M Qr Qx := by
  refine rX12_mayBe_0 (m_in (mo_rng (n := 10) (by omega)).symm ⟨_, rfl, (mo_if (by omega) (fun hx => ?_) (fun j hj e => ?_)).symm⟩)
  · rw [ow_bf (show sp_val x y = false from ow_ex_f.mpr fun i hi => by rw [decide_eq_false (hx i hi)]; rfl)] at q
    exact q
  · subst e
    have fin : ∀ a b : Int32, a = kz_lo j → b = kz_hi j → kz_C G d 0 0 mX12_inRange [.int y, .int a, .int b] M (fun v M10 => ∃ r11 : Int32, v = some (.int r11) ∧ ((r11 = 0 → Qr (some (.int 0)) M10) ∧ (¬ r11 = 0 → Qr (some (.int 1)) M10))) Qx := fun a b ha hb => by
      subst ha
      subst hb
      refine m_in (sp_val_nI hj y) ⟨_, rfl, ow_if0 (fun e => ?_) (fun e => ?_)⟩
      · rw [ow_bf e] at q; exact q
      · rw [ow_bt e] at q; exact q
    have ne : ∀ i k : Nat, i < 10 → k < 10 → i ≠ k → ¬ nI i = nI k := fun i k hi hk h z => h ((nI_eq (by omega) (by omega)).mp z)
    rcases (by omega : j = 0 ∨ j = 1 ∨ j = 2 ∨ j = 3 ∨ j = 4 ∨ j = 5 ∨ 6 ≤ j) with rfl | rfl | rfl | rfl | rfl | rfl | hj6
    · exact rX12_leastOf_0 ⟨fun _ => ⟨_, rfl, rX12_mostOf_0 ⟨fun _ => ⟨_, rfl, fin _ _ rfl rfl⟩, fun z => absurd z (ne 0 1 (by omega) (by omega) (by omega)), fun z => absurd z (ne 0 2 (by omega) (by omega) (by omega)), fun z => absurd z (ne 0 3 (by omega) (by omega) (by omega)), fun z => absurd z (ne 0 4 (by omega) (by omega) (by omega)), fun z => absurd z (ne 0 5 (by omega) (by omega) (by omega)), fun z => absurd rfl z⟩⟩, fun z => absurd z (ne 0 1 (by omega) (by omega) (by omega)), fun z => absurd z (ne 0 2 (by omega) (by omega) (by omega)), fun z => absurd z (ne 0 3 (by omega) (by omega) (by omega)), fun z => absurd z (ne 0 4 (by omega) (by omega) (by omega)), fun z => absurd z (ne 0 5 (by omega) (by omega) (by omega)), fun z => absurd rfl z⟩

    · exact rX12_leastOf_0 ⟨fun z => absurd z (ne 1 0 (by omega) (by omega) (by omega)), fun _ => ⟨_, rfl, rX12_mostOf_0 ⟨fun z => absurd z (ne 1 0 (by omega) (by omega) (by omega)), fun _ => ⟨_, rfl, fin _ _ rfl rfl⟩, fun z => absurd z (ne 1 2 (by omega) (by omega) (by omega)), fun z => absurd z (ne 1 3 (by omega) (by omega) (by omega)), fun z => absurd z (ne 1 4 (by omega) (by omega) (by omega)), fun z => absurd z (ne 1 5 (by omega) (by omega) (by omega)), fun _ z _ _ _ _ => absurd rfl z⟩⟩, fun z => absurd z (ne 1 2 (by omega) (by omega) (by omega)), fun z => absurd z (ne 1 3 (by omega) (by omega) (by omega)), fun z => absurd z (ne 1 4 (by omega) (by omega) (by omega)), fun z => absurd z (ne 1 5 (by omega) (by omega) (by omega)), fun _ z _ _ _ _ => absurd rfl z⟩
    · exact rX12_leastOf_0 ⟨fun z => absurd z (ne 2 0 (by omega) (by omega) (by omega)), fun z => absurd z (ne 2 1 (by omega) (by omega) (by omega)), fun _ => ⟨_, rfl, rX12_mostOf_0 ⟨fun z => absurd z (ne 2 0 (by omega) (by omega) (by omega)), fun z => absurd z (ne 2 1 (by omega) (by omega) (by omega)), fun _ => ⟨_, rfl, fin _ _ rfl rfl⟩, fun z => absurd z (ne 2 3 (by omega) (by omega) (by omega)), fun z => absurd z (ne 2 4 (by omega) (by omega) (by omega)), fun z => absurd z (ne 2 5 (by omega) (by omega) (by omega)), fun _ _ z _ _ _ => absurd rfl z⟩⟩, fun z => absurd z (ne 2 3 (by omega) (by omega) (by omega)), fun z => absurd z (ne 2 4 (by omega) (by omega) (by omega)), fun z => absurd z (ne 2 5 (by omega) (by omega) (by omega)), fun _ _ z _ _ _ => absurd rfl z⟩
    · exact rX12_leastOf_0 ⟨fun z => absurd z (ne 3 0 (by omega) (by omega) (by omega)), fun z => absurd z (ne 3 1 (by omega) (by omega) (by omega)), fun z => absurd z (ne 3 2 (by omega) (by omega) (by omega)), fun _ => ⟨_, rfl, rX12_mostOf_0 ⟨fun z => absurd z (ne 3 0 (by omega) (by omega) (by omega)), fun z => absurd z (ne 3 1 (by omega) (by omega) (by omega)), fun z => absurd z (ne 3 2 (by omega) (by omega) (by omega)), fun _ => ⟨_, rfl, fin _ _ rfl rfl⟩, fun z => absurd z (ne 3 4 (by omega) (by omega) (by omega)), fun z => absurd z (ne 3 5 (by omega) (by omega) (by omega)), fun _ _ _ z _ _ => absurd rfl z⟩⟩, fun z => absurd z (ne 3 4 (by omega) (by omega) (by omega)), fun z => absurd z (ne 3 5 (by omega) (by omega) (by omega)), fun _ _ _ z _ _ => absurd rfl z⟩
    · exact rX12_leastOf_0 ⟨fun z => absurd z (ne 4 0 (by omega) (by omega) (by omega)), fun z => absurd z (ne 4 1 (by omega) (by omega) (by omega)), fun z => absurd z (ne 4 2 (by omega) (by omega) (by omega)), fun z => absurd z (ne 4 3 (by omega) (by omega) (by omega)), fun _ => ⟨_, rfl, rX12_mostOf_0 ⟨fun z => absurd z (ne 4 0 (by omega) (by omega) (by omega)), fun z => absurd z (ne 4 1 (by omega) (by omega) (by omega)), fun z => absurd z (ne 4 2 (by omega) (by omega) (by omega)), fun z => absurd z (ne 4 3 (by omega) (by omega) (by omega)), fun _ => ⟨_, rfl, fin _ _ rfl rfl⟩, fun z => absurd z (ne 4 5 (by omega) (by omega) (by omega)), fun _ _ _ _ z _ => absurd rfl z⟩⟩, fun z => absurd z (ne 4 5 (by omega) (by omega) (by omega)), fun _ _ _ _ z _ => absurd rfl z⟩
    · exact rX12_leastOf_0 ⟨fun z => absurd z (ne 5 0 (by omega) (by omega) (by omega)), fun z => absurd z (ne 5 1 (by omega) (by omega) (by omega)), fun z => absurd z (ne 5 2 (by omega) (by omega) (by omega)), fun z => absurd z (ne 5 3 (by omega) (by omega) (by omega)), fun z => absurd z (ne 5 4 (by omega) (by omega) (by omega)), fun _ => ⟨_, rfl, rX12_mostOf_0 ⟨fun z => absurd z (ne 5 0 (by omega) (by omega) (by omega)), fun z => absurd z (ne 5 1 (by omega) (by omega) (by omega)), fun z => absurd z (ne 5 2 (by omega) (by omega) (by omega)), fun z => absurd z (ne 5 3 (by omega) (by omega) (by omega)), fun z => absurd z (ne 5 4 (by omega) (by omega) (by omega)), fun _ => ⟨_, rfl, fin _ _ rfl rfl⟩, fun _ _ _ _ _ z  => absurd rfl z⟩⟩, fun _ _ _ _ _ z  => absurd rfl z⟩
    · have e1 : kz_lo j = 0 := by
        rcases (by omega : j = 6 ∨ j = 7 ∨ j = 8 ∨ j = 9) with rfl | rfl | rfl | rfl <;> rfl
      have e2 : kz_hi j = 99 := by
        rcases (by omega : j = 6 ∨ j = 7 ∨ j = 8 ∨ j = 9) with rfl | rfl | rfl | rfl <;> rfl
      exact rX12_leastOf_0 ⟨fun z => absurd z (ne j 0 (by omega) (by omega) (by omega)), fun z => absurd z (ne j 1 (by omega) (by omega) (by omega)), fun z => absurd z (ne j 2 (by omega) (by omega) (by omega)), fun z => absurd z (ne j 3 (by omega) (by omega) (by omega)), fun z => absurd z (ne j 4 (by omega) (by omega) (by omega)), fun z => absurd z (ne j 5 (by omega) (by omega) (by omega)), fun _ _ _ _ _ _ => ⟨_, rfl, rX12_mostOf_0 ⟨fun z => absurd z (ne j 0 (by omega) (by omega) (by omega)), fun z => absurd z (ne j 1 (by omega) (by omega) (by omega)), fun z => absurd z (ne j 2 (by omega) (by omega) (by omega)), fun z => absurd z (ne j 3 (by omega) (by omega) (by omega)), fun z => absurd z (ne j 4 (by omega) (by omega) (by omega)), fun z => absurd z (ne j 5 (by omega) (by omega) (by omega)), fun _ _ _ _ _ _ => ⟨_, rfl, fin _ _ e1.symm e2.symm⟩⟩⟩⟩
theorem m_sets {k : Nat} {x : Int32} {f : Nat → Int32} {g : Nat → Int64} (D : mo_D M s rb f g) (hk : k < 10) (q : ∀ M1, ow_Sm (· = 100) M M1 → M1.2 = M.2 → mo_D M1 s rb (upd f (5 + k) x) g → Qr none M1) : kz_C G d 0 0 mX12_sets [.ref 99, .int (nI k), .int x] M Qr Qx := by
  refine rX12_sets_0 ⟨_, _, D.1, rfl, _, _, D.2.1, ?_⟩
  rw [show (5 : Int32) + nI k = nI (5 + k) from nI_add 5 k, nI_clamp (by omega)]
  exact ⟨vp_in_nI (by omega) (by omega), q _ (fun z hz => kz_up_ne hz) rfl ⟨(kz_up_ne (by omega)).trans D.1, kz_up_same _ _ _, (kz_up_ne (by omega)).trans D.2.2⟩⟩
theorem m_noReading {x y z : Int32} {f : Nat → Int32} {g : Nat → Int64} (I : mo_I M O hn h sv isS er ea n b l s rb) (D : mo_D M s rb f g) (W : mo_W O f g 0 0) (hO : ow_Ok1 O) (q0 : (∀ j, j < o_nw O → x ≠ nI j) → Qr (some (.int 1)) (kz_up M 99 (.inl (11, mo_fs (upd s 9 1) rb)))) (q1 : ∀ j, j < o_nw O → x = nI j → sp_sub n y z = false → Qr (some (.int 1)) (kz_up M 99 (.inl (11, mo_fs (upd s 9 2) rb)))) (q2 : ∀ j, j < o_nw O → x = nI j → sp_sub n y z = true → Qr (some (.int 0)) M) : kz_C G (d + 2) 0 0 mX12_noReading [.ref 99, .int x, .int y, .int z] M Qr Qx := by
  have hn6 : n ≤ 600 := I.2.2.2.2.2.2.2.1.choose_spec.2.1
  refine rX12_noReading_0 ⟨D.ob, m_noWriter D W hO (fun hx => ⟨_, rfl, fun _ => q0 hx, fun z => absurd z (by decide)⟩) fun j hj e => ⟨_, rfl, fun z => absurd rfl z, fun _ => m_in rfl ⟨_, rfl, ow_if0 (fun h1 => ⟨D.ob, m_fails1 D.1 ⟨_, rfl, fun z => absurd z (by decide), fun _ => q1 j hj e ?_⟩⟩) (fun h1 => ⟨_, _, D.1, rfl, ?_⟩)⟩⟩⟩
  · rw [sp_sub_eq (by omega), h1]; rfl
  · rw [I.2.1.2.2.1, mo_mn n (by omega)]
    refine m_in rfl ⟨_, rfl, ow_ifn (fun h2 => ⟨D.ob, m_fails0 ⟨_, rfl, fun _ => q2 j hj e ?_, fun z => absurd rfl z⟩⟩) (fun h2 => ⟨D.ob, m_fails1 D.1 ⟨_, rfl, fun z => absurd z (by decide), fun _ => q1 j hj e ?_⟩⟩)⟩
    · rw [sp_sub_eq (by omega), h1, h2]; rfl
    · rw [sp_sub_eq (by omega), h1, h2]; rfl
theorem m_linesIf {x y : Int32} (I : mo_I M O hn h sv isS er ea n b l s rb) (hO : ow_Ok2 O) (q0 : (∀ j, j < o_wk O → x ≠ nI j) → mo_K M O hn h sv isS er ea n b l 1 (Qr (some (.int 0)))) (q1 : ∀ j, j < o_wk O → x = nI j → sp_val 0 y = false → mo_K M O hn h sv isS er ea n b l 2 (Qr (some (.int 0)))) (q2 : ∀ j m, j < o_wk O → x = nI j → y = nI m → 6 ≤ m → m ≤ 30 → sp_val 0 y = true → mo_K M O hn h sv isS er ea n b l 0 (Qr (some (.int (nI (ow_nl (o_ws O j).2.2.1 m)))))) : kz_C G (d + 3) 0 0 mX12_linesIf [.ref 99, .int x, .int y] M Qr Qx := by
  have I0 := I.th' 0
  have C0 := I.cf 0
  have h9 : upd s 9 0 9 = nI 0 := rfl
  refine rX12_linesIf_0 ⟨_, I.1, ow_l rfl, ?_⟩
  generalize kz_up M 99 (.inl (11, (mo_fs s rb).set 9 (.int 0))) = M0 at I0 C0 ⊢
  generalize upd s 9 0 = s0 at I0 h9
  obtain ⟨f, g, D, W⟩ := I0.D
  have hwk := hO.1.1.2.2.2.1
  have hnw := hO.1.1.2.2.1
  have ix : ∀ a j : Nat, (OfNat.ofNat a : Int32) + nI j = nI (a + j) := fun a j => nI_add a j
  refine ⟨D.ob, m_noWork D W hO.1 (fun hx => ⟨_, rfl, fun _ => (q0 hx).fl C0 I0 rfl, fun z => absurd z (by decide)⟩) fun j hj e => ⟨_, rfl, fun z => absurd rfl z, fun _ => ?_⟩⟩
  have Q1 := q1 j hj e
  refine ⟨D.ob, m_noMeasure D.1 (fun hv => ⟨_, rfl, fun z => absurd z (by decide), fun _ => (Q1 hv).fl C0 I0 rfl⟩) fun hv => ⟨_, rfl, fun _ => ?_, fun z => absurd rfl z⟩⟩
  obtain ⟨m, rfl, h1, h2⟩ := sp_val_me (j := 0) (by omega) hv
  have h1 : 6 ≤ m := h1
  have h2 : m ≤ 30 := h2
  have Q2 := q2 j m hj e rfl h1 h2 hv
  subst e
  have hS := (hO.1.2.2.2 j hj).1
  refine ⟨D.ob, m_takes D W hO.1 hj I0.rows fun M1 s1 rb1 g1 t1 e1 D1 R1 A1 => ⟨rfl, D1.ob, m_of (k := 1) D1 (by omega) (by omega) (W.ww hj).2.1 ⟨_, rfl, D1.ob, m_makes D1 W hO.1 hS R1 A1 (by omega) fun M2 s2 g2 t2 e2 R2 L2 => ⟨rfl, ?_⟩⟩⟩⟩
  refine ⟨_, _, L2.1, rfl, ?_⟩
  rw [L2.2.1]
  exact Q2.goR C0 I0 h9 (g1.trans g2) (t2.trans t1) L2.1 (fun j h12 h13 => (e2 j h13).trans (e1 j h12)) (L2.rows R2)

theorem m_payIf {x y : Int32} (I : mo_I M O hn h sv isS er ea n b l s rb) (hO : ow_Ok2 O) (q0 : (∀ j, j < o_wk O → x ≠ nI j) → mo_K M O hn h sv isS er ea n b l 1 (Qr (some (.int 0)))) (q1 : ∀ j, j < o_wk O → x = nI j → sp_val 0 y = false → mo_K M O hn h sv isS er ea n b l 2 (Qr (some (.int 0)))) (q2 : ∀ j m, j < o_wk O → x = nI j → y = nI m → 6 ≤ m → m ≤ 30 → sp_val 0 y = true → mo_K M O hn h sv isS er ea n b l 0 (Qr (some (.int (sp_pay O (o_ws O j).2.2.1 m))))) : kz_C G (d + 3) 0 0 mX12_payIf [.ref 99, .int x, .int y] M Qr Qx := by
  have I0 := I.th' 0
  have C0 := I.cf 0
  have h9 : upd s 9 0 9 = nI 0 := rfl
  refine rX12_payIf_0 ⟨_, I.1, ow_l rfl, ?_⟩
  generalize kz_up M 99 (.inl (11, (mo_fs s rb).set 9 (.int 0))) = M0 at I0 C0 ⊢
  generalize upd s 9 0 = s0 at I0 h9
  obtain ⟨f, g, D, W⟩ := I0.D
  have hwk := hO.1.1.2.2.2.1
  have hnw := hO.1.1.2.2.1
  have ix : ∀ a j : Nat, (OfNat.ofNat a : Int32) + nI j = nI (a + j) := fun a j => nI_add a j
  refine ⟨D.ob, m_noWork D W hO.1 (fun hx => ⟨_, rfl, fun _ => (q0 hx).fl C0 I0 rfl, fun z => absurd z (by decide)⟩) fun j hj e => ⟨_, rfl, fun z => absurd rfl z, fun _ => ?_⟩⟩
  have Q1 := q1 j hj e
  refine ⟨D.ob, m_noMeasure D.1 (fun hv => ⟨_, rfl, fun z => absurd z (by decide), fun _ => (Q1 hv).fl C0 I0 rfl⟩) fun hv => ⟨_, rfl, fun _ => ?_, fun z => absurd rfl z⟩⟩
  obtain ⟨m, rfl, h1, h2⟩ := sp_val_me (j := 0) (by omega) hv
  have h1 : 6 ≤ m := h1
  have h2 : m ≤ 30 := h2
  have Q2 := q2 j m hj e rfl h1 h2 hv
  subst e
  have hS := (hO.1.2.2.2 j hj).1
  refine ⟨D.ob, m_takes D W hO.1 hj I0.rows fun M1 s1 rb1 g1 t1 e1 D1 R1 A1 => ⟨rfl, D1.ob, m_of (k := 1) D1 (by omega) (by omega) (W.ww hj).2.1 ⟨_, rfl, D1.ob, m_makes D1 W hO.1 hS R1 A1 (by omega) fun M2 s2 g2 t2 e2 R2 L2 => ⟨rfl, ?_⟩⟩⟩⟩
  refine ⟨⟨_, L2.1⟩, m_paidByAll L2 ⟨_, rfl, ?_⟩⟩
  rw [← ow_pb_sm]
  exact Q2.goR C0 I0 h9 (g1.trans g2) (t2.trans t1) L2.1 (fun j h12 h13 => (e2 j h13).trans (e1 j h12)) (L2.rows R2)

theorem ow_pf_le {w me r : Nat} (hr : r ≤ 99) : ∃ p, p ≤ 99 ∧ ow_pf w me (nI r) = nI p := by
  unfold ow_pf
  split
  · exact ⟨r / 2, by omega, pk_div (d := 2) (by omega) (by omega) (by omega)⟩
  · exact ⟨r, hr, rfl⟩
theorem ow_sm_nat {F : Nat → Int32} {c : Nat} : ∀ n, (∀ i, i < n → ∃ p, p ≤ c ∧ F i = nI p) → ∃ p, p ≤ c * n ∧ ow_sm F n = nI p
  | 0, _ => ⟨0, Nat.zero_le _, rfl⟩
  | n + 1, h => by
    obtain ⟨p, h1, h2⟩ := ow_sm_nat n fun i hi => h i (by omega)
    obtain ⟨q, h3, h4⟩ := h n (by omega)
    refine ⟨p + q, ?_, ?_⟩
    · rw [Nat.mul_succ]; omega
    · rw [ow_sm, h2, h4, nI_add]
theorem sp_pay_nat {S : ow_S} {me : Nat} (hO : ow_Ok1 O) (hS : ow_Sok S) : ∃ p, p ≤ 5940 ∧ sp_pay O S me = nI p := by
  unfold sp_pay
  rw [ow_pb_sm]
  have h60 := Nat.le_trans (ow_nl_le S me) hS.2.2.1
  have hk := hS.1
  obtain ⟨p, h1, h2⟩ := ow_sm_nat (F := fun i => (ow_l0 S me (nI (o_ru O (7 + S.1))) i).2.2.2.1) (c := 99) (ow_nl S me) fun i _ => ow_pf_le (hO.2.1 _ (by omega))
  have : 99 * ow_nl S me ≤ 99 * 60 := Nat.mul_le_mul_left 99 h60
  exact ⟨p, by omega, h2⟩
theorem m_bestMeasure {x : Int32} (I : mo_I M O hn h sv isS er ea n b l s rb) (hO : ow_Ok2 O) (q0 : (∀ j, j < o_wk O → x ≠ nI j) → mo_K M O hn h sv isS er ea n b l 1 (Qr (some (.int 0)))) (q1 : ∀ j, j < o_wk O → x = nI j → mo_K M O hn h sv isS er ea n b l 0 (Qr (some (.int (nI (sp_bm O (o_ws O j).2.2.1 24).1))))) : kz_C G (d + 3) 0 0 mX12_bestMeasure [.ref 99, .int x] M Qr Qx := by
  have I0 := I.th' 0
  have C0 := I.cf 0
  have h9 : upd s 9 0 9 = nI 0 := rfl
  refine rX12_bestMeasure_0 ⟨_, I.1, ow_l rfl, ?_⟩
  generalize kz_up M 99 (.inl (11, (mo_fs s rb).set 9 (.int 0))) = M0 at I0 C0 ⊢
  generalize upd s 9 0 = s0 at I0 h9
  obtain ⟨f, g, D, W⟩ := I0.D
  have hwk := hO.1.1.2.2.2.1
  have hnw := hO.1.1.2.2.1
  have ix : ∀ a j : Nat, (OfNat.ofNat a : Int32) + nI j = nI (a + j) := fun a j => nI_add a j
  refine ⟨D.ob, m_noWork D W hO.1 (fun hx => ⟨_, rfl, fun z => absurd z (by decide), fun _ => (q0 hx).fl C0 I0 rfl⟩) fun j hj e => ⟨_, rfl, fun _ => ?_, fun z => absurd rfl z⟩⟩
  have Q1 := q1 j hj e
  subst e
  have hS := (hO.1.2.2.2 j hj).1
  refine ⟨D.ob, m_takes D W hO.1 hj I0.rows fun M1 s1 rb1 g1 t1 e1 D1 R1 A1 => ⟨rfl, ?_⟩⟩
  have step : ∀ k M2 s2 (x2 x3 : Int32), k ≤ 24 → ow_Sm mo_inR M1 M2 → M2.2 = M1.2 → (∀ j, j ≠ 13 → s2 j = s1 j) → mo_D M2 s2 rb1 f g → mo_row M2 (o_ws O j).2.2.1 s2 rb1 → mo_rows M2 → (∀ M3 s3, ow_Sm mo_inR M1 M3 → M3.2 = M1.2 → (∀ j, j ≠ 13 → s3 j = s1 j) → mo_D M3 s3 rb1 f g → mo_row M3 (o_ws O j).2.2.1 s3 rb1 → mo_rows M3 → zX12_bestMeasure_28 G d Qr Qx 99 (nI j) (if x3 < sp_pay O (o_ws O j).2.2.1 (6 + k) then nI (6 + k) else x2) (if x3 < sp_pay O (o_ws O j).2.2.1 (6 + k) then sp_pay O (o_ws O j).2.2.1 (6 + k) else x3) (nI (6 + (k + 1))) M3) → zX12_bestMeasure_28 G d Qr Qx 99 (nI j) x2 x3 (nI (6 + k)) M2 := by
    intro k M2 s2 x2 x3 hk g2 t2 e2 D2 R2 A2 nx
    have h30 : ¬ (30 : Int32) < nI (6 + k) := nI_nlt (a := 30) (by omega) (by omega)
    refine rX12_bestMeasure_28 (ow_n h30 ⟨D2.ob, m_of (k := 1) D2 (by omega) (by omega) (W.ww hj).2.1 ⟨_, rfl, D2.ob, m_makes D2 W hO.1 hS R2 A2 (by omega) fun M3 s3 g3 t3 e3 R3 L3 => ⟨rfl, ⟨_, L3.1⟩, m_paidByAll L3 ⟨_, rfl, ?_⟩⟩⟩⟩)
    have D3 : mo_D M3 s3 rb1 f g := ⟨L3.1, (g3 100 (by omega)).trans D2.2.1, (g3 104 (by omega)).trans D2.2.2⟩
    have nx3 := nx M3 s3 (g2.trans g3) (t3.trans t2) (fun j h13 => (e3 j h13).trans (e2 j h13)) D3 R3 (L3.rows R3)
    rw [← ow_pb_sm]
    refine ⟨fun hlt => ⟨D3.ob, m_paidByAll L3 ⟨_, rfl, ?_⟩⟩, fun hlt => ?_⟩
    · rw [← ow_pb_sm, nI_1]
      have hl2 : x3 < sp_pay O (o_ws O j).2.2.1 (6 + k) := hlt
      rw [if_pos hl2, if_pos hl2] at nx3
      exact nx3
    · rw [nI_1]
      have hl2 : ¬ x3 < sp_pay O (o_ws O j).2.2.1 (6 + k) := hlt
      rw [if_neg hl2, if_neg hl2] at nx3
      exact nx3
  have key : ∀ k, k ≤ 24 → ∀ M2 s2, ow_Sm mo_inR M1 M2 → M2.2 = M1.2 → (∀ j, j ≠ 13 → s2 j = s1 j) → mo_D M2 s2 rb1 f g → mo_row M2 (o_ws O j).2.2.1 s2 rb1 → mo_rows M2 → zX12_bestMeasure_28 G d Qr Qx 99 (nI j) (nI (sp_bm O (o_ws O j).2.2.1 k).1) (sp_bm O (o_ws O j).2.2.1 k).2 (nI (6 + (k + 1))) M2 := by
    refine ow_loop 24 ?_ ?_
    · intro M2 s2 g2 t2 e2 D2 R2 A2
      have h30 : (30 : Int32) < nI (6 + (24 + 1)) := by decide
      exact rX12_bestMeasure_28 (ow_y h30 (Q1.goR C0 I0 h9 (g1.trans g2) (t2.trans t1) D2.1 (fun j h12 h13 => (e2 j h13).trans (e1 j h12)) A2))
    · intro k hk ih M2 s2 g2 t2 e2 D2 R2 A2
      refine step (k + 1) M2 s2 _ _ (by omega) g2 t2 e2 D2 R2 A2 fun M3 s3 g3 t3 e3 D3 R3 A3 => ?_
      have ih3 := ih M3 s3 g3 t3 e3 D3 R3 A3
      rw [sp_bm] at ih3
      have e7 : 6 + (k + 1) = 7 + k := by omega
      rw [e7]
      by_cases hle : sp_pay O (o_ws O j).2.2.1 (7 + k) ≤ (sp_bm O (o_ws O j).2.2.1 k).2
      · rw [if_pos hle] at ih3
        rw [if_neg (Int32.not_lt.mpr hle), if_neg (Int32.not_lt.mpr hle)]
        exact ih3
      · rw [if_neg hle] at ih3
        rw [if_pos (Int32.not_le.mp hle), if_pos (Int32.not_le.mp hle)]
        exact ih3
  refine step 0 M1 s1 (-1) (-1) (by omega) (fun _ _ => rfl) rfl (fun _ _ => rfl) D1 R1 A1 fun M3 s3 g3 t3 e3 D3 R3 A3 => ?_
  obtain ⟨p, p1, p2⟩ := sp_pay_nat (me := 6) hO.1 hS
  have hlt : (-1 : Int32) < sp_pay O (o_ws O j).2.2.1 (6 + 0) := by
    rw [show (6 + 0 : Nat) = 6 from rfl, p2, Int32.lt_iff_toInt_lt, nI_toInt (by omega)]
    have : ((-1 : Int32)).toInt = -1 := by decide
    omega
  rw [if_pos hlt, if_pos hlt]
  exact key 0 (Nat.zero_le _) M3 s3 g3 t3 e3 D3 R3 A3

end MOA
