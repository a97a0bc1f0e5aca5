/-! Part 87: the reference prints -/
theorem ow_ln_pos {c : Nat} (h : 0 < c) : 0 < ow_ln c := by
  show 0 < ow_lnF 12 c
  unfold ow_lnF
  rw [if_neg (by omega)]
  omega
theorem sp_sep_0 {l : List Nat} (h : l.length = 0) : sp_sep l = l := by
  unfold sp_sep
  rw [if_pos h, List.append_nil]
theorem sp_sep_1 {l : List Nat} (h : l.length ≠ 0) : sp_sep l = l ++ [32] := by
  unfold sp_sep
  rw [if_neg h]
section MOA
variable {G : kz_G} {d : Nat} {Qr : Option Value → kz_M → Prop} {Qx : String → kz_M → Prop} {M : kz_M} {O : ow_O} {s : Nat → Int32} {rb : Int64} {hn : Nat} {h : Nat → ow_O} {sv : ow_O} {isS : Bool} {er : Nat} {ea : Int32} {n : Nat} {b : Nat → Nat} {l : List Nat} {f : Nat → Int32} {g : Nat → Int64}
theorem mo_I.o0 (I : mo_I M O hn h sv isS er ea n b (l) s rb) : mo_I (kz_up M 99 (.inl (11, (mo_fs s rb).set 31 (.int 0)))) O hn h sv isS er ea n b [] (upd s 31 0) rb := by
  obtain ⟨i1, ⟨i2, i3, i4, i5, i6, i7⟩, A⟩ := I
  have A0 := A
  obtain ⟨-, -, -, -, -, -, f11, c3, c4, c5⟩ := A0
  exact ⟨kz_up_same _ _ _, ⟨i2, i3, i4, i5, i6, rfl⟩, A.out (fun z hz => kz_up_ne (by omega)) ⟨f11, (kz_up_ne (by omega)).trans c3, Nat.zero_le _, fun i hi => absurd hi (Nat.not_lt_zero i)⟩⟩
theorem m_printLine {x y : Int32} (I : mo_I M O hn h sv isS er ea n b l s rb) (hO : ow_Ok2 O) (q0 : (∀ j k, j < o_wk O → k < (o_ws O j).2.2.2.1 → x = nI j → y = nI k → False) → mo_K M O hn h sv isS er ea n b l 1 (Qr (some (.int 0)))) (q1 : ∀ j k, j < o_wk O → x = nI j → k < (o_ws O j).2.2.2.1 → y = nI k → mo_K M O hn h sv isS er ea n b (sp_pl (o_ws O j) k) 0 (Qr (some (.int (nI (sp_pl (o_ws O j) k).length))))) : kz_C G (d + 3) 0 0 mX12_printLine [.ref 99, .int x, .int y] M Qr Qx := by
  have I0 := I.th' 0
  have C0 := I.cf 0
  have h9 : upd s 9 0 9 = nI 0 := rfl
  refine rX12_printLine_0 ⟨_, I.1, ow_l rfl, ?_⟩
  generalize kz_up M 99 (.inl (11, (mo_fs s rb).set 9 (.int 0))) = M0 at I0 C0 ⊢
  generalize upd s 9 0 = s0 at I0 h9
  obtain ⟨f, g, D, W⟩ := I0.D
  have hwk := hO.1.1.2.2.2.1
  have hnw := hO.1.1.2.2.1
  have hO1 := hO.1
  refine ⟨D.ob, m_noLine D W hO1 (fun hx => ⟨_, rfl, fun z => absurd z (by decide), fun _ => (q0 hx).fl C0 I0 rfl⟩) fun j k hj e hk ek => ⟨_, rfl, fun _ => ⟨_, D.1, ow_l rfl, ?_⟩, fun z => absurd rfl z⟩⟩
  have Q1 := q1 j k hj e hk ek
  subst e
  subst ek
  have hW := hO1.2.2.2 j hj
  have hn60 := hW.1.2.2.1
  have hm60 := hW.2.1
  have hL := hW.2.2.2.2 k hk
  have hL2 := hL.2.1
  obtain ⟨⟨h1, h2, h3⟩, -⟩ := (hO.2.2.2 j hj).2 k hk
  have J := I0.o0
  have C1 := C0.up (a := 99) (e := .inl (11, (mo_fs s0 rb).set 31 (.int 0))) (by omega) (by omega)
  have key : ∀ i, i ≤ ((o_ws O j).2.2.2.2 k).2.1 - ((o_ws O j).2.2.2.2 k).1 → ∀ M1 s1, mo_Cf M M1 → mo_I M1 O hn h sv isS er ea n b (ow_pl (o_ws O j).2.2.1.2.2.1 ((o_ws O j).2.2.2.2 k).1 i) s1 rb → s1 9 = nI 0 → zX12_printLine_23 G d Qr Qx 99 (nI j) (nI k) (nI i) M1 := by
    refine ow_loop (((o_ws O j).2.2.2.2 k).2.1 - ((o_ws O j).2.2.2.2 k).1) ?_ ?_
    · intro M1 s1 C1 I1 e1
      obtain ⟨f1, g1, D1, W1⟩ := I1.D
      refine rX12_printLine_23 ⟨I1.ob, m_ofL (k := 1) D1 (by omega) (by omega) (by omega) (W1.ln hj hk).2.1 ⟨_, rfl, ow_y (nI_le (Nat.le_refl _) (by omega)) ⟨_, _, I1.1, rfl, ?_⟩⟩⟩
      rw [I1.2.1.2.2.2.2.2]
      exact Q1.go C1 I1 e1
    · intro i hi ih M1 s1 C1 I1 e1
      obtain ⟨f1, g1, D1, W1⟩ := I1.D
      have len := ow_pl_len (o_ws O j).2.2.1.2.2.1 ((o_ws O j).2.2.2.2 k).1 i
      have mono := ow_lt_mono (o_ws O j).2.2.1.2.2.1 ((o_ws O j).2.2.2.2 k).1 (show ((o_ws O j).2.2.2.2 k).1 + i ≤ ((o_ws O j).2.2.2.2 k).2.1 by omega)
      unfold ow_wd at h2
      obtain ⟨c, c1, c2, c3⟩ := hW.1.2.2.2 (((o_ws O j).2.2.2.2 k).1 + i) (by omega)
      have c4 : ow_cd ((o_ws O j).2.2.1.2.2.1 (((o_ws O j).2.2.2.2 k).1 + i)) = c := by rw [c3]; exact ow_tn c2
      have c5 : ow_lw ((o_ws O j).2.2.1.2.2.1 (((o_ws O j).2.2.2.2 k).1 + i)) = ow_ln c := by unfold ow_lw; rw [c3, ow_tn c2]
      have hc12 := ow_ln_le c
      refine rX12_printLine_23 ⟨I1.ob, m_ofL (k := 1) D1 (by omega) (by omega) (by omega) (W1.ln hj hk).2.1 ⟨_, rfl, ow_n (nI_ge hi (by omega)) (pk_le i 0 (fun hz => ⟨I1.ob, m_wordIn D1 W1 hO1 hj hk (by omega) ⟨_, rfl, I1.ob, ?_⟩⟩) (fun hz => ⟨I1.ob, m_write (c := 32) I1 (by omega) fun M2 s2 C2 I2 e2 => ⟨rfl, ?_⟩⟩) rfl rfl)⟩⟩
      · have hi0 : i = 0 := by omega
        subst hi0
        rw [c3]
        refine m_writeWord I1 c2 (by show 0 + _ ≤ _; omega) fun M2 s2 C2 I2 e2 => ⟨rfl, ?_⟩
        rw [nI_1]
        refine ih M2 s2 (C1.trans C2) ?_ (e2.trans e1)
        rw [ow_pl, c4, c5, sp_sep_0 rfl]
        exact I2
      · obtain ⟨f2, g2, D2, W2⟩ := I2.D
        refine ⟨I2.ob, m_wordIn D2 W2 hO1 hj hk (by omega) ⟨_, rfl, I2.ob, ?_⟩⟩
        rw [c3]
        have hl1 : (ow_pl (o_ws O j).2.2.1.2.2.1 ((o_ws O j).2.2.2.2 k).1 i ++ [32]).length = (ow_pl (o_ws O j).2.2.1.2.2.1 ((o_ws O j).2.2.2.2 k).1 i).length + 1 := by simp
        refine m_writeWord I2 c2 (by omega) fun M3 s3 C3 I3 e3 => ⟨rfl, ?_⟩
        rw [nI_1]
        refine ih M3 s3 ((C1.trans C2).trans C3) ?_ (e3.trans (e2.trans e1))
        have hpos : (ow_pl (o_ws O j).2.2.1.2.2.1 ((o_ws O j).2.2.2.2 k).1 i).length ≠ 0 := by
          obtain ⟨m, rfl⟩ : ∃ m, i = m + 1 := ⟨i - 1, by omega⟩
          obtain ⟨c', c1', c2', c3'⟩ := hW.1.2.2.2 (((o_ws O j).2.2.2.2 k).1 + m) (by omega)
          have c5' : ow_lw ((o_ws O j).2.2.1.2.2.1 (((o_ws O j).2.2.2.2 k).1 + m)) = ow_ln c' := by unfold ow_lw; rw [c3', ow_tn c2']
          have := ow_ln_pos c1'
          rw [ow_pl, List.length_append, ow_wo_len, c5']
          omega
        rw [ow_pl, c4, c5, sp_sep_1 hpos]
        exact I3
  exact key 0 (Nat.zero_le _) _ _ C1 J h9
theorem m_letterOf {st : Nat} (hst : st ≤ 3) (q : Qr (some (.int (nI (ow_let st)))) M) : kz_C G d 0 0 mX12_letterOf [.int (nI st)] M Qr Qx := by
  rcases (by omega : st = 0 ∨ st = 1 ∨ st = 2 ∨ st = 3) with rfl | rfl | rfl | rfl
  · exact rX12_letterOf_0 ⟨fun z => absurd rfl z, fun _ => q⟩
  · exact rX12_letterOf_0 ⟨fun _ => ⟨fun z => absurd rfl z, fun _ => q⟩, fun z => absurd z (by decide)⟩
  · exact rX12_letterOf_0 ⟨fun _ => ⟨fun _ => ⟨fun z => absurd rfl z, fun _ => q⟩, fun z => absurd z (by decide)⟩, fun z => absurd z (by decide)⟩
  · exact rX12_letterOf_0 ⟨fun _ => ⟨fun _ => ⟨fun _ => q, fun z => absurd z (by decide)⟩, fun z => absurd z (by decide)⟩, fun z => absurd z (by decide)⟩
theorem m_printWork {x : Int32} (I : mo_I M O hn h sv isS er ea n b l s rb) (hO : ow_Ok2 O) (q0 : (∀ j, j < o_wk O → x ≠ nI j) → mo_K M O hn h sv isS er ea n b l 1 (Qr (some (.int 0)))) (q1 : ∀ j, j < o_wk O → x = nI j → mo_K M O hn h sv isS er ea n b (sp_pw (o_ws O j) (o_ws O j).2.2.2.1) 0 (Qr (some (.int (nI (sp_pw (o_ws O j) (o_ws O j).2.2.2.1).length))))) : kz_C G (d + 4) 0 0 mX12_printWork [.ref 99, .int x] M Qr Qx := by
  have I0 := I.th' 0
  have C0 := I.cf 0
  have h9 : upd s 9 0 9 = nI 0 := rfl
  refine rX12_printWork_0 ⟨_, I.1, ow_l rfl, ?_⟩
  generalize kz_up M 99 (.inl (11, (mo_fs s rb).set 9 (.int 0))) = M0 at I0 C0 ⊢
  generalize upd s 9 0 = s0 at I0 h9
  obtain ⟨f, g, D, W⟩ := I0.D
  have hwk := hO.1.1.2.2.2.1
  have hnw := hO.1.1.2.2.1
  have hO1 := hO.1
  refine ⟨D.ob, m_noWork D W hO1 (fun hx => ⟨_, rfl, fun z => absurd z (by decide), fun _ => (q0 hx).fl C0 I0 rfl⟩) fun j hj e => ⟨_, rfl, fun _ => ⟨_, D.1, ow_l rfl, ?_⟩, fun z => absurd rfl z⟩⟩
  have Q1 := q1 j hj e
  subst e
  have hW := hO1.2.2.2 j hj
  have hm60 := hW.2.1
  have hWd : ow_Wwd (o_ws O j) := ⟨(hO.2.2.2 j hj).1, fun i hi => ((hO.2.2.2 j hj).2 i hi).1⟩
  have J := I0.o0
  have C1 := C0.up (a := 99) (e := .inl (11, (mo_fs s0 rb).set 31 (.int 0))) (by omega) (by omega)
  have key : ∀ i, i ≤ (o_ws O j).2.2.2.1 → ∀ M1 s1, mo_Cf M M1 → mo_I M1 O hn h sv isS er ea n b (sp_pw (o_ws O j) i) s1 rb → s1 9 = nI 0 → zX12_printWork_22 G d Qr Qx 99 (nI j) (nI i) M1 := by
    refine ow_loop (o_ws O j).2.2.2.1 ?_ ?_
    · intro M1 s1 C1 I1 e1
      obtain ⟨f1, g1, D1, W1⟩ := I1.D
      refine rX12_printWork_22 ⟨I1.ob, m_of (k := 4) D1 (by omega) (by omega) (W1.ww hj).2.2.2.2.1 ⟨_, rfl, ow_y (nI_le (Nat.le_refl _) (by omega)) ⟨_, _, I1.1, rfl, ?_⟩⟩⟩
      rw [I1.2.1.2.2.2.2.2]
      exact Q1.go C1 I1 e1
    · intro i hi ih M1 s1 C1 I1 e1
      obtain ⟨f1, g1, D1, W1⟩ := I1.D
      have len := sp_pw_len hWd i (by omega)
      obtain ⟨h1, h2, h3⟩ := hWd.2 i hi
      have hs3 := (hW.2.2.2.2 i hi).2.2.2
      have hv : (nI (ow_wd (o_ws O j).2.2.1.2.2.1 ((o_ws O j).2.2.2.2 i).1 ((o_ws O j).2.2.2.2 i).2.1)).toInt.natAbs < 10 ^ 9 := by
        rw [nI_toInt (by omega)]
        omega
      have tail : ∀ m M2 s2, m.length + 11 ≤ 255 → m = sp_sep (sp_pw (o_ws O j) i) → mo_Cf M M2 → mo_I M2 O hn h sv isS er ea n b (m) s2 rb → s2 9 = nI 0 → ∀ {Q2 : Option Value → kz_M → Prop}, (∀ M3 s3, mo_Cf M M3 → mo_I M3 O hn h sv isS er ea n b (sp_pw (o_ws O j) (i + 1)) s3 rb → s3 9 = nI 0 → Q2 none M3) → (∃ fs, M2.1 99 = some (.inl (11, fs))) ∧ kz_C G (d + 3) 0 0 mX12_widthOf [.ref 99, .int (nI j), .int (nI i)] M2 (fun v M6 => ∃ r7 : Int32, v = some (.int r7) ∧ ((∃ fs24, (M6).1 99 = some (.inl (11, fs24))) ∧ kz_C G (d + 3) 0 0 mX12_writeNumber [.ref 99, .int r7] M6 (fun v M9 => v = none ∧ ((∃ fs23, (M9).1 99 = some (.inl (11, fs23))) ∧ kz_C G (d + 3) 0 0 mX12_ofLine [.ref 99, .int (nI j), .int (nI i), .int 2] M9 (fun v M12 => ∃ r13 : Int32, v = some (.int r13) ∧ (kz_C G (d + 3) 0 0 mX12_letterOf [.int r13] M12 (fun v M15 => ∃ r16 : Int32, v = some (.int r16) ∧ ((∃ fs21, (M15).1 99 = some (.inl (11, fs21))) ∧ kz_C G (d + 3) 0 0 mX12_write [.ref 99, .int r16] M15 (fun v M18 => v = none ∧ (Q2 none M18)) Qx)) Qx)) Qx)) Qx)) Qx := by
        intro m M2 s2 hm em C2 I2 e2 Q2 hq
        obtain ⟨f2, g2, D2, W2⟩ := I2.D
        refine ⟨I2.ob, m_widthOf D2 W2 hO1 hj hi h3 ⟨_, rfl, I2.ob, m_writeNumber I2 hv (by omega) fun M3 s3 C3 I3 e3 => ⟨rfl, ?_⟩⟩⟩
        obtain ⟨f3, g3, D3, W3⟩ := I3.D
        have hlen3 : (m ++ ow_num (nI (ow_wd (o_ws O j).2.2.1.2.2.1 ((o_ws O j).2.2.2.2 i).1 ((o_ws O j).2.2.2.2 i).2.1))).length < 256 := by
          rw [List.length_append]
          have := ow_num_len (nI (ow_wd (o_ws O j).2.2.1.2.2.1 ((o_ws O j).2.2.2.2 i).1 ((o_ws O j).2.2.2.2 i).2.1))
          omega
        refine ⟨I3.ob, m_ofL (k := 2) D3 (by omega) (by omega) (by omega) (W3.ln hj hi).2.2.1 ⟨_, rfl, m_letterOf hs3 ⟨_, rfl, I3.ob, m_write I3 hlen3 fun M4 s4 C4 I4 e4 => ⟨rfl, hq M4 s4 ((C2.trans C3).trans C4) ?_ (e4.trans (e3.trans e2))⟩⟩⟩⟩
        rw [sp_pw, ← em, h1]
        exact I4
      have sl := sp_sep_len (sp_pw (o_ws O j) i)
      refine rX12_printWork_22 ⟨I1.ob, m_of (k := 4) D1 (by omega) (by omega) (W1.ww hj).2.2.2.2.1 ⟨_, rfl, ow_n (nI_ge hi (by omega)) ?_⟩⟩
      rw [nI_1]
      refine pk_le i 0 (fun hz => ?_) (fun hz => ⟨I1.ob, m_write (c := 32) I1 (by omega) fun M2 s2 C2 I2 e2 => ⟨rfl, ?_⟩⟩) rfl rfl
      · have hi0 : i = 0 := by omega
        subst hi0
        exact tail _ M1 s1 (by show 0 + _ ≤ _; omega) (sp_sep_0 rfl).symm C1 I1 e1 (Q2 := fun _ M3 => zX12_printWork_22 G d Qr Qx 99 (nI j) (nI (0 + 1)) M3) fun M3 s3 C3 I3 e3 => ih M3 s3 C3 I3 e3
      · have hpos : (sp_pw (o_ws O j) i).length ≠ 0 := by
          obtain ⟨m, rfl⟩ : ∃ m, i = m + 1 := ⟨i - 1, by omega⟩
          rw [sp_pw, List.length_append]
          simp
        exact tail _ M2 s2 (by rw [List.length_append, List.length_singleton]; omega) (sp_sep_1 hpos).symm (C1.trans C2) I2 (e2.trans e1) (Q2 := fun _ M3 => zX12_printWork_22 G d Qr Qx 99 (nI j) (nI (i + 1)) M3) fun M3 s3 C3 I3 e3 => ih M3 s3 C3 I3 e3
  exact key 0 (Nat.zero_le _) _ _ C1 J h9
theorem m_printBalances {c : Nat} (I : mo_I M O hn h sv isS er ea n b l s rb) (hO : ow_Ok2 O) (hN : ow_Nms O) (hB : ow_Bd O c) (hc : c < 10 ^ 9) (q1 : mo_K M O hn h sv isS er ea n b (sp_pb O (o_nw O)) 0 (Qr (some (.int (nI (sp_pb O (o_nw O)).length))))) : kz_C G (d + 2) 0 0 mX12_printBalances [.ref 99] M Qr Qx := by
  have I0 := I.th' 0
  have C0 := I.cf 0
  have h9 : upd s 9 0 9 = nI 0 := rfl
  refine rX12_printBalances_0 ⟨_, I.1, ow_l rfl, ?_⟩
  generalize kz_up M 99 (.inl (11, (mo_fs s rb).set 9 (.int 0))) = M0 at I0 C0 ⊢
  generalize upd s 9 0 = s0 at I0 h9
  obtain ⟨f, g, D, W⟩ := I0.D
  have hwk := hO.1.1.2.2.2.1
  have hnw := hO.1.1.2.2.1
  have hO1 := hO.1
  refine ⟨_, D.1, ow_l rfl, ?_⟩
  have J := I0.o0
  have C1 := C0.up (a := 99) (e := .inl (11, (mo_fs s0 rb).set 31 (.int 0))) (by omega) (by omega)
  have key : ∀ i, i ≤ o_nw O → ∀ M1 s1, mo_Cf M M1 → mo_I M1 O hn h sv isS er ea n b (sp_pb O i) s1 rb → s1 9 = nI 0 → zX12_printBalances_12 G d Qr Qx 99 (nI i) M1 := by
    refine ow_loop (o_nw O) ?_ ?_
    · intro M1 s1 C1 I1 e1
      obtain ⟨f1, g1, D1, W1⟩ := I1.D
      refine rX12_printBalances_12 ⟨_, _, D1.1, rfl, _, _, D1.2.1, mo_in0, ?_⟩
      rw [W1.at0]
      refine ow_y (nI_le (Nat.le_refl _) (by omega)) ⟨_, _, I1.1, rfl, ?_⟩
      rw [I1.2.1.2.2.2.2.2]
      exact q1.go C1 I1 e1
    · intro i hi ih M1 s1 C1 I1 e1
      obtain ⟨f1, g1, D1, W1⟩ := I1.D
      have len := sp_pb_len hO1 i (by omega)
      have hln := ow_ln_le (o_nm O i)
      have hbi := hB i hi
      have iv : (21 : Int32) + nI i = nI (21 + i) := nI_add 21 i
      have tail : ∀ m M2 s2, m.length + 24 ≤ 255 → m = sp_sep (sp_pb O i) → mo_Cf M M2 → mo_I M2 O hn h sv isS er ea n b (m) s2 rb → s2 9 = nI 0 → ∀ {Q2 : Option Value → kz_M → Prop}, (∀ M3 s3, mo_Cf M M3 → mo_I M3 O hn h sv isS er ea n b (sp_pb O (i + 1)) s3 rb → s3 9 = nI 0 → Q2 none M3) → (∃ fs, M2.1 99 = some (.inl (11, fs))) ∧ kz_C G (d + 1) 0 0 mX12_writeName [.ref 99, .int (nI i)] M2 (fun v M7 => v = none ∧ ((∃ fs21, (M7).1 99 = some (.inl (11, fs21))) ∧ kz_C G (d + 1) 0 0 mX12_write [.ref 99, .int 61] M7 (fun v M10 => v = none ∧ (∃ fs13 v14, (M10).1 99 = some (.inl (11, fs13)) ∧ fs13[0]? = some (.ref v14) ∧ (∃ n15 f16, (M10).1 v14 = some (.inr (.int, n15, .inl f16)) ∧ vp_in (21 + nI i) n15 ∧ ((∃ fs20, (M10).1 99 = some (.inl (11, fs20))) ∧ kz_C G (d + 1) 0 0 mX12_writeNumber [.ref 99, .int (f16 (21 + nI i).toNatClampNeg)] M10 (fun v M17 => v = none ∧ (Q2 none M17)) Qx)))) Qx)) Qx := by
        intro m M2 s2 hm em C2 I2 e2 Q2 hq
        refine ⟨I2.ob, m_writeName I2 hO1 hi (hN i hi) (by omega) fun M3 s3 C3 I3 e3 => ⟨rfl, I3.ob, m_write (c := 61) I3 (by rw [List.length_append, ow_wo_len]; omega) fun M4 s4 C4 I4 e4 => ⟨rfl, ?_⟩⟩⟩
        obtain ⟨f4, g4, D4, W4⟩ := I4.D
        rw [iv]
        refine ⟨_, _, D4.1, rfl, _, _, D4.2.1, vp_in_nI (by omega) (by omega), ?_⟩
        rw [nI_clamp (n := 21 + i) (by omega), W4.ba hi]
        refine ⟨I4.ob, m_writeNumber I4 (by omega) (by rw [List.length_append, List.length_append, ow_wo_len, List.length_singleton]; omega) fun M5 s5 C5 I5 e5 => ⟨rfl, hq M5 s5 (((C2.trans C3).trans C4).trans C5) ?_ (e5.trans (e4.trans (e3.trans e2)))⟩⟩
        rw [sp_pb, ← em]
        exact I5
      have sl := sp_sep_len (sp_pb O i)
      refine rX12_printBalances_12 ⟨_, _, D1.1, rfl, _, _, D1.2.1, mo_in0, ?_⟩
      rw [W1.at0, nI_1]
      refine ow_n (nI_ge hi (by omega)) (pk_le i 0 (fun hz => ?_) (fun hz => ⟨I1.ob, m_write (c := 32) I1 (by omega) fun M2 s2 C2 I2 e2 => ⟨rfl, ?_⟩⟩) rfl rfl)
      · have hi0 : i = 0 := by omega
        subst hi0
        exact tail _ M1 s1 (by show 0 + _ ≤ _; omega) (sp_sep_0 rfl).symm C1 I1 e1 (Q2 := fun _ M3 => zX12_printBalances_12 G d Qr Qx 99 (nI (0 + 1)) M3) fun M3 s3 C3 I3 e3 => ih M3 s3 C3 I3 e3
      · have hpos : (sp_pb O i).length ≠ 0 := by
          obtain ⟨m, rfl⟩ : ∃ m, i = m + 1 := ⟨i - 1, by omega⟩
          rw [sp_pb, List.length_append, List.length_append]
          simp only [List.length_singleton]
          omega
        exact tail _ M2 s2 (by rw [List.length_append, List.length_singleton]; omega) (sp_sep_1 hpos).symm (C1.trans C2) I2 (e2.trans e1) (Q2 := fun _ M3 => zX12_printBalances_12 G d Qr Qx 99 (nI (i + 1)) M3) fun M3 s3 C3 I3 e3 => ih M3 s3 C3 I3 e3
  exact key 0 (Nat.zero_le _) _ _ C1 J h9
end MOA
