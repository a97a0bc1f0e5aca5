/-! Part 47b: SetupReader: the whole text; it is made -/
theorem sp_sc_pos {n : Nat} {b : Nat → Nat} {i : Nat} {O : ow_O} {t : Nat → Bool} {z : Nat × ow_O × (Nat → Bool)} (h : sp_sc n b i O t = .inr z) : i ≤ z.1 ∧ (i ≤ n → z.1 ≤ n) := by
  rw [sp_sc] at h
  split at h
  · cases h
    exact ⟨sp_en_ge n b i, sp_en_le⟩
  · cases h
theorem sp_wr_pos {n : Nat} {b : Nat → Nat} {st i : Nat} {O : ow_O} {t : Nat → Bool} {z : Nat × ow_O × (Nat → Bool)} (h : sp_wr n b st i O t = .inr z) : i ≤ z.1 ∧ (i ≤ n → z.1 ≤ n) := by
  have h1 := sp_en_ge n b i
  rw [sp_wr] at h
  split at h
  · split at h
    · split at h
      · cases h
      · obtain ⟨h2, h3⟩ := sp_sc_pos h
        exact ⟨by omega, fun hi => h3 (sp_en_le hi)⟩
    · cases h
  · cases h
theorem sp_se_pos {n : Nat} {b : Nat → Nat} {st k w i : Nat} {O : ow_O} {t : Nat → Bool} {z : Nat × ow_O × (Nat → Bool)} (h : sp_se n b st k w i O t = .inr z) : i ≤ z.1 ∧ (i ≤ n → z.1 ≤ n) := by
  have h1 := sp_en_ge n b i
  rw [sp_se] at h
  split at h
  · cases h
  · split at h
    · cases h
    · split at h
      · cases h
      · obtain ⟨h2, h3⟩ := sp_sc_pos h
        exact ⟨by omega, fun hi => h3 (sp_en_le hi)⟩
theorem sp_of_pos {n : Nat} {b : Nat → Nat} {i : Nat} {O : ow_O} {t : Nat → Bool} {z : Nat × ow_O × (Nat → Bool)} (h : sp_of n b i O t = .inr z) : i ≤ z.1 ∧ (i ≤ n → z.1 ≤ n) := by
  have h1 := sp_en_ge n b i
  have h1' := sp_en_ge n b (sp_en n b i)
  rw [sp_of] at h
  split at h
  · split at h
    · cases h
    · obtain ⟨h2, h3⟩ := sp_sc_pos h
      exact ⟨by omega, fun hi => h3 (sp_en_le (sp_en_le hi))⟩
  · cases h
section OWQ
variable {G : kz_G} {d : Nat} {Qr : Option Value → kz_M → Prop} {Qx : String → kz_M → Prop} {M : kz_M} {n : Nat} {b : Nat → Nat} {tk st en : Nat} {w : Int64} {v er ea : Int32} {O : ow_O} {t : Nat → Bool}
theorem c_rbegin (hG : kz_stat G) (h : ow_R8 M tk st en w v er ea) (h2 : ow_RO M 88 O) (h3 : ow_TD M t) (q : ∀ M1, ow_Sm ow_in8 M M1 → M1.2 = M.2 → ow_R8 M1 tk st 0 w v 0 (-1) → ow_RO M1 88 o_0 → ow_TD M1 (fun _ => false) → Qr none M1) : kz_C G (d + 2) 0 0 mX8_begin [.ref 87] M Qr Qx := by
  obtain ⟨f, hf1, hf2⟩ := h3
  refine rX8_begin_0 ⟨_, _, h, rfl, h2.ob, c_begin hG h2 (by decide) fun M1 g1 g2 g3 => ⟨rfl, ?_⟩⟩
  have h1 := h.s88 g1
  have hf1' := (g1 96 (fun z => by have := z.2; omega)).trans hf1
  have key : ∀ i, i ≤ 10 → ∀ M2 f, ow_Sm (· = 96) M1 M2 → M2.2 = M1.2 → M2.1 96 = some (.inr (.boolean, 10, .inl f)) → (∀ j, j < i → f j = 0) → zX8_begin_9 G d Qr Qx 87 (nI i) M2 := by
    refine ow_loop 10 ?_ ?_
    · intro M2 f k1 k2 k3 k4
      have h2 : ow_R8 M2 tk st en w v er ea := (k1 87 (by omega)).trans h1
      refine rX8_begin_9 ⟨_, _, h2, rfl, _, _, k3, ow_y (by decide : (10 : Int32) ≤ nI 10) ⟨_, h2, ow_l rfl, _, kz_up_same _ _ _, ow_l rfl, _, kz_up_same _ _ _, ow_l rfl, ?_⟩⟩
      have S : ow_Sm (· = 87) M2 (kz_up (kz_up (kz_up M2 87 (.inl (7, [.ref 88, .ref 96, .int (nI tk), .int (nI st), .int (nI 0), .long w, .int v, .int er, .int ea]))) 87 (.inl (7, [.ref 88, .ref 96, .int (nI tk), .int (nI st), .int (nI 0), .long w, .int v, .int 0, .int ea]))) 87 (.inl (7, [.ref 88, .ref 96, .int (nI tk), .int (nI st), .int (nI 0), .long w, .int v, .int 0, .int (-1)]))) := fun k hk => by rw [kz_up_ne hk, kz_up_ne hk, kz_up_ne hk]
      refine q _ ((g1.i88.trans (k1.mono fun k hk => by subst hk; exact ⟨by omega, by omega⟩)).trans S.i8) (k2.trans g2) (kz_up_same _ _ _) ((g3.sm k1 fun k hk => ⟨by subst hk; decide, by omega⟩).s87 S) ⟨f, (S 96 (by omega)).trans k3, fun i hi => k4 i hi⟩
    · intro i hi ih M2 f k1 k2 k3 k4
      have h2 : ow_R8 M2 tk st en w v er ea := (k1 87 (by omega)).trans h1
      refine rX8_begin_9 ⟨_, _, h2, rfl, _, _, k3, ow_n (nI_ge (b := 10) hi (by omega)) ⟨_, _, h2, rfl, _, _, k3, vp_in_nI hi (by omega), ?_⟩⟩
      rw [nI_clamp (by omega), nI_1, ow_nar00]
      refine ih _ _ (fun k hk => (kz_up_ne hk).trans (k1 k hk)) k2 (kz_up_same _ _ _) fun j hj => ?_
      unfold upd
      split
      · rfl
      · exact k4 j (by omega)
  exact key 0 (Nat.zero_le _) M1 f (ow_Sm.rfl' _ _) rfl hf1' fun j hj => absurd hj (Nat.not_lt_zero j)
theorem c_rread (hG : kz_stat G) (hI : ow_RI M n b) (h : ow_R8 M tk st en w v er ea) (h2 : ow_RO M 88 O) (h3 : ow_TD M t) (q : ∀ M1 r, sp_post (sp_read n b) M M1 r → Qr r M1) : kz_C G (d + 8) 0 0 mX8_read [.ref 87, .ref 1] M Qr Qx := by
  have hn := hI.2.1
  refine rX8_read_0 ⟨h.ob, c_rbegin hG h h2 h3 fun M1 g1 g2 g3 g4 g5 => ⟨rfl, g3.ob, c_office hG (hI.s8 g1) g3 g4 g5 o_0_ok (Nat.zero_le _) fun M2 r hr => ?_⟩⟩
  obtain ⟨p1, p2, p3⟩ := hr
  have S2 := g1.trans p1
  have Q2 := p2.trans g2
  cases hof : sp_of n b 0 o_0 (fun _ => false) with
  | inl e =>
    rw [hof] at p3
    obtain ⟨p4, p5⟩ := p3
    refine ⟨0, p4, fun z => absurd rfl z, fun _ => q M2 _ ⟨S2, Q2, ?_⟩⟩
    rw [sp_read, hof]
    exact ⟨rfl, p5⟩
  | inr z =>
    rw [hof] at p3
    obtain ⟨p4, p5, p6⟩ := p3
    obtain ⟨hz1, hz2⟩ := sp_of_pos hof
    refine ⟨1, p4, fun _ => ?_, fun z => absurd z (by decide)⟩
    have q : ∀ M1 r, sp_post (sp_lp n b (n + 1) z.1 z.2.1 z.2.2) M M1 r → Qr r M1 := fun M1 r hr => q M1 r (by rw [sp_read, hof]; exact hr)
    have key : ∀ f j i O t M1, j + f = n + 1 → j ≤ i → i ≤ n → ow_ST M1 i 0 (-1) O t → ow_Ok1 O → (∀ M1 r, sp_post (sp_lp n b f i O t) M M1 r → Qr r M1) → ow_Sm ow_in8 M M1 → M1.2 = M.2 → zX8_read_16 G d Qr Qx 87 1 (nI j) M1 := by
      intro f
      induction f with
      | zero => intro j i O t M1 h1 h2 h3; omega
      | succ f ih =>
        intro j i O t M1 hjf hji hin hST hO q S1 Q1
        obtain ⟨⟨tk, st, w, v, h8⟩, hRO, hTD⟩ := hST
        have hI1 := hI.s8 S1
        have htk : sp_tk n b i ≤ 4 := by
          rw [sp_tk, sp_k0]
          repeat' split
          all_goals omega
        refine rX8_read_16 ⟨_, _, hI1.1, rfl, ow_n (nI_nlt (by omega) (by omega)) ⟨h8.ob, c_next hI1 h8 hin fun M2 w1 v1 k1 k2 k3 k4 k5 => ⟨rfl, _, _, k3, rfl, ?_⟩⟩⟩
        have S3 := S1.trans k1.i8
        have Q3 := k2.trans Q1
        have hRO2 := hRO.s87 k1
        have hTD2 := hTD.s87 k1
        have hI2 := hI1.s87 k1
        have hle := sp_en_le (n := n) (b := b) hin
        have hw : sp_wd n b i < 2 ^ 60 := sp_w0_lt (n := n) (b := b) (sp_st n b i)
        have hc := kz_cd_lt 1034 (by decide)
        refine (pk_eq (sp_tk n b i) 0 (fun h0 => ?_) (fun h0 => ?_) rfl rfl).symm
        · refine ⟨_, _, k3, rfl, _, _, hRO2.1, rfl, ?_⟩
          rw [sp_lp, if_pos h0] at q
          refine pk_lt 0 (o_nw O) (fun hw => ?_) (fun hw => ⟨k3.ob, c_fail (c := 4) k3 fun M4 l1 l2 l3 => ⟨_, rfl, fun _ => ?_, fun z => absurd rfl z⟩⟩) rfl rfl (by omega) (by have := hO.1.2.2.1; omega)
          · rw [if_pos hw] at q
            exact q M2 _ ⟨S3, Q3, rfl, ⟨⟨_, _, _, _, k3⟩, hRO2, hTD2⟩, hO⟩
          · rw [if_neg (by omega)] at q
            exact q M4 _ ⟨S3.trans l1.i8, l2.trans Q3, rfl, _, _, _, ⟨_, _, _, _, l3⟩, hRO2.s87 l1, hTD2.s87 l1⟩
        · have hgt := sp_en_gt h0
          rw [sp_lp, if_neg h0] at q
          have setR : ¬ (sp_tk n b i = 1 ∧ sp_wd n b i = kz_cd 1034) → kz_C G (d + 7) 0 0 mX8_readSetting [.ref 87, .ref 1] M2 (fun v M14 => ∃ r15 : Int32, v = some (.int r15) ∧ ((¬ r15 = 0 → zX8_read_16 G d Qr Qx 87 1 (nI j + 1) M14) ∧ (r15 = 0 → Qr (some (.int 0)) M14))) Qx := by
            intro hno
            rw [if_neg hno] at q
            refine c_setting (wn := sp_wd n b i) hG hI2 k3 htk k4 hw hRO2 hTD2 hO hle fun M4 r hr => ?_
            obtain ⟨p1, p2, p3⟩ := hr
            cases hse : sp_se n b (sp_st n b i) (sp_tk n b i) (sp_wd n b i) (sp_en n b i) O t with
            | inl e =>
              rw [hse] at p3 q
              obtain ⟨p4, p5⟩ := p3
              exact ⟨0, p4, fun z => absurd rfl z, fun _ => q M4 _ ⟨S3.trans p1, p2.trans Q3, rfl, p5⟩⟩
            | inr z =>
              rw [hse] at p3 q
              obtain ⟨p4, p5, p6⟩ := p3
              obtain ⟨m1, m2⟩ := sp_se_pos hse
              refine ⟨1, p4, fun _ => ?_, fun z => absurd z (by decide)⟩
              rw [nI_1]
              exact ih (j + 1) z.1 z.2.1 z.2.2 M4 (by omega) (by omega) (m2 hle) p5 p6 q (S3.trans p1) (p2.trans Q3)
          have wrR : (sp_tk n b i = 1 ∧ sp_wd n b i = kz_cd 1034) → kz_C G (d + 7) 0 0 mX8_readWriter [.ref 87, .ref 1] M2 (fun v M18 => ∃ r19 : Int32, v = some (.int r19) ∧ ((r19 = 0 → Qr (some (.int 0)) M18) ∧ (¬ r19 = 0 → zX8_read_16 G d Qr Qx 87 1 (nI j + 1) M18))) Qx := by
            intro hyes
            rw [if_pos hyes] at q
            refine c_writer hG hI2 k3 hRO2 hTD2 hO hle fun M4 r hr => ?_
            obtain ⟨p1, p2, p3⟩ := hr
            cases hse : sp_wr n b (sp_st n b i) (sp_en n b i) O t with
            | inl e =>
              rw [hse] at p3 q
              obtain ⟨p4, p5⟩ := p3
              exact ⟨0, p4, fun _ => q M4 _ ⟨S3.trans p1, p2.trans Q3, rfl, p5⟩, fun z => absurd rfl z⟩
            | inr z =>
              rw [hse] at p3 q
              obtain ⟨p4, p5, p6⟩ := p3
              obtain ⟨m1, m2⟩ := sp_wr_pos hse
              refine ⟨1, p4, fun z => absurd z (by decide), fun _ => ?_⟩
              rw [nI_1]
              exact ih (j + 1) z.1 z.2.1 z.2.2 M4 (by omega) (by omega) (m2 hle) p5 p6 q (S3.trans p1) (p2.trans Q3)
          refine ⟨_, _, k3, rfl, ?_⟩
          refine (pk_eq (sp_tk n b i) 1 (fun h1 => ?_) (fun h1 => ?_) rfl rfl).symm
          · have hw1 := k4 h1
            subst hw1
            refine ⟨_, _, k3, rfl, c_coded hG (by decide) ⟨_, rfl, fun he => ow_y rfl ⟨k3.ob, setR fun z => he (by rw [z.2])⟩, fun he => ow_n (by decide) ⟨k3.ob, wrR ⟨h1, (pk_lEQ (by omega) (by omega)).mp he⟩⟩⟩⟩
          · exact ow_y rfl ⟨k3.ob, setR fun z => h1 z.1⟩
    exact key (n + 1) 0 z.1 z.2.1 z.2.2 M2 (by omega) (Nat.zero_le _) (hz2 (Nat.zero_le _)) p5 p6 q S2 Q2
theorem c_rinit {mc ms : Nat} (hG : kz_stat G) (h : M.1 87 = some (.inl (7, [.null, .null, .int 0, .int 0, .int 0, .long 0, .int 0, .int 0, .int 0]))) (h2 : M.2 = 88) (hmc : 9 ≤ mc) (hms : 182 ≤ ms) (q : ∀ M1, ow_Nw (· = 87) M M1 → M1.2 = 97 → ow_ST M1 0 0 0 o_0 (fun _ => false) → Qr none M1) : kz_C G (d + 3) mc ms mX8_init [.ref 87] M Qr Qx := by
  obtain ⟨m, n⟩ := M
  obtain rfl : n = 88 := h2
  refine rX8_init_0 hG ⟨by omega, by omega, 7, 162, by omega, by omega, c_sinit (t := 88) hG (kz_nw_same _ _) rfl (by decide) (by omega) (by omega) fun M1 g1 g2 g3 => ⟨rfl, ?_⟩⟩
  have l87 : M1.1 87 = some (.inl (7, [.null, .null, .int 0, .int 0, .int 0, .long 0, .int 0, .int 0, .int 0])) := (g1.1 87 (by show 87 < 88 + 1; omega) (by omega)).trans ((kz_nw_ne (by show 87 ≠ 88; omega)).trans h)
  have z10 : (10 : Int32).toNatClampNeg = 10 := by decide
  refine ⟨_, l87, ow_l rfl, 10, by decide, z10, by omega, by omega, by omega, _, kz_nw_up (by rw [g2]; omega), ow_l rfl, fun M9 e9 => ?_⟩
  have e96 : (kz_up M1 87 (.inl (7, [.ref 88, .null, .int 0, .int 0, .int 0, .long 0, .int 0, .int 0, .int 0]))).2 = 96 := g2
  have f : ∀ k, k ≠ 87 → k < 96 → M9.1 k = M1.1 k := fun k hk hk2 => by
    rw [e9, kz_up_ne hk, kz_nw_ne (by rw [kz_up_2, g2]; omega), kz_up_ne hk]
  refine q M9 ⟨fun k hk hk2 => ?_, ?_⟩ ?_ ⟨⟨0, 0, 0, 0, ?_⟩, ?_, fun _ => 0, ?_, fun i hi => rfl⟩
  · have hk : k < 88 := hk
    rw [f k hk2 (by omega), g1.1 k (by show k < 88 + 1; omega) (by omega)]
    exact kz_nw_ne (by show k ≠ 88; omega)
  · rw [e9, kz_up_2, kz_nw_2, kz_up_2, g2]
    show 88 ≤ 97
    omega
  · rw [e9, kz_up_2, kz_nw_2, kz_up_2, g2]
  · show M9.1 87 = _
    rw [e9, kz_up_same, kz_up_2, g2]
    rfl
  · have hK : ow_K = 99 := rfl
    refine g3.mv (fun k e hk he => ?_) fun k h1 h2 => f k (by omega) (by omega)
    rw [e9, kz_up_ne (by omega), kz_nw_ne ?_, kz_up_ne (by omega)]
    · exact he
    · rw [kz_up_2, g2]; omega
  · rw [e9, kz_up_ne (by omega)]
    rw [← e96]
    exact kz_nw_same _ _
end OWQ
