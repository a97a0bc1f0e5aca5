/-! Part 96: the law's cases: printed by program (wip/whole/gen96.py) -/
theorem lw_count {G : kz_G} {N : Nat} {xs : Nat → Int32} {d mc ms : Nat} {Qr : Option Value → kz_M → Prop} {Qx : String → kz_M → Prop} {x0 : Nat} {x5 : Int32} {M : kz_M} {c sl kk : Nat} (hG : kz_stat G) (hN : kz_nc G) (hc : c + 67 ≤ mc) (hs : sl + 619 ≤ ms) (hX : va_X (G.2.2.2 x0) N xs G.2.2.1 G.2.2.1.heap) (hb : G.2.2.2 x0 < G.2.2.1.heap.size) (hv : ∀ i : Nat, i < 6 → vp_in (x5 + nI i) N) (hk : kk < 600) (J : lw_J M kk) (K : ∀ M' c' sl', lw_J M' (kk + 1) → c' ≤ c + 67 → sl' ≤ sl + 619 → zL_law_2913 G d mc ms Qr Qx x0 0 99 114 115 x5 M' c' sl') : zL_law_389 G d mc ms Qr Qx x0 0 99 114 115 x5 M c sl := by
  obtain ⟨O, hn, h, sv, isS, er, ea, n, b, l, s, rb, CI, MI, ok, ho⟩ := J
  have hO2 := ok.1.1
  have hO := hO2.1
  have hdy := hO.1.1
  have hmo := hO.1.2.1
  have hnw := hO.1.2.2.1
  have hwk := hO.1.2.2.2.1
  have hne := hO.1.2.2.2.2
  have hn6 := MI.inp.1
  have h8 : hn ≤ 8 := MI.h8
  have ok1 := ok.mono (k := 12000 * (kk + 1)) (by omega)
  have Kz : ∀ M', lw_J M' (kk + 1) → zL_law_2913 G d mc ms Qr Qx x0 0 99 114 115 x5 M' (c + 67) (sl + 619) := fun M' j => K M' _ _ j (Nat.le_refl _) (Nat.le_refl _)
  refine rL_law_389 (by omega) (by omega) hX hb ⟨hv 1 (by omega), 67, 619, hc, hs, rL_count_0 ⟨⟨_, CI.1⟩, 67, 619, by omega, by omega, c_count hG CI hO (by omega) (by omega) ?_ ?_⟩⟩
  · intro a0 g
    exact ⟨rfl, _, rfl, hv 1 (by omega), (MI.gr g).ob, m_count (MI.gr g) hO2 (fun b0 M4 s4 rb4 C4 I4 e4 => by
      exact ⟨_, rfl, lw_chk (zz := fun M7 => zL_law_2913 G d mc ms Qr Qx x0 0 99 114 115 x5 M7 (c + 67) (sl + 619)) I4 e4 rfl (by omega) (fun z => by cases z) (Kz M4 (lw_go (CI.gr g) C4 I4 (ok1) (ho.gr g)))⟩) (fun j2 b0 b1 => by
      exact (a0 j2 b0 b1).elim)⟩
  · intro j a0 a1
    obtain ⟨F, f1⟩ := ho.1
    exact ⟨_, rfl, _, _, f1, vp_in_nI (n := 0) (N := 1) (by omega) (by omega), _, rfl, hv 1 (by omega), ⟨_, (kz_up_ne (by omega)).trans MI.1⟩, m_count (MI.cl fun k h1 h2 => kz_up_ne (by omega)) hO2 (fun b0 => by
      exact (b0 j a0 a1).elim) (fun j2 b0 b1 M4 s4 rb4 C4 I4 e4 => by
      have u_j2 := ow_inj (by omega) (by omega) a1 b1
      subst u_j2
      exact ⟨_, rfl, lw_chk (zz := fun M7 => zL_law_2913 G d mc ms Qr Qx x0 0 99 114 115 x5 M7 (c + 67) (sl + 619)) I4 e4 rfl (by omega) (fun _ => ⟨_, (C4.1 114 (by omega)).trans (kz_up_same _ _ _), if_pos rfl⟩) (Kz M4 (lw_go (CI.md (fun k hk => kz_up_ne (by omega)) (Nat.le_refl _)) C4 I4 (ok1) (ho.up4 _)))⟩)⟩
theorem lw_setting {G : kz_G} {N : Nat} {xs : Nat → Int32} {d mc ms : Nat} {Qr : Option Value → kz_M → Prop} {Qx : String → kz_M → Prop} {x0 : Nat} {x5 : Int32} {M : kz_M} {c sl kk : Nat} (hG : kz_stat G) (hN : kz_nc G) (hc : c + 67 ≤ mc) (hs : sl + 619 ≤ ms) (hX : va_X (G.2.2.2 x0) N xs G.2.2.1 G.2.2.1.heap) (hb : G.2.2.2 x0 < G.2.2.1.heap.size) (hv : ∀ i : Nat, i < 6 → vp_in (x5 + nI i) N) (hk : kk < 600) (J : lw_J M kk) (K : ∀ M' c' sl', lw_J M' (kk + 1) → c' ≤ c + 67 → sl' ≤ sl + 619 → zL_law_2913 G d mc ms Qr Qx x0 0 99 114 115 x5 M' c' sl') : zL_law_445 G d mc ms Qr Qx x0 0 99 114 115 x5 M c sl := by
  obtain ⟨O, hn, h, sv, isS, er, ea, n, b, l, s, rb, CI, MI, ok, ho⟩ := J
  have hO2 := ok.1.1
  have hO := hO2.1
  have hdy := hO.1.1
  have hmo := hO.1.2.1
  have hnw := hO.1.2.2.1
  have hwk := hO.1.2.2.2.1
  have hne := hO.1.2.2.2.2
  have hn6 := MI.inp.1
  have h8 : hn ≤ 8 := MI.h8
  have ok1 := ok.mono (k := 12000 * (kk + 1)) (by omega)
  have Kz : ∀ M', lw_J M' (kk + 1) → zL_law_2913 G d mc ms Qr Qx x0 0 99 114 115 x5 M' (c + 67) (sl + 619) := fun M' j => K M' _ _ j (Nat.le_refl _) (Nat.le_refl _)
  refine rL_law_445 (by omega) (by omega) hX hb ⟨hv 1 (by omega), 67, 619, hc, hs, rL_setting_0 ⟨⟨_, CI.1⟩, 67, 619, by omega, by omega, c_setting_q hG CI (by omega) (by omega) ?_ ?_⟩⟩
  · intro a0 g
    exact ⟨rfl, _, rfl, hv 1 (by omega), (MI.gr g).ob, m_setting (MI.gr g) hO2 (fun b0 M4 s4 rb4 C4 I4 e4 => by
      exact ⟨_, rfl, lw_chk (zz := fun M7 => zL_law_2913 G d mc ms Qr Qx x0 0 99 114 115 x5 M7 (c + 67) (sl + 619)) I4 e4 rfl (by omega) (fun z => by cases z) (Kz M4 (lw_go (CI.gr g) C4 I4 (ok1) (ho.gr g)))⟩) (fun j2 b0 b1 => by
      exact (a0 j2 b0 b1).elim)⟩
  · intro j a0 a1
    have w4_j := ow_hi_le j a0
    obtain ⟨F, f1⟩ := ho.1
    exact ⟨_, rfl, _, _, f1, vp_in_nI (n := 0) (N := 1) (by omega) (by omega), _, rfl, hv 1 (by omega), ⟨_, (kz_up_ne (by omega)).trans MI.1⟩, m_setting (MI.cl fun k h1 h2 => kz_up_ne (by omega)) hO2 (fun b0 => by
      exact (b0 j a0 a1).elim) (fun j2 b0 b1 M4 s4 rb4 C4 I4 e4 => by
      have u_j2 := ow_inj (by omega) (by omega) a1 b1
      subst u_j2
      exact ⟨_, rfl, lw_chk (zz := fun M7 => zL_law_2913 G d mc ms Qr Qx x0 0 99 114 115 x5 M7 (c + 67) (sl + 619)) I4 e4 rfl (by omega) (fun _ => ⟨_, (C4.1 114 (by omega)).trans (kz_up_same _ _ _), if_pos rfl⟩) (Kz M4 (lw_go (CI.md (fun k hk => kz_up_ne (by omega)) (Nat.le_refl _)) C4 I4 (ok1) (ho.up4 _)))⟩)⟩
theorem lw_writer {G : kz_G} {N : Nat} {xs : Nat → Int32} {d mc ms : Nat} {Qr : Option Value → kz_M → Prop} {Qx : String → kz_M → Prop} {x0 : Nat} {x5 : Int32} {M : kz_M} {c sl kk : Nat} (hG : kz_stat G) (hN : kz_nc G) (hc : c + 67 ≤ mc) (hs : sl + 619 ≤ ms) (hX : va_X (G.2.2.2 x0) N xs G.2.2.1 G.2.2.1.heap) (hb : G.2.2.2 x0 < G.2.2.1.heap.size) (hv : ∀ i : Nat, i < 6 → vp_in (x5 + nI i) N) (hk : kk < 600) (J : lw_J M kk) (K : ∀ M' c' sl', lw_J M' (kk + 1) → c' ≤ c + 67 → sl' ≤ sl + 619 → zL_law_2913 G d mc ms Qr Qx x0 0 99 114 115 x5 M' c' sl') : zL_law_501 G d mc ms Qr Qx x0 0 99 114 115 x5 M c sl := by
  obtain ⟨O, hn, h, sv, isS, er, ea, n, b, l, s, rb, CI, MI, ok, ho⟩ := J
  have hO2 := ok.1.1
  have hO := hO2.1
  have hdy := hO.1.1
  have hmo := hO.1.2.1
  have hnw := hO.1.2.2.1
  have hwk := hO.1.2.2.2.1
  have hne := hO.1.2.2.2.2
  have hn6 := MI.inp.1
  have h8 : hn ≤ 8 := MI.h8
  have ok1 := ok.mono (k := 12000 * (kk + 1)) (by omega)
  have Kz : ∀ M', lw_J M' (kk + 1) → zL_law_2913 G d mc ms Qr Qx x0 0 99 114 115 x5 M' (c + 67) (sl + 619) := fun M' j => K M' _ _ j (Nat.le_refl _) (Nat.le_refl _)
  refine rL_law_501 (by omega) (by omega) hX hb ⟨hv 1 (by omega), hv 2 (by omega), 67, 619, hc, hs, rL_writer_0 hN ⟨⟨_, CI.1⟩, 67, 619, by omega, by omega, c_writerQ hG CI hO (by omega) (by omega) ?_ ?_ ?_⟩⟩
  · intro a0 g
    exact Or.inl ⟨rfl, _, rfl, hv 1 (by omega), hv 2 (by omega), (MI.gr g).ob, m_writer (MI.gr g) hO2 (fun b0 M4 s4 rb4 C4 I4 e4 => by
      exact ⟨_, rfl, lw_chk (zz := fun M7 => zL_law_2913 G d mc ms Qr Qx x0 0 99 114 115 x5 M7 (c + 67) (sl + 619)) I4 e4 rfl (by omega) (fun z => by cases z) (Kz M4 (lw_go (CI.gr g) C4 I4 (ok1) (ho.gr g)))⟩) (fun j2 b0 b1 b2 => by
      exact (a0 j2 b0 b1).elim) (fun j2 k2 b0 b1 b2 b3 => by
      exact (a0 j2 b0 b1).elim)⟩
  · intro j a0 a1 a2 g
    exact Or.inr (⟨rfl, _, rfl, hv 1 (by omega), hv 2 (by omega), (MI.gr g).ob, m_writer (MI.gr g) hO2 (fun b0 => by
      exact (b0 j a0 a1).elim) (fun j2 b0 b1 b2 M4 s4 rb4 C4 I4 e4 => by
      have u_j2 := ow_inj (by omega) (by omega) a1 b1
      subst u_j2
      exact ⟨_, rfl, lw_chk (zz := fun M7 => zL_law_2913 G d mc ms Qr Qx x0 0 99 114 115 x5 M7 (c + 67) (sl + 619)) I4 e4 rfl (by omega) (fun z => by cases z) (Kz M4 (lw_go (CI.gr g) C4 I4 (ok1) (ho.gr g)))⟩) (fun j2 k2 b0 b1 b2 b3 => by
      have u_j2 := ow_inj (by omega) (by omega) a1 b1
      subst u_j2
      exact (a2 k2 b2 b3).elim)⟩)
  · intro j k a0 a1 a2 a3 M1 C1 CI1
    have w4_k := ow_hi_le k a2
    have MI1 := MI.cf' C1
    have ho1 := ho.cf C1
    obtain ⟨F, f1⟩ := ho1.1
    exact ⟨_, rfl, _, _, f1, vp_in_nI (n := 0) (N := 1) (by omega) (by omega), _, rfl, hv 1 (by omega), hv 2 (by omega), ⟨_, (kz_up_ne (by omega)).trans MI1.1⟩, m_writer (MI1.cl fun k h1 h2 => kz_up_ne (by omega)) hO2 (fun b0 => by
      exact (b0 j a0 a1).elim) (fun j2 b0 b1 b2 => by
      have u_j2 := ow_inj (by omega) (by omega) a1 b1
      subst u_j2
      exact (b2 k a2 a3).elim) (fun j2 k2 b0 b1 b2 b3 M4 s4 rb4 C4 I4 e4 => by
      have u_j2 := ow_inj (by omega) (by omega) a1 b1
      subst u_j2
      have u_k2 := ow_inj (by omega) (by omega) a3 b3
      subst u_k2
      exact ⟨_, rfl, lw_chk (zz := fun M7 => zL_law_2913 G d mc ms Qr Qx x0 0 99 114 115 x5 M7 (c + 67) (sl + 619)) I4 e4 rfl (by omega) (fun _ => ⟨_, (C4.1 114 (by omega)).trans (kz_up_same _ _ _), if_pos rfl⟩) (Kz M4 (lw_go (CI1.md (fun k hk => kz_up_ne (by omega)) (Nat.le_refl _)) C4 I4 (ok1) (ho1.up4 _)))⟩)⟩
theorem lw_work {G : kz_G} {N : Nat} {xs : Nat → Int32} {d mc ms : Nat} {Qr : Option Value → kz_M → Prop} {Qx : String → kz_M → Prop} {x0 : Nat} {x5 : Int32} {M : kz_M} {c sl kk : Nat} (hG : kz_stat G) (hN : kz_nc G) (hc : c + 67 ≤ mc) (hs : sl + 619 ≤ ms) (hX : va_X (G.2.2.2 x0) N xs G.2.2.1 G.2.2.1.heap) (hb : G.2.2.2 x0 < G.2.2.1.heap.size) (hv : ∀ i : Nat, i < 6 → vp_in (x5 + nI i) N) (hk : kk < 600) (J : lw_J M kk) (K : ∀ M' c' sl', lw_J M' (kk + 1) → c' ≤ c + 67 → sl' ≤ sl + 619 → zL_law_2913 G d mc ms Qr Qx x0 0 99 114 115 x5 M' c' sl') : zL_law_569 G d mc ms Qr Qx x0 0 99 114 115 x5 M c sl := by
  obtain ⟨O, hn, h, sv, isS, er, ea, n, b, l, s, rb, CI, MI, ok, ho⟩ := J
  have hO2 := ok.1.1
  have hO := hO2.1
  have hdy := hO.1.1
  have hmo := hO.1.2.1
  have hnw := hO.1.2.2.1
  have hwk := hO.1.2.2.2.1
  have hne := hO.1.2.2.2.2
  have hn6 := MI.inp.1
  have h8 : hn ≤ 8 := MI.h8
  have ok1 := ok.mono (k := 12000 * (kk + 1)) (by omega)
  have Kz : ∀ M', lw_J M' (kk + 1) → zL_law_2913 G d mc ms Qr Qx x0 0 99 114 115 x5 M' (c + 67) (sl + 619) := fun M' j => K M' _ _ j (Nat.le_refl _) (Nat.le_refl _)
  refine rL_law_569 (by omega) (by omega) hX hb ⟨hv 1 (by omega), hv 2 (by omega), 67, 619, hc, hs, rL_work_0 hN ⟨⟨_, CI.1⟩, 67, 619, by omega, by omega, c_work hG CI hO (by omega) (by omega) ?_ ?_ ?_⟩⟩
  · intro a0 g
    exact Or.inl ⟨rfl, _, rfl, hv 1 (by omega), hv 2 (by omega), (MI.gr g).ob, m_work (MI.gr g) hO2 (fun b0 M4 s4 rb4 C4 I4 e4 => by
      exact ⟨_, rfl, lw_chk (zz := fun M7 => zL_law_2913 G d mc ms Qr Qx x0 0 99 114 115 x5 M7 (c + 67) (sl + 619)) I4 e4 rfl (by omega) (fun z => by cases z) (Kz M4 (lw_go (CI.gr g) C4 I4 (ok1) (ho.gr g)))⟩) (fun j2 b0 b1 b2 => by
      exact (a0 j2 b0 b1).elim) (fun j2 k2 b0 b1 b2 b3 => by
      exact (a0 j2 b0 b1).elim)⟩
  · intro j a0 a1 a2 g
    have w2_j := (hO.2.2.2 j a0).2.1
    have w3_j := (hO.2.2.2 j a0).1.2.2.1
    exact Or.inr (⟨rfl, _, rfl, hv 1 (by omega), hv 2 (by omega), (MI.gr g).ob, m_work (MI.gr g) hO2 (fun b0 => by
      exact (b0 j a0 a1).elim) (fun j2 b0 b1 b2 M4 s4 rb4 C4 I4 e4 => by
      have u_j2 := ow_inj (by omega) (by omega) a1 b1
      subst u_j2
      exact ⟨_, rfl, lw_chk (zz := fun M7 => zL_law_2913 G d mc ms Qr Qx x0 0 99 114 115 x5 M7 (c + 67) (sl + 619)) I4 e4 rfl (by omega) (fun z => by cases z) (Kz M4 (lw_go (CI.gr g) C4 I4 (ok1) (ho.gr g)))⟩) (fun j2 k2 b0 b1 b2 b3 => by
      have u_j2 := ow_inj (by omega) (by omega) a1 b1
      subst u_j2
      exact (a2 k2 b2 b3).elim)⟩)
  · intro j k a0 a1 a2 a3
    have w2_j := (hO.2.2.2 j a0).2.1
    have w3_j := (hO.2.2.2 j a0).1.2.2.1
    obtain ⟨F, f1⟩ := ho.1
    exact ⟨_, rfl, _, _, f1, vp_in_nI (n := 0) (N := 1) (by omega) (by omega), _, rfl, hv 1 (by omega), hv 2 (by omega), ⟨_, (kz_up_ne (by omega)).trans MI.1⟩, m_work (MI.cl fun k h1 h2 => kz_up_ne (by omega)) hO2 (fun b0 => by
      exact (b0 j a0 a1).elim) (fun j2 b0 b1 b2 => by
      have u_j2 := ow_inj (by omega) (by omega) a1 b1
      subst u_j2
      exact (b2 k a2 a3).elim) (fun j2 k2 b0 b1 b2 b3 M4 s4 rb4 C4 I4 e4 => by
      have u_j2 := ow_inj (by omega) (by omega) a1 b1
      subst u_j2
      have u_k2 := ow_inj (by omega) (by omega) a3 b3
      subst u_k2
      exact ⟨_, rfl, lw_chk (zz := fun M7 => zL_law_2913 G d mc ms Qr Qx x0 0 99 114 115 x5 M7 (c + 67) (sl + 619)) I4 e4 rfl (by omega) (fun _ => ⟨_, (C4.1 114 (by omega)).trans (kz_up_same _ _ _), if_pos rfl⟩) (Kz M4 (lw_go (CI.md (fun k hk => kz_up_ne (by omega)) (Nat.le_refl _)) C4 I4 (ok1) (ho.up4 _)))⟩)⟩
theorem lw_line {G : kz_G} {N : Nat} {xs : Nat → Int32} {d mc ms : Nat} {Qr : Option Value → kz_M → Prop} {Qx : String → kz_M → Prop} {x0 : Nat} {x5 : Int32} {M : kz_M} {c sl kk : Nat} (hG : kz_stat G) (hN : kz_nc G) (hc : c + 67 ≤ mc) (hs : sl + 619 ≤ ms) (hX : va_X (G.2.2.2 x0) N xs G.2.2.1 G.2.2.1.heap) (hb : G.2.2.2 x0 < G.2.2.1.heap.size) (hv : ∀ i : Nat, i < 6 → vp_in (x5 + nI i) N) (hk : kk < 600) (J : lw_J M kk) (K : ∀ M' c' sl', lw_J M' (kk + 1) → c' ≤ c + 67 → sl' ≤ sl + 619 → zL_law_2913 G d mc ms Qr Qx x0 0 99 114 115 x5 M' c' sl') : zL_law_637 G d mc ms Qr Qx x0 0 99 114 115 x5 M c sl := by
  obtain ⟨O, hn, h, sv, isS, er, ea, n, b, l, s, rb, CI, MI, ok, ho⟩ := J
  have hO2 := ok.1.1
  have hO := hO2.1
  have hdy := hO.1.1
  have hmo := hO.1.2.1
  have hnw := hO.1.2.2.1
  have hwk := hO.1.2.2.2.1
  have hne := hO.1.2.2.2.2
  have hn6 := MI.inp.1
  have h8 : hn ≤ 8 := MI.h8
  have ok1 := ok.mono (k := 12000 * (kk + 1)) (by omega)
  have Kz : ∀ M', lw_J M' (kk + 1) → zL_law_2913 G d mc ms Qr Qx x0 0 99 114 115 x5 M' (c + 67) (sl + 619) := fun M' j => K M' _ _ j (Nat.le_refl _) (Nat.le_refl _)
  refine rL_law_637 (by omega) (by omega) hX hb ⟨hv 1 (by omega), hv 2 (by omega), hv 3 (by omega), 67, 619, hc, hs, rL_line_0 hN ⟨⟨_, CI.1⟩, 67, 619, by omega, by omega, c_line hG CI hO (by omega) (by omega) ?_ ?_ ?_⟩⟩
  · intro a0 g
    exact Or.inl ⟨rfl, _, rfl, hv 1 (by omega), hv 2 (by omega), hv 3 (by omega), (MI.gr g).ob, m_line (MI.gr g) hO2 (fun b0 M4 s4 rb4 C4 I4 e4 => by
      exact ⟨_, rfl, lw_chk (zz := fun M7 => zL_law_2913 G d mc ms Qr Qx x0 0 99 114 115 x5 M7 (c + 67) (sl + 619)) I4 e4 rfl (by omega) (fun z => by cases z) (Kz M4 (lw_go (CI.gr g) C4 I4 (ok1) (ho.gr g)))⟩) (fun j2 k2 b0 b1 b2 b3 b4 => by
      exact (a0 j2 k2 b0 b2 b1 b3).elim) (fun j2 k2 i2 b0 b1 b2 b3 b4 b5 => by
      exact (a0 j2 k2 b0 b2 b1 b3).elim)⟩
  · intro j k a0 a1 a2 a3 a4 g
    have w2_j := (hO.2.2.2 j a0).2.1
    have w3_j := (hO.2.2.2 j a0).1.2.2.1
    exact Or.inr (⟨rfl, _, rfl, hv 1 (by omega), hv 2 (by omega), hv 3 (by omega), (MI.gr g).ob, m_line (MI.gr g) hO2 (fun b0 => by
      exact (b0 j k a0 a2 a1 a3).elim) (fun j2 k2 b0 b1 b2 b3 b4 M4 s4 rb4 C4 I4 e4 => by
      have u_j2 := ow_inj (by omega) (by omega) a1 b1
      subst u_j2
      have u_k2 := ow_inj (by omega) (by omega) a3 b3
      subst u_k2
      exact ⟨_, rfl, lw_chk (zz := fun M7 => zL_law_2913 G d mc ms Qr Qx x0 0 99 114 115 x5 M7 (c + 67) (sl + 619)) I4 e4 rfl (by omega) (fun z => by cases z) (Kz M4 (lw_go (CI.gr g) C4 I4 (ok1) (ho.gr g)))⟩) (fun j2 k2 i2 b0 b1 b2 b3 b4 b5 => by
      have u_j2 := ow_inj (by omega) (by omega) a1 b1
      subst u_j2
      have u_k2 := ow_inj (by omega) (by omega) a3 b3
      subst u_k2
      exact (a4 i2 b4 b5).elim)⟩)
  · intro j k i a0 a1 a2 a3 a4 a5
    have w2_j := (hO.2.2.2 j a0).2.1
    have w3_j := (hO.2.2.2 j a0).1.2.2.1
    obtain ⟨F, f1⟩ := ho.1
    exact ⟨_, rfl, _, _, f1, vp_in_nI (n := 0) (N := 1) (by omega) (by omega), _, rfl, hv 1 (by omega), hv 2 (by omega), hv 3 (by omega), ⟨_, (kz_up_ne (by omega)).trans MI.1⟩, m_line (MI.cl fun k h1 h2 => kz_up_ne (by omega)) hO2 (fun b0 => by
      exact (b0 j k a0 a2 a1 a3).elim) (fun j2 k2 b0 b1 b2 b3 b4 => by
      have u_j2 := ow_inj (by omega) (by omega) a1 b1
      subst u_j2
      have u_k2 := ow_inj (by omega) (by omega) a3 b3
      subst u_k2
      exact (b4 i a4 a5).elim) (fun j2 k2 i2 b0 b1 b2 b3 b4 b5 M4 s4 rb4 C4 I4 e4 => by
      have u_j2 := ow_inj (by omega) (by omega) a1 b1
      subst u_j2
      have u_k2 := ow_inj (by omega) (by omega) a3 b3
      subst u_k2
      have u_i2 := ow_inj (by omega) (by omega) a5 b5
      subst u_i2
      exact ⟨_, rfl, lw_chk (zz := fun M7 => zL_law_2913 G d mc ms Qr Qx x0 0 99 114 115 x5 M7 (c + 67) (sl + 619)) I4 e4 rfl (by omega) (fun _ => ⟨_, (C4.1 114 (by omega)).trans (kz_up_same _ _ _), if_pos rfl⟩) (Kz M4 (lw_go (CI.md (fun k hk => kz_up_ne (by omega)) (Nat.le_refl _)) C4 I4 (ok1) (ho.up4 _)))⟩)⟩
theorem lw_likeLine {G : kz_G} {N : Nat} {xs : Nat → Int32} {d mc ms : Nat} {Qr : Option Value → kz_M → Prop} {Qx : String → kz_M → Prop} {x0 : Nat} {x5 : Int32} {M : kz_M} {c sl kk : Nat} (hG : kz_stat G) (hN : kz_nc G) (hc : c + 67 ≤ mc) (hs : sl + 619 ≤ ms) (hX : va_X (G.2.2.2 x0) N xs G.2.2.1 G.2.2.1.heap) (hb : G.2.2.2 x0 < G.2.2.1.heap.size) (hv : ∀ i : Nat, i < 6 → vp_in (x5 + nI i) N) (hk : kk < 600) (J : lw_J M kk) (K : ∀ M' c' sl', lw_J M' (kk + 1) → c' ≤ c + 67 → sl' ≤ sl + 619 → zL_law_2913 G d mc ms Qr Qx x0 0 99 114 115 x5 M' c' sl') : zL_law_717 G d mc ms Qr Qx x0 0 99 114 115 x5 M c sl := by
  obtain ⟨O, hn, h, sv, isS, er, ea, n, b, l, s, rb, CI, MI, ok, ho⟩ := J
  have hO2 := ok.1.1
  have hO := hO2.1
  have hdy := hO.1.1
  have hmo := hO.1.2.1
  have hnw := hO.1.2.2.1
  have hwk := hO.1.2.2.2.1
  have hne := hO.1.2.2.2.2
  have hn6 := MI.inp.1
  have h8 : hn ≤ 8 := MI.h8
  have ok1 := ok.mono (k := 12000 * (kk + 1)) (by omega)
  have Kz : ∀ M', lw_J M' (kk + 1) → zL_law_2913 G d mc ms Qr Qx x0 0 99 114 115 x5 M' (c + 67) (sl + 619) := fun M' j => K M' _ _ j (Nat.le_refl _) (Nat.le_refl _)
  refine rL_law_717 (by omega) (by omega) hX hb ⟨hv 1 (by omega), hv 2 (by omega), 67, 619, hc, hs, rL_likeLine_0 ⟨⟨_, CI.1⟩, 67, 619, by omega, by omega, c_likeLine hG CI hO (by omega) (by omega) ?_ ?_⟩⟩
  · intro a0 g
    exact ⟨rfl, _, rfl, hv 1 (by omega), hv 2 (by omega), (MI.gr g).ob, m_likeLine (MI.gr g) hO2 (fun b0 M4 s4 rb4 C4 I4 e4 => by
      exact ⟨_, rfl, lw_chk (zz := fun M7 => zL_law_2913 G d mc ms Qr Qx x0 0 99 114 115 x5 M7 (c + 67) (sl + 619)) I4 e4 rfl (by omega) (fun z => by cases z) (Kz M4 (lw_go (CI.gr g) C4 I4 (ok1) (ho.gr g)))⟩) (fun j2 k2 b0 b1 b2 b3 => by
      exact (a0 j2 k2 b0 b2 b1 b3).elim)⟩
  · intro j k a0 a1 a2 a3
    have w2_j := (hO.2.2.2 j a0).2.1
    have w3_j := (hO.2.2.2 j a0).1.2.2.1
    obtain ⟨F, f1⟩ := ho.1
    exact ⟨_, rfl, _, _, f1, vp_in_nI (n := 0) (N := 1) (by omega) (by omega), _, rfl, hv 1 (by omega), hv 2 (by omega), ⟨_, (kz_up_ne (by omega)).trans MI.1⟩, m_likeLine (MI.cl fun k h1 h2 => kz_up_ne (by omega)) hO2 (fun b0 => by
      exact (b0 j k a0 a2 a1 a3).elim) (fun j2 k2 b0 b1 b2 b3 M4 s4 rb4 C4 I4 e4 => by
      have u_j2 := ow_inj (by omega) (by omega) a1 b1
      subst u_j2
      have u_k2 := ow_inj (by omega) (by omega) a3 b3
      subst u_k2
      exact ⟨_, rfl, lw_chk (zz := fun M7 => zL_law_2913 G d mc ms Qr Qx x0 0 99 114 115 x5 M7 (c + 67) (sl + 619)) I4 e4 rfl (by omega) (fun _ => ⟨_, (C4.1 114 (by omega)).trans (kz_up_same _ _ _), if_pos rfl⟩) (Kz M4 (lw_go (CI.md (fun k hk => kz_up_ne (by omega)) (Nat.le_refl _)) C4 I4 (ok1) (ho.up4 _)))⟩)⟩
theorem lw_letters {G : kz_G} {N : Nat} {xs : Nat → Int32} {d mc ms : Nat} {Qr : Option Value → kz_M → Prop} {Qx : String → kz_M → Prop} {x0 : Nat} {x5 : Int32} {M : kz_M} {c sl kk : Nat} (hG : kz_stat G) (hN : kz_nc G) (hc : c + 67 ≤ mc) (hs : sl + 619 ≤ ms) (hX : va_X (G.2.2.2 x0) N xs G.2.2.1 G.2.2.1.heap) (hb : G.2.2.2 x0 < G.2.2.1.heap.size) (hv : ∀ i : Nat, i < 6 → vp_in (x5 + nI i) N) (hk : kk < 600) (J : lw_J M kk) (K : ∀ M' c' sl', lw_J M' (kk + 1) → c' ≤ c + 67 → sl' ≤ sl + 619 → zL_law_2913 G d mc ms Qr Qx x0 0 99 114 115 x5 M' c' sl') : zL_law_785 G d mc ms Qr Qx x0 0 99 114 115 x5 M c sl := by
  obtain ⟨O, hn, h, sv, isS, er, ea, n, b, l, s, rb, CI, MI, ok, ho⟩ := J
  have hO2 := ok.1.1
  have hO := hO2.1
  have hdy := hO.1.1
  have hmo := hO.1.2.1
  have hnw := hO.1.2.2.1
  have hwk := hO.1.2.2.2.1
  have hne := hO.1.2.2.2.2
  have hn6 := MI.inp.1
  have h8 : hn ≤ 8 := MI.h8
  have ok1 := ok.mono (k := 12000 * (kk + 1)) (by omega)
  have Kz : ∀ M', lw_J M' (kk + 1) → zL_law_2913 G d mc ms Qr Qx x0 0 99 114 115 x5 M' (c + 67) (sl + 619) := fun M' j => K M' _ _ j (Nat.le_refl _) (Nat.le_refl _)
  refine rL_law_785 (by omega) (by omega) hX hb ⟨hv 1 (by omega), hv 2 (by omega), 67, 619, hc, hs, rL_letters_0 ⟨⟨_, CI.1⟩, 67, 619, by omega, by omega, c_letters hG CI hO (by omega) (by omega) ?_ ?_⟩⟩
  · intro a0 g
    exact ⟨rfl, _, rfl, hv 1 (by omega), hv 2 (by omega), (MI.gr g).ob, m_letters (MI.gr g) hO2 (fun b0 M4 s4 rb4 C4 I4 e4 => by
      exact ⟨_, rfl, lw_chk (zz := fun M7 => zL_law_2913 G d mc ms Qr Qx x0 0 99 114 115 x5 M7 (c + 67) (sl + 619)) I4 e4 rfl (by omega) (fun z => by cases z) (Kz M4 (lw_go (CI.gr g) C4 I4 (ok1) (ho.gr g)))⟩) (fun j2 k2 b0 b1 b2 b3 => by
      exact (a0 j2 k2 b0 b1 b2 b3).elim)⟩
  · intro j k a0 a1 a2 a3
    have w2_j := (hO.2.2.2 j a0).2.1
    have w3_j := (hO.2.2.2 j a0).1.2.2.1
    obtain ⟨F, f1⟩ := ho.1
    exact ⟨_, rfl, _, _, f1, vp_in_nI (n := 0) (N := 1) (by omega) (by omega), _, rfl, hv 1 (by omega), hv 2 (by omega), ⟨_, (kz_up_ne (by omega)).trans MI.1⟩, m_letters (MI.cl fun k h1 h2 => kz_up_ne (by omega)) hO2 (fun b0 => by
      exact (b0 j k a0 a2 a1 a3).elim) (fun j2 k2 b0 b1 b2 b3 M4 s4 rb4 C4 I4 e4 => by
      have u_j2 := ow_inj (by omega) (by omega) a1 b2
      subst u_j2
      have u_k2 := ow_inj (by omega) (by omega) a3 b3
      subst u_k2
      exact ⟨_, rfl, lw_chk (zz := fun M7 => zL_law_2913 G d mc ms Qr Qx x0 0 99 114 115 x5 M7 (c + 67) (sl + 619)) I4 e4 rfl (by omega) (fun _ => ⟨_, (C4.1 114 (by omega)).trans (kz_up_same _ _ _), if_pos rfl⟩) (Kz M4 (lw_go (CI.md (fun k hk => kz_up_ne (by omega)) (Nat.le_refl _)) C4 I4 (ok1) (ho.up4 _)))⟩)⟩
theorem lw_uses {G : kz_G} {N : Nat} {xs : Nat → Int32} {d mc ms : Nat} {Qr : Option Value → kz_M → Prop} {Qx : String → kz_M → Prop} {x0 : Nat} {x5 : Int32} {M : kz_M} {c sl kk : Nat} (hG : kz_stat G) (hN : kz_nc G) (hc : c + 67 ≤ mc) (hs : sl + 619 ≤ ms) (hX : va_X (G.2.2.2 x0) N xs G.2.2.1 G.2.2.1.heap) (hb : G.2.2.2 x0 < G.2.2.1.heap.size) (hv : ∀ i : Nat, i < 6 → vp_in (x5 + nI i) N) (hk : kk < 600) (J : lw_J M kk) (K : ∀ M' c' sl', lw_J M' (kk + 1) → c' ≤ c + 67 → sl' ≤ sl + 619 → zL_law_2913 G d mc ms Qr Qx x0 0 99 114 115 x5 M' c' sl') : zL_law_853 G d mc ms Qr Qx x0 0 99 114 115 x5 M c sl := by
  obtain ⟨O, hn, h, sv, isS, er, ea, n, b, l, s, rb, CI, MI, ok, ho⟩ := J
  have hO2 := ok.1.1
  have hO := hO2.1
  have hdy := hO.1.1
  have hmo := hO.1.2.1
  have hnw := hO.1.2.2.1
  have hwk := hO.1.2.2.2.1
  have hne := hO.1.2.2.2.2
  have hn6 := MI.inp.1
  have h8 : hn ≤ 8 := MI.h8
  have ok1 := ok.mono (k := 12000 * (kk + 1)) (by omega)
  have Kz : ∀ M', lw_J M' (kk + 1) → zL_law_2913 G d mc ms Qr Qx x0 0 99 114 115 x5 M' (c + 67) (sl + 619) := fun M' j => K M' _ _ j (Nat.le_refl _) (Nat.le_refl _)
  refine rL_law_853 (by omega) (by omega) hX hb ⟨hv 1 (by omega), 67, 619, hc, hs, rL_uses_0 ⟨⟨_, CI.1⟩, 67, 619, by omega, by omega, c_uses hG CI hO (by omega) (by omega) ?_ ?_⟩⟩
  · intro a0 g
    exact ⟨rfl, _, rfl, hv 1 (by omega), (MI.gr g).ob, m_uses (MI.gr g) hO2 (fun b0 M4 s4 rb4 C4 I4 e4 => by
      exact ⟨_, rfl, lw_chk (zz := fun M7 => zL_law_2913 G d mc ms Qr Qx x0 0 99 114 115 x5 M7 (c + 67) (sl + 619)) I4 e4 rfl (by omega) (fun z => by cases z) (Kz M4 (lw_go (CI.gr g) C4 I4 (ok1) (ho.gr g)))⟩) (fun j2 b0 b1 => by
      exact (a0 j2 b0 b1).elim)⟩
  · intro j a0 a1 M1 C1 CI1
    have MI1 := MI.cf' C1
    have ho1 := ho.cf C1
    obtain ⟨F, f1⟩ := ho1.1
    exact ⟨_, rfl, _, _, f1, vp_in_nI (n := 0) (N := 1) (by omega) (by omega), _, rfl, hv 1 (by omega), ⟨_, (kz_up_ne (by omega)).trans MI1.1⟩, m_uses (MI1.cl fun k h1 h2 => kz_up_ne (by omega)) hO2 (fun b0 => by
      exact (b0 j a0 a1).elim) (fun j2 b0 b1 M4 s4 rb4 C4 I4 e4 => by
      have u_j2 := ow_inj (by omega) (by omega) a1 b1
      subst u_j2
      exact ⟨_, rfl, lw_chk (zz := fun M7 => zL_law_2913 G d mc ms Qr Qx x0 0 99 114 115 x5 M7 (c + 67) (sl + 619)) I4 e4 rfl (by omega) (fun _ => ⟨_, (C4.1 114 (by omega)).trans (kz_up_same _ _ _), if_pos rfl⟩) (Kz M4 (lw_go (CI1.md (fun k hk => kz_up_ne (by omega)) (Nat.le_refl _)) C4 I4 (ok1) (ho1.up4 _)))⟩)⟩
theorem lw_favourite {G : kz_G} {N : Nat} {xs : Nat → Int32} {d mc ms : Nat} {Qr : Option Value → kz_M → Prop} {Qx : String → kz_M → Prop} {x0 : Nat} {x5 : Int32} {M : kz_M} {c sl kk : Nat} (hG : kz_stat G) (hN : kz_nc G) (hc : c + 67 ≤ mc) (hs : sl + 619 ≤ ms) (hX : va_X (G.2.2.2 x0) N xs G.2.2.1 G.2.2.1.heap) (hb : G.2.2.2 x0 < G.2.2.1.heap.size) (hv : ∀ i : Nat, i < 6 → vp_in (x5 + nI i) N) (hk : kk < 600) (J : lw_J M kk) (K : ∀ M' c' sl', lw_J M' (kk + 1) → c' ≤ c + 67 → sl' ≤ sl + 619 → zL_law_2913 G d mc ms Qr Qx x0 0 99 114 115 x5 M' c' sl') : zL_law_909 G d mc ms Qr Qx x0 0 99 114 115 x5 M c sl := by
  obtain ⟨O, hn, h, sv, isS, er, ea, n, b, l, s, rb, CI, MI, ok, ho⟩ := J
  have hO2 := ok.1.1
  have hO := hO2.1
  have hdy := hO.1.1
  have hmo := hO.1.2.1
  have hnw := hO.1.2.2.1
  have hwk := hO.1.2.2.2.1
  have hne := hO.1.2.2.2.2
  have hn6 := MI.inp.1
  have h8 : hn ≤ 8 := MI.h8
  have ok1 := ok.mono (k := 12000 * (kk + 1)) (by omega)
  have Kz : ∀ M', lw_J M' (kk + 1) → zL_law_2913 G d mc ms Qr Qx x0 0 99 114 115 x5 M' (c + 67) (sl + 619) := fun M' j => K M' _ _ j (Nat.le_refl _) (Nat.le_refl _)
  refine rL_law_909 (by omega) (by omega) hX hb ⟨hv 1 (by omega), 67, 619, hc, hs, rL_favourite_0 ⟨⟨_, CI.1⟩, 67, 619, by omega, by omega, c_favourite hG CI hO (by omega) (by omega) ?_ ?_⟩⟩
  · intro a0 g
    exact ⟨rfl, _, rfl, hv 1 (by omega), (MI.gr g).ob, m_favourite (MI.gr g) hO2 (fun b0 M4 s4 rb4 C4 I4 e4 => by
      exact ⟨_, rfl, lw_chk (zz := fun M7 => zL_law_2913 G d mc ms Qr Qx x0 0 99 114 115 x5 M7 (c + 67) (sl + 619)) I4 e4 rfl (by omega) (fun z => by cases z) (Kz M4 (lw_go (CI.gr g) C4 I4 (ok1) (ho.gr g)))⟩) (fun j2 b0 b1 => by
      exact (a0 j2 b0 b1).elim)⟩
  · intro j a0 a1 M1 C1 CI1
    have MI1 := MI.cf' C1
    have ho1 := ho.cf C1
    obtain ⟨F, f1⟩ := ho1.1
    exact ⟨_, rfl, _, _, f1, vp_in_nI (n := 0) (N := 1) (by omega) (by omega), _, rfl, hv 1 (by omega), ⟨_, (kz_up_ne (by omega)).trans MI1.1⟩, m_favourite (MI1.cl fun k h1 h2 => kz_up_ne (by omega)) hO2 (fun b0 => by
      exact (b0 j a0 a1).elim) (fun j2 b0 b1 M4 s4 rb4 C4 I4 e4 => by
      have u_j2 := ow_inj (by omega) (by omega) a1 b1
      subst u_j2
      exact ⟨_, rfl, lw_chk (zz := fun M7 => zL_law_2913 G d mc ms Qr Qx x0 0 99 114 115 x5 M7 (c + 67) (sl + 619)) I4 e4 rfl (by omega) (fun _ => ⟨_, (C4.1 114 (by omega)).trans (kz_up_same _ _ _), if_pos rfl⟩) (Kz M4 (lw_go (CI1.md (fun k hk => kz_up_ne (by omega)) (Nat.le_refl _)) C4 I4 (ok1) (ho1.up4 _)))⟩)⟩
theorem lw_common {G : kz_G} {N : Nat} {xs : Nat → Int32} {d mc ms : Nat} {Qr : Option Value → kz_M → Prop} {Qx : String → kz_M → Prop} {x0 : Nat} {x5 : Int32} {M : kz_M} {c sl kk : Nat} (hG : kz_stat G) (hN : kz_nc G) (hc : c + 67 ≤ mc) (hs : sl + 619 ≤ ms) (hX : va_X (G.2.2.2 x0) N xs G.2.2.1 G.2.2.1.heap) (hb : G.2.2.2 x0 < G.2.2.1.heap.size) (hv : ∀ i : Nat, i < 6 → vp_in (x5 + nI i) N) (hk : kk < 600) (J : lw_J M kk) (K : ∀ M' c' sl', lw_J M' (kk + 1) → c' ≤ c + 67 → sl' ≤ sl + 619 → zL_law_2913 G d mc ms Qr Qx x0 0 99 114 115 x5 M' c' sl') : zL_law_965 G d mc ms Qr Qx x0 0 99 114 115 x5 M c sl := by
  obtain ⟨O, hn, h, sv, isS, er, ea, n, b, l, s, rb, CI, MI, ok, ho⟩ := J
  have hO2 := ok.1.1
  have hO := hO2.1
  have hdy := hO.1.1
  have hmo := hO.1.2.1
  have hnw := hO.1.2.2.1
  have hwk := hO.1.2.2.2.1
  have hne := hO.1.2.2.2.2
  have hn6 := MI.inp.1
  have h8 : hn ≤ 8 := MI.h8
  have ok1 := ok.mono (k := 12000 * (kk + 1)) (by omega)
  have Kz : ∀ M', lw_J M' (kk + 1) → zL_law_2913 G d mc ms Qr Qx x0 0 99 114 115 x5 M' (c + 67) (sl + 619) := fun M' j => K M' _ _ j (Nat.le_refl _) (Nat.le_refl _)
  refine rL_law_965 (by omega) (by omega) hX hb ⟨hv 1 (by omega), hv 2 (by omega), 67, 619, hc, hs, rL_common_0 ⟨⟨_, CI.1⟩, 67, 619, by omega, by omega, c_common hG CI hO (by omega) (by omega) ?_ ?_ ?_⟩⟩
  · intro a0 g
    exact ⟨rfl, _, rfl, hv 1 (by omega), hv 2 (by omega), (MI.gr g).ob, m_common (MI.gr g) hO2 (fun b0 M4 s4 rb4 C4 I4 e4 => by
      exact ⟨_, rfl, lw_chk (zz := fun M7 => zL_law_2913 G d mc ms Qr Qx x0 0 99 114 115 x5 M7 (c + 67) (sl + 619)) I4 e4 rfl (by omega) (fun z => by cases z) (Kz M4 (lw_go (CI.gr g) C4 I4 (ok1) (ho.gr g)))⟩) (fun b0 M4 s4 rb4 C4 I4 e4 => by
      exact ⟨_, rfl, lw_chk (zz := fun M7 => zL_law_2913 G d mc ms Qr Qx x0 0 99 114 115 x5 M7 (c + 67) (sl + 619)) I4 e4 rfl (by omega) (fun z => by cases z) (Kz M4 (lw_go (CI.gr g) C4 I4 ok1 (ho.gr g)))⟩) (fun j2 k2 b0 b1 b2 b3 => by
      exact (a0 j2 b0 b1).elim)⟩
  · intro a0 g
    exact ⟨rfl, _, rfl, hv 1 (by omega), hv 2 (by omega), (MI.gr g).ob, m_common (MI.gr g) hO2 (fun b0 M4 s4 rb4 C4 I4 e4 => by
      exact ⟨_, rfl, lw_chk (zz := fun M7 => zL_law_2913 G d mc ms Qr Qx x0 0 99 114 115 x5 M7 (c + 67) (sl + 619)) I4 e4 rfl (by omega) (fun z => by cases z) (Kz M4 (lw_go (CI.gr g) C4 I4 ok1 (ho.gr g)))⟩) (fun b0 M4 s4 rb4 C4 I4 e4 => by
      exact ⟨_, rfl, lw_chk (zz := fun M7 => zL_law_2913 G d mc ms Qr Qx x0 0 99 114 115 x5 M7 (c + 67) (sl + 619)) I4 e4 rfl (by omega) (fun z => by cases z) (Kz M4 (lw_go (CI.gr g) C4 I4 (ok1) (ho.gr g)))⟩) (fun j2 k2 b0 b1 b2 b3 => by
      exact (a0 k2 b2 b3).elim)⟩
  · intro j k a0 a1 a2 a3
    have w2_j := (hO.2.2.2 j a0).2.1
    have w3_j := (hO.2.2.2 j a0).1.2.2.1
    have w2_k := (hO.2.2.2 k a2).2.1
    have w3_k := (hO.2.2.2 k a2).1.2.2.1
    obtain ⟨F, f1⟩ := ho.1
    exact ⟨_, rfl, _, _, f1, vp_in_nI (n := 0) (N := 1) (by omega) (by omega), _, rfl, hv 1 (by omega), hv 2 (by omega), ⟨_, (kz_up_ne (by omega)).trans MI.1⟩, m_common (MI.cl fun k h1 h2 => kz_up_ne (by omega)) hO2 (fun b0 => by
      exact (b0 j a0 a1).elim) (fun b0 => by
      exact (b0 k a2 a3).elim) (fun j2 k2 b0 b1 b2 b3 M4 s4 rb4 C4 I4 e4 => by
      have u_j2 := ow_inj (by omega) (by omega) a1 b1
      subst u_j2
      have u_k2 := ow_inj (by omega) (by omega) a3 b3
      subst u_k2
      exact ⟨_, rfl, lw_chk (zz := fun M7 => zL_law_2913 G d mc ms Qr Qx x0 0 99 114 115 x5 M7 (c + 67) (sl + 619)) I4 e4 rfl (by omega) (fun _ => ⟨_, (C4.1 114 (by omega)).trans (kz_up_same _ _ _), if_pos rfl⟩) (Kz M4 (lw_go (CI.md (fun k hk => kz_up_ne (by omega)) (Nat.le_refl _)) C4 I4 (ok1) (ho.up4 _)))⟩)⟩
theorem lw_newWords {G : kz_G} {N : Nat} {xs : Nat → Int32} {d mc ms : Nat} {Qr : Option Value → kz_M → Prop} {Qx : String → kz_M → Prop} {x0 : Nat} {x5 : Int32} {M : kz_M} {c sl kk : Nat} (hG : kz_stat G) (hN : kz_nc G) (hc : c + 67 ≤ mc) (hs : sl + 619 ≤ ms) (hX : va_X (G.2.2.2 x0) N xs G.2.2.1 G.2.2.1.heap) (hb : G.2.2.2 x0 < G.2.2.1.heap.size) (hv : ∀ i : Nat, i < 6 → vp_in (x5 + nI i) N) (hk : kk < 600) (J : lw_J M kk) (K : ∀ M' c' sl', lw_J M' (kk + 1) → c' ≤ c + 67 → sl' ≤ sl + 619 → zL_law_2913 G d mc ms Qr Qx x0 0 99 114 115 x5 M' c' sl') : zL_law_1033 G d mc ms Qr Qx x0 0 99 114 115 x5 M c sl := by
  obtain ⟨O, hn, h, sv, isS, er, ea, n, b, l, s, rb, CI, MI, ok, ho⟩ := J
  have hO2 := ok.1.1
  have hO := hO2.1
  have hdy := hO.1.1
  have hmo := hO.1.2.1
  have hnw := hO.1.2.2.1
  have hwk := hO.1.2.2.2.1
  have hne := hO.1.2.2.2.2
  have hn6 := MI.inp.1
  have h8 : hn ≤ 8 := MI.h8
  have ok1 := ok.mono (k := 12000 * (kk + 1)) (by omega)
  have Kz : ∀ M', lw_J M' (kk + 1) → zL_law_2913 G d mc ms Qr Qx x0 0 99 114 115 x5 M' (c + 67) (sl + 619) := fun M' j => K M' _ _ j (Nat.le_refl _) (Nat.le_refl _)
  refine rL_law_1033 (by omega) (by omega) hX hb ⟨hv 1 (by omega), 67, 619, hc, hs, rL_newWords_0 ⟨⟨_, CI.1⟩, 67, 619, by omega, by omega, c_newWords hG CI hO (by omega) (by omega) ?_ ?_⟩⟩
  · intro a0 g
    exact ⟨rfl, _, rfl, hv 1 (by omega), (MI.gr g).ob, m_newWords (MI.gr g) hO2 (fun b0 M4 s4 rb4 C4 I4 e4 => by
      exact ⟨_, rfl, lw_chk (zz := fun M7 => zL_law_2913 G d mc ms Qr Qx x0 0 99 114 115 x5 M7 (c + 67) (sl + 619)) I4 e4 rfl (by omega) (fun z => by cases z) (Kz M4 (lw_go (CI.gr g) C4 I4 (ok1) (ho.gr g)))⟩) (fun j2 b0 b1 => by
      exact (a0 j2 b0 b1).elim)⟩
  · intro j a0 a1
    have w2_j := (hO.2.2.2 j a0).2.1
    have w3_j := (hO.2.2.2 j a0).1.2.2.1
    obtain ⟨F, f1⟩ := ho.1
    exact ⟨_, rfl, _, _, f1, vp_in_nI (n := 0) (N := 1) (by omega) (by omega), _, rfl, hv 1 (by omega), ⟨_, (kz_up_ne (by omega)).trans MI.1⟩, m_newWords (MI.cl fun k h1 h2 => kz_up_ne (by omega)) hO2 (fun b0 => by
      exact (b0 j a0 a1).elim) (fun j2 b0 b1 M4 s4 rb4 C4 I4 e4 => by
      have u_j2 := ow_inj (by omega) (by omega) a1 b1
      subst u_j2
      exact ⟨_, rfl, lw_chk (zz := fun M7 => zL_law_2913 G d mc ms Qr Qx x0 0 99 114 115 x5 M7 (c + 67) (sl + 619)) I4 e4 rfl (by omega) (fun _ => ⟨_, (C4.1 114 (by omega)).trans (kz_up_same _ _ _), if_pos rfl⟩) (Kz M4 (lw_go (CI.md (fun k hk => kz_up_ne (by omega)) (Nat.le_refl _)) C4 I4 (ok1) (ho.up4 _)))⟩)⟩
theorem lw_widest {G : kz_G} {N : Nat} {xs : Nat → Int32} {d mc ms : Nat} {Qr : Option Value → kz_M → Prop} {Qx : String → kz_M → Prop} {x0 : Nat} {x5 : Int32} {M : kz_M} {c sl kk : Nat} (hG : kz_stat G) (hN : kz_nc G) (hc : c + 67 ≤ mc) (hs : sl + 619 ≤ ms) (hX : va_X (G.2.2.2 x0) N xs G.2.2.1 G.2.2.1.heap) (hb : G.2.2.2 x0 < G.2.2.1.heap.size) (hv : ∀ i : Nat, i < 6 → vp_in (x5 + nI i) N) (hk : kk < 600) (J : lw_J M kk) (K : ∀ M' c' sl', lw_J M' (kk + 1) → c' ≤ c + 67 → sl' ≤ sl + 619 → zL_law_2913 G d mc ms Qr Qx x0 0 99 114 115 x5 M' c' sl') : zL_law_1089 G d mc ms Qr Qx x0 0 99 114 115 x5 M c sl := by
  obtain ⟨O, hn, h, sv, isS, er, ea, n, b, l, s, rb, CI, MI, ok, ho⟩ := J
  have hO2 := ok.1.1
  have hO := hO2.1
  have hdy := hO.1.1
  have hmo := hO.1.2.1
  have hnw := hO.1.2.2.1
  have hwk := hO.1.2.2.2.1
  have hne := hO.1.2.2.2.2
  have hn6 := MI.inp.1
  have h8 : hn ≤ 8 := MI.h8
  have ok1 := ok.mono (k := 12000 * (kk + 1)) (by omega)
  have Kz : ∀ M', lw_J M' (kk + 1) → zL_law_2913 G d mc ms Qr Qx x0 0 99 114 115 x5 M' (c + 67) (sl + 619) := fun M' j => K M' _ _ j (Nat.le_refl _) (Nat.le_refl _)
  refine rL_law_1089 (by omega) (by omega) hX hb ⟨hv 1 (by omega), 67, 619, hc, hs, rL_widest_0 ⟨⟨_, CI.1⟩, 67, 619, by omega, by omega, c_widest hG CI hO (by omega) (by omega) ?_ (fun j hj => (hO2.2.2.2 j hj).1) ?_⟩⟩
  · intro a0 g
    exact ⟨rfl, _, rfl, hv 1 (by omega), (MI.gr g).ob, m_widest (MI.gr g) hO2 (fun b0 M4 s4 rb4 C4 I4 e4 => by
      exact ⟨_, rfl, lw_chk (zz := fun M7 => zL_law_2913 G d mc ms Qr Qx x0 0 99 114 115 x5 M7 (c + 67) (sl + 619)) I4 e4 rfl (by omega) (fun z => by cases z) (Kz M4 (lw_go (CI.gr g) C4 I4 (ok1) (ho.gr g)))⟩) (fun j2 b0 b1 => by
      exact (a0 j2 b0 b1).elim)⟩
  · intro j a0 a1
    have w2_j := (hO.2.2.2 j a0).2.1
    have w3_j := (hO.2.2.2 j a0).1.2.2.1
    obtain ⟨F, f1⟩ := ho.1
    exact ⟨_, rfl, _, _, f1, vp_in_nI (n := 0) (N := 1) (by omega) (by omega), _, rfl, hv 1 (by omega), ⟨_, (kz_up_ne (by omega)).trans MI.1⟩, m_widest (MI.cl fun k h1 h2 => kz_up_ne (by omega)) hO2 (fun b0 => by
      exact (b0 j a0 a1).elim) (fun j2 b0 b1 M4 s4 rb4 C4 I4 e4 => by
      have u_j2 := ow_inj (by omega) (by omega) a1 b1
      subst u_j2
      exact ⟨_, rfl, lw_chk (zz := fun M7 => zL_law_2913 G d mc ms Qr Qx x0 0 99 114 115 x5 M7 (c + 67) (sl + 619)) I4 e4 rfl (by omega) (fun _ => ⟨_, (C4.1 114 (by omega)).trans (kz_up_same _ _ _), if_pos rfl⟩) (Kz M4 (lw_go (CI.md (fun k hk => kz_up_ne (by omega)) (Nat.le_refl _)) C4 I4 (ok1) (ho.up4 _)))⟩)⟩
theorem lw_copiedFrom {G : kz_G} {N : Nat} {xs : Nat → Int32} {d mc ms : Nat} {Qr : Option Value → kz_M → Prop} {Qx : String → kz_M → Prop} {x0 : Nat} {x5 : Int32} {M : kz_M} {c sl kk : Nat} (hG : kz_stat G) (hN : kz_nc G) (hc : c + 67 ≤ mc) (hs : sl + 619 ≤ ms) (hX : va_X (G.2.2.2 x0) N xs G.2.2.1 G.2.2.1.heap) (hb : G.2.2.2 x0 < G.2.2.1.heap.size) (hv : ∀ i : Nat, i < 6 → vp_in (x5 + nI i) N) (hk : kk < 600) (J : lw_J M kk) (K : ∀ M' c' sl', lw_J M' (kk + 1) → c' ≤ c + 67 → sl' ≤ sl + 619 → zL_law_2913 G d mc ms Qr Qx x0 0 99 114 115 x5 M' c' sl') : zL_law_1145 G d mc ms Qr Qx x0 0 99 114 115 x5 M c sl := by
  obtain ⟨O, hn, h, sv, isS, er, ea, n, b, l, s, rb, CI, MI, ok, ho⟩ := J
  have hO2 := ok.1.1
  have hO := hO2.1
  have hdy := hO.1.1
  have hmo := hO.1.2.1
  have hnw := hO.1.2.2.1
  have hwk := hO.1.2.2.2.1
  have hne := hO.1.2.2.2.2
  have hn6 := MI.inp.1
  have h8 : hn ≤ 8 := MI.h8
  have ok1 := ok.mono (k := 12000 * (kk + 1)) (by omega)
  have Kz : ∀ M', lw_J M' (kk + 1) → zL_law_2913 G d mc ms Qr Qx x0 0 99 114 115 x5 M' (c + 67) (sl + 619) := fun M' j => K M' _ _ j (Nat.le_refl _) (Nat.le_refl _)
  refine rL_law_1145 (by omega) (by omega) hX hb ⟨hv 1 (by omega), 67, 619, hc, hs, rL_copiedFrom_0 ⟨⟨_, CI.1⟩, 67, 619, by omega, by omega, c_copiedFrom hG CI hO (by omega) (by omega) ?_ ?_⟩⟩
  · intro a0 g
    exact ⟨rfl, _, rfl, hv 1 (by omega), (MI.gr g).ob, m_copiedFrom (MI.gr g) hO2 (fun b0 M4 s4 rb4 C4 I4 e4 => by
      exact ⟨_, rfl, lw_chk (zz := fun M7 => zL_law_2913 G d mc ms Qr Qx x0 0 99 114 115 x5 M7 (c + 67) (sl + 619)) I4 e4 rfl (by omega) (fun z => by cases z) (Kz M4 (lw_go (CI.gr g) C4 I4 (ok1) (ho.gr g)))⟩) (fun j2 b0 b1 => by
      exact (a0 j2 b0 b1).elim)⟩
  · intro j a0 a1
    have w2_j := (hO.2.2.2 j a0).2.1
    have w3_j := (hO.2.2.2 j a0).1.2.2.1
    obtain ⟨F, f1⟩ := ho.1
    exact ⟨_, rfl, _, _, f1, vp_in_nI (n := 0) (N := 1) (by omega) (by omega), _, rfl, hv 1 (by omega), ⟨_, (kz_up_ne (by omega)).trans MI.1⟩, m_copiedFrom (MI.cl fun k h1 h2 => kz_up_ne (by omega)) hO2 (fun b0 => by
      exact (b0 j a0 a1).elim) (fun j2 b0 b1 M4 s4 rb4 C4 I4 e4 => by
      have u_j2 := ow_inj (by omega) (by omega) a1 b1
      subst u_j2
      exact ⟨_, rfl, lw_chk (zz := fun M7 => zL_law_2913 G d mc ms Qr Qx x0 0 99 114 115 x5 M7 (c + 67) (sl + 619)) I4 e4 rfl (by omega) (fun _ => ⟨_, (C4.1 114 (by omega)).trans (kz_up_same _ _ _), if_pos rfl⟩) (Kz M4 (lw_go (CI.md (fun k hk => kz_up_ne (by omega)) (Nat.le_refl _)) C4 I4 (ok1) (ho.up4 _)))⟩)⟩
theorem lw_entry {G : kz_G} {N : Nat} {xs : Nat → Int32} {d mc ms : Nat} {Qr : Option Value → kz_M → Prop} {Qx : String → kz_M → Prop} {x0 : Nat} {x5 : Int32} {M : kz_M} {c sl kk : Nat} (hG : kz_stat G) (hN : kz_nc G) (hc : c + 67 ≤ mc) (hs : sl + 619 ≤ ms) (hX : va_X (G.2.2.2 x0) N xs G.2.2.1 G.2.2.1.heap) (hb : G.2.2.2 x0 < G.2.2.1.heap.size) (hv : ∀ i : Nat, i < 6 → vp_in (x5 + nI i) N) (hk : kk < 600) (J : lw_J M kk) (K : ∀ M' c' sl', lw_J M' (kk + 1) → c' ≤ c + 67 → sl' ≤ sl + 619 → zL_law_2913 G d mc ms Qr Qx x0 0 99 114 115 x5 M' c' sl') : zL_law_1201 G d mc ms Qr Qx x0 0 99 114 115 x5 M c sl := by
  obtain ⟨O, hn, h, sv, isS, er, ea, n, b, l, s, rb, CI, MI, ok, ho⟩ := J
  have hO2 := ok.1.1
  have hO := hO2.1
  have hdy := hO.1.1
  have hmo := hO.1.2.1
  have hnw := hO.1.2.2.1
  have hwk := hO.1.2.2.2.1
  have hne := hO.1.2.2.2.2
  have hn6 := MI.inp.1
  have h8 : hn ≤ 8 := MI.h8
  have ok1 := ok.mono (k := 12000 * (kk + 1)) (by omega)
  have Kz : ∀ M', lw_J M' (kk + 1) → zL_law_2913 G d mc ms Qr Qx x0 0 99 114 115 x5 M' (c + 67) (sl + 619) := fun M' j => K M' _ _ j (Nat.le_refl _) (Nat.le_refl _)
  refine rL_law_1201 (by omega) (by omega) hX hb ⟨hv 1 (by omega), hv 2 (by omega), 67, 619, hc, hs, rL_entry_0 hN ⟨⟨_, CI.1⟩, 67, 619, by omega, by omega, c_entry hG CI hO (by omega) (by omega) ?_ ?_ ?_⟩⟩
  · intro a0 g
    exact Or.inl ⟨rfl, _, rfl, hv 1 (by omega), hv 2 (by omega), (MI.gr g).ob, m_entry (MI.gr g) hO2 (fun b0 M4 s4 rb4 C4 I4 e4 => by
      exact ⟨_, rfl, lw_chk (zz := fun M7 => zL_law_2913 G d mc ms Qr Qx x0 0 99 114 115 x5 M7 (c + 67) (sl + 619)) I4 e4 rfl (by omega) (fun z => by cases z) (Kz M4 (lw_go (CI.gr g) C4 I4 (ok1) (ho.gr g)))⟩) (fun j2 b0 b1 b2 => by
      exact (a0 j2 b0 b1).elim) (fun j2 k2 b0 b1 b2 b3 => by
      exact (a0 j2 b0 b1).elim)⟩
  · intro j a0 a1 a2 g
    exact Or.inr (⟨rfl, _, rfl, hv 1 (by omega), hv 2 (by omega), (MI.gr g).ob, m_entry (MI.gr g) hO2 (fun b0 => by
      exact (b0 j a0 a1).elim) (fun j2 b0 b1 b2 M4 s4 rb4 C4 I4 e4 => by
      have u_j2 := ow_inj (by omega) (by omega) a1 b1
      subst u_j2
      exact ⟨_, rfl, lw_chk (zz := fun M7 => zL_law_2913 G d mc ms Qr Qx x0 0 99 114 115 x5 M7 (c + 67) (sl + 619)) I4 e4 rfl (by omega) (fun z => by cases z) (Kz M4 (lw_go (CI.gr g) C4 I4 (ok1) (ho.gr g)))⟩) (fun j2 k2 b0 b1 b2 b3 => by
      have u_j2 := ow_inj (by omega) (by omega) a1 b1
      subst u_j2
      exact (a2 k2 b2 b3).elim)⟩)
  · intro j k a0 a1 a2 a3
    obtain ⟨F, f1⟩ := ho.1
    exact ⟨_, rfl, _, _, f1, vp_in_nI (n := 0) (N := 1) (by omega) (by omega), _, rfl, hv 1 (by omega), hv 2 (by omega), ⟨_, (kz_up_ne (by omega)).trans MI.1⟩, m_entry (MI.cl fun k h1 h2 => kz_up_ne (by omega)) hO2 (fun b0 => by
      exact (b0 j a0 a1).elim) (fun j2 b0 b1 b2 => by
      have u_j2 := ow_inj (by omega) (by omega) a1 b1
      subst u_j2
      exact (b2 k a2 a3).elim) (fun j2 k2 b0 b1 b2 b3 M4 s4 rb4 C4 I4 e4 => by
      have u_j2 := ow_inj (by omega) (by omega) a1 b1
      subst u_j2
      have u_k2 := ow_inj (by omega) (by omega) a3 b3
      subst u_k2
      exact ⟨_, rfl, lw_chk (zz := fun M7 => zL_law_2913 G d mc ms Qr Qx x0 0 99 114 115 x5 M7 (c + 67) (sl + 619)) I4 e4 rfl (by omega) (fun _ => ⟨_, (C4.1 114 (by omega)).trans (kz_up_same _ _ _), if_pos rfl⟩) (Kz M4 (lw_go (CI.md (fun k hk => kz_up_ne (by omega)) (Nat.le_refl _)) C4 I4 (ok1) (ho.up4 _)))⟩)⟩
theorem lw_booked {G : kz_G} {N : Nat} {xs : Nat → Int32} {d mc ms : Nat} {Qr : Option Value → kz_M → Prop} {Qx : String → kz_M → Prop} {x0 : Nat} {x5 : Int32} {M : kz_M} {c sl kk : Nat} (hG : kz_stat G) (hN : kz_nc G) (hc : c + 67 ≤ mc) (hs : sl + 619 ≤ ms) (hX : va_X (G.2.2.2 x0) N xs G.2.2.1 G.2.2.1.heap) (hb : G.2.2.2 x0 < G.2.2.1.heap.size) (hv : ∀ i : Nat, i < 6 → vp_in (x5 + nI i) N) (hk : kk < 600) (J : lw_J M kk) (K : ∀ M' c' sl', lw_J M' (kk + 1) → c' ≤ c + 67 → sl' ≤ sl + 619 → zL_law_2913 G d mc ms Qr Qx x0 0 99 114 115 x5 M' c' sl') : zL_law_1269 G d mc ms Qr Qx x0 0 99 114 115 x5 M c sl := by
  obtain ⟨O, hn, h, sv, isS, er, ea, n, b, l, s, rb, CI, MI, ok, ho⟩ := J
  have hO2 := ok.1.1
  have hO := hO2.1
  have hdy := hO.1.1
  have hmo := hO.1.2.1
  have hnw := hO.1.2.2.1
  have hwk := hO.1.2.2.2.1
  have hne := hO.1.2.2.2.2
  have hn6 := MI.inp.1
  have h8 : hn ≤ 8 := MI.h8
  have ok1 := ok.mono (k := 12000 * (kk + 1)) (by omega)
  have Kz : ∀ M', lw_J M' (kk + 1) → zL_law_2913 G d mc ms Qr Qx x0 0 99 114 115 x5 M' (c + 67) (sl + 619) := fun M' j => K M' _ _ j (Nat.le_refl _) (Nat.le_refl _)
  refine rL_law_1269 (by omega) (by omega) hX hb ⟨hv 1 (by omega), hv 2 (by omega), hv 3 (by omega), 67, 619, hc, hs, rL_booked_0 ⟨⟨_, CI.1⟩, 67, 619, by omega, by omega, c_booked hG CI hO (by omega) (by omega) ?_ ?_⟩⟩
  · intro a0 g
    exact ⟨rfl, _, rfl, hv 1 (by omega), hv 2 (by omega), hv 3 (by omega), (MI.gr g).ob, m_booked (MI.gr g) hO2 (fun b0 M4 s4 rb4 C4 I4 e4 => by
      exact ⟨_, rfl, lw_chk (zz := fun M7 => zL_law_2913 G d mc ms Qr Qx x0 0 99 114 115 x5 M7 (c + 67) (sl + 619)) I4 e4 rfl (by omega) (fun z => by cases z) (Kz M4 (lw_go (CI.gr g) C4 I4 (ok1) (ho.gr g)))⟩) (fun j2 b0 b1 => by
      exact (a0 j2 b0 b1).elim)⟩
  · intro j a0 a1
    obtain ⟨F, f1⟩ := ho.1
    exact ⟨_, rfl, _, _, f1, vp_in_nI (n := 0) (N := 1) (by omega) (by omega), _, rfl, hv 1 (by omega), hv 2 (by omega), hv 3 (by omega), ⟨_, (kz_up_ne (by omega)).trans MI.1⟩, m_booked (MI.cl fun k h1 h2 => kz_up_ne (by omega)) hO2 (fun b0 => by
      exact (b0 j a0 a1).elim) (fun j2 b0 b1 M4 s4 rb4 C4 I4 e4 => by
      have u_j2 := ow_inj (by omega) (by omega) a1 b1
      subst u_j2
      exact ⟨_, rfl, lw_chk (zz := fun M7 => zL_law_2913 G d mc ms Qr Qx x0 0 99 114 115 x5 M7 (c + 67) (sl + 619)) I4 e4 rfl (by omega) (fun _ => ⟨_, (C4.1 114 (by omega)).trans (kz_up_same _ _ _), if_pos rfl⟩) (Kz M4 (lw_go (CI.md (fun k hk => kz_up_ne (by omega)) (Nat.le_refl _)) C4 I4 (ok1) (ho.up4 _)))⟩)⟩
theorem lw_rank {G : kz_G} {N : Nat} {xs : Nat → Int32} {d mc ms : Nat} {Qr : Option Value → kz_M → Prop} {Qx : String → kz_M → Prop} {x0 : Nat} {x5 : Int32} {M : kz_M} {c sl kk : Nat} (hG : kz_stat G) (hN : kz_nc G) (hc : c + 67 ≤ mc) (hs : sl + 619 ≤ ms) (hX : va_X (G.2.2.2 x0) N xs G.2.2.1 G.2.2.1.heap) (hb : G.2.2.2 x0 < G.2.2.1.heap.size) (hv : ∀ i : Nat, i < 6 → vp_in (x5 + nI i) N) (hk : kk < 600) (J : lw_J M kk) (K : ∀ M' c' sl', lw_J M' (kk + 1) → c' ≤ c + 67 → sl' ≤ sl + 619 → zL_law_2913 G d mc ms Qr Qx x0 0 99 114 115 x5 M' c' sl') : zL_law_1362 G d mc ms Qr Qx x0 0 99 114 115 x5 M c sl := by
  obtain ⟨O, hn, h, sv, isS, er, ea, n, b, l, s, rb, CI, MI, ok, ho⟩ := J
  have hO2 := ok.1.1
  have hO := hO2.1
  have hdy := hO.1.1
  have hmo := hO.1.2.1
  have hnw := hO.1.2.2.1
  have hwk := hO.1.2.2.2.1
  have hne := hO.1.2.2.2.2
  have hn6 := MI.inp.1
  have h8 : hn ≤ 8 := MI.h8
  have ok1 := ok.mono (k := 12000 * (kk + 1)) (by omega)
  have Kz : ∀ M', lw_J M' (kk + 1) → zL_law_2913 G d mc ms Qr Qx x0 0 99 114 115 x5 M' (c + 67) (sl + 619) := fun M' j => K M' _ _ j (Nat.le_refl _) (Nat.le_refl _)
  refine rL_law_1362 (by omega) (by omega) hX hb ⟨hv 1 (by omega), 67, 619, hc, hs, rL_rank_0 ⟨⟨_, CI.1⟩, 67, 619, by omega, by omega, c_rank hG CI hO (by omega) (by omega) ?_ ?_⟩⟩
  · intro a0 g
    exact ⟨rfl, _, rfl, hv 1 (by omega), (MI.gr g).ob, m_rank (MI.gr g) hO2 ok.1.2.2.1 (by omega) (fun b0 M4 s4 rb4 C4 I4 e4 => by
      exact ⟨_, rfl, lw_chk (zz := fun M7 => zL_law_2913 G d mc ms Qr Qx x0 0 99 114 115 x5 M7 (c + 67) (sl + 619)) I4 e4 rfl (by omega) (fun z => by cases z) (Kz M4 (lw_go (CI.gr g) C4 I4 (ok1) (ho.gr g)))⟩) (fun j2 b0 b1 => by
      exact (a0 j2 b0 b1).elim)⟩
  · intro j a0 a1
    obtain ⟨F, f1⟩ := ho.1
    exact ⟨_, rfl, _, _, f1, vp_in_nI (n := 0) (N := 1) (by omega) (by omega), _, rfl, hv 1 (by omega), ⟨_, (kz_up_ne (by omega)).trans MI.1⟩, m_rank (MI.cl fun k h1 h2 => kz_up_ne (by omega)) hO2 ok.1.2.2.1 (by omega) (fun b0 => by
      exact (b0 j a0 a1).elim) (fun j2 b0 b1 M4 s4 rb4 C4 I4 e4 => by
      have u_j2 := ow_inj (by omega) (by omega) a1 b1
      subst u_j2
      exact ⟨_, rfl, lw_chk (zz := fun M7 => zL_law_2913 G d mc ms Qr Qx x0 0 99 114 115 x5 M7 (c + 67) (sl + 619)) I4 e4 rfl (by omega) (fun _ => ⟨_, (C4.1 114 (by omega)).trans (kz_up_same _ _ _), if_pos rfl⟩) (Kz M4 (lw_go (CI.md (fun k hk => kz_up_ne (by omega)) (Nat.le_refl _)) C4 I4 (ok1) (ho.up4 _)))⟩)⟩
theorem lw_linesIf {G : kz_G} {N : Nat} {xs : Nat → Int32} {d mc ms : Nat} {Qr : Option Value → kz_M → Prop} {Qx : String → kz_M → Prop} {x0 : Nat} {x5 : Int32} {M : kz_M} {c sl kk : Nat} (hG : kz_stat G) (hN : kz_nc G) (hc : c + 67 ≤ mc) (hs : sl + 619 ≤ ms) (hX : va_X (G.2.2.2 x0) N xs G.2.2.1 G.2.2.1.heap) (hb : G.2.2.2 x0 < G.2.2.1.heap.size) (hv : ∀ i : Nat, i < 6 → vp_in (x5 + nI i) N) (hk : kk < 600) (J : lw_J M kk) (K : ∀ M' c' sl', lw_J M' (kk + 1) → c' ≤ c + 67 → sl' ≤ sl + 619 → zL_law_2913 G d mc ms Qr Qx x0 0 99 114 115 x5 M' c' sl') : zL_law_1573 G d mc ms Qr Qx x0 0 99 114 115 x5 M c sl := by
  obtain ⟨O, hn, h, sv, isS, er, ea, n, b, l, s, rb, CI, MI, ok, ho⟩ := J
  have hO2 := ok.1.1
  have hO := hO2.1
  have hdy := hO.1.1
  have hmo := hO.1.2.1
  have hnw := hO.1.2.2.1
  have hwk := hO.1.2.2.2.1
  have hne := hO.1.2.2.2.2
  have hn6 := MI.inp.1
  have h8 : hn ≤ 8 := MI.h8
  have ok1 := ok.mono (k := 12000 * (kk + 1)) (by omega)
  have Kz : ∀ M', lw_J M' (kk + 1) → zL_law_2913 G d mc ms Qr Qx x0 0 99 114 115 x5 M' (c + 67) (sl + 619) := fun M' j => K M' _ _ j (Nat.le_refl _) (Nat.le_refl _)
  refine rL_law_1573 (by omega) (by omega) hX hb ⟨hv 1 (by omega), hv 2 (by omega), 67, 619, hc, hs, rL_linesIf_0 hN ⟨⟨_, CI.1⟩, 67, 619, by omega, by omega, c_linesIf hG CI hO (by omega) (by omega) ?_ ?_ ?_⟩⟩
  · intro a0 g
    exact Or.inl ⟨rfl, _, rfl, hv 1 (by omega), hv 2 (by omega), (MI.gr g).ob, m_linesIf (MI.gr g) hO2 (fun b0 M4 s4 rb4 C4 I4 e4 => by
      exact ⟨_, rfl, lw_chk (zz := fun M7 => zL_law_2913 G d mc ms Qr Qx x0 0 99 114 115 x5 M7 (c + 67) (sl + 619)) I4 e4 rfl (by omega) (fun z => by cases z) (Kz M4 (lw_go (CI.gr g) C4 I4 (ok1) (ho.gr g)))⟩) (fun j2 b0 b1 b2 => by
      exact (a0 j2 b0 b1).elim) (fun j2 m2 b0 b1 b2 b3 b4 b5 => by
      exact (a0 j2 b0 b1).elim)⟩
  · intro j a0 a1 a2 g
    have w2_j := (hO.2.2.2 j a0).2.1
    have w3_j := (hO.2.2.2 j a0).1.2.2.1
    exact Or.inr (⟨rfl, _, rfl, hv 1 (by omega), hv 2 (by omega), (MI.gr g).ob, m_linesIf (MI.gr g) hO2 (fun b0 => by
      exact (b0 j a0 a1).elim) (fun j2 b0 b1 b2 M4 s4 rb4 C4 I4 e4 => by
      have u_j2 := ow_inj (by omega) (by omega) a1 b1
      subst u_j2
      exact ⟨_, rfl, lw_chk (zz := fun M7 => zL_law_2913 G d mc ms Qr Qx x0 0 99 114 115 x5 M7 (c + 67) (sl + 619)) I4 e4 rfl (by omega) (fun z => by cases z) (Kz M4 (lw_go (CI.gr g) C4 I4 (ok1) (ho.gr g)))⟩) (fun j2 m2 b0 b1 b2 b3 b4 b5 => by
      have u_j2 := ow_inj (by omega) (by omega) a1 b1
      subst u_j2
      exact absurd (a2.symm.trans b5) (by decide))⟩)
  · intro j m a0 a1 a2 a3 a4 a5
    have w2_j := (hO.2.2.2 j a0).2.1
    have w3_j := (hO.2.2.2 j a0).1.2.2.1
    obtain ⟨F, f1⟩ := ho.1
    exact ⟨_, rfl, _, _, f1, vp_in_nI (n := 0) (N := 1) (by omega) (by omega), _, rfl, hv 1 (by omega), hv 2 (by omega), ⟨_, (kz_up_ne (by omega)).trans MI.1⟩, m_linesIf (MI.cl fun k h1 h2 => kz_up_ne (by omega)) hO2 (fun b0 => by
      exact (b0 j a0 a1).elim) (fun j2 b0 b1 b2 => by
      have u_j2 := ow_inj (by omega) (by omega) a1 b1
      subst u_j2
      exact absurd (b2.symm.trans a5) (by decide)) (fun j2 m2 b0 b1 b2 b3 b4 b5 M4 s4 rb4 C4 I4 e4 => by
      have u_j2 := ow_inj (by omega) (by omega) a1 b1
      subst u_j2
      have u_m2 := ow_inj (by omega) (by omega) a2 b2
      subst u_m2
      exact ⟨_, rfl, lw_chk (zz := fun M7 => zL_law_2913 G d mc ms Qr Qx x0 0 99 114 115 x5 M7 (c + 67) (sl + 619)) I4 e4 rfl (by omega) (fun _ => ⟨_, (C4.1 114 (by omega)).trans (kz_up_same _ _ _), if_pos rfl⟩) (Kz M4 (lw_go (CI.md (fun k hk => kz_up_ne (by omega)) (Nat.le_refl _)) C4 I4 (ok1) (ho.up4 _)))⟩)⟩
theorem lw_payIf {G : kz_G} {N : Nat} {xs : Nat → Int32} {d mc ms : Nat} {Qr : Option Value → kz_M → Prop} {Qx : String → kz_M → Prop} {x0 : Nat} {x5 : Int32} {M : kz_M} {c sl kk : Nat} (hG : kz_stat G) (hN : kz_nc G) (hc : c + 67 ≤ mc) (hs : sl + 619 ≤ ms) (hX : va_X (G.2.2.2 x0) N xs G.2.2.1 G.2.2.1.heap) (hb : G.2.2.2 x0 < G.2.2.1.heap.size) (hv : ∀ i : Nat, i < 6 → vp_in (x5 + nI i) N) (hk : kk < 600) (J : lw_J M kk) (K : ∀ M' c' sl', lw_J M' (kk + 1) → c' ≤ c + 67 → sl' ≤ sl + 619 → zL_law_2913 G d mc ms Qr Qx x0 0 99 114 115 x5 M' c' sl') : zL_law_1641 G d mc ms Qr Qx x0 0 99 114 115 x5 M c sl := by
  obtain ⟨O, hn, h, sv, isS, er, ea, n, b, l, s, rb, CI, MI, ok, ho⟩ := J
  have hO2 := ok.1.1
  have hO := hO2.1
  have hdy := hO.1.1
  have hmo := hO.1.2.1
  have hnw := hO.1.2.2.1
  have hwk := hO.1.2.2.2.1
  have hne := hO.1.2.2.2.2
  have hn6 := MI.inp.1
  have h8 : hn ≤ 8 := MI.h8
  have ok1 := ok.mono (k := 12000 * (kk + 1)) (by omega)
  have Kz : ∀ M', lw_J M' (kk + 1) → zL_law_2913 G d mc ms Qr Qx x0 0 99 114 115 x5 M' (c + 67) (sl + 619) := fun M' j => K M' _ _ j (Nat.le_refl _) (Nat.le_refl _)
  refine rL_law_1641 (by omega) (by omega) hX hb ⟨hv 1 (by omega), hv 2 (by omega), 67, 619, hc, hs, rL_payIf_0 hN ⟨⟨_, CI.1⟩, 67, 619, by omega, by omega, c_payIf hG CI hO (by omega) (by omega) ?_ ?_ ?_⟩⟩
  · intro a0 g
    exact Or.inl ⟨rfl, _, rfl, hv 1 (by omega), hv 2 (by omega), (MI.gr g).ob, m_payIf (MI.gr g) hO2 (fun b0 M4 s4 rb4 C4 I4 e4 => by
      exact ⟨_, rfl, lw_chk (zz := fun M7 => zL_law_2913 G d mc ms Qr Qx x0 0 99 114 115 x5 M7 (c + 67) (sl + 619)) I4 e4 rfl (by omega) (fun z => by cases z) (Kz M4 (lw_go (CI.gr g) C4 I4 (ok1) (ho.gr g)))⟩) (fun j2 b0 b1 b2 => by
      exact (a0 j2 b0 b1).elim) (fun j2 m2 b0 b1 b2 b3 b4 b5 => by
      exact (a0 j2 b0 b1).elim)⟩
  · intro j a0 a1 a2 g
    have w2_j := (hO.2.2.2 j a0).2.1
    have w3_j := (hO.2.2.2 j a0).1.2.2.1
    exact Or.inr (⟨rfl, _, rfl, hv 1 (by omega), hv 2 (by omega), (MI.gr g).ob, m_payIf (MI.gr g) hO2 (fun b0 => by
      exact (b0 j a0 a1).elim) (fun j2 b0 b1 b2 M4 s4 rb4 C4 I4 e4 => by
      have u_j2 := ow_inj (by omega) (by omega) a1 b1
      subst u_j2
      exact ⟨_, rfl, lw_chk (zz := fun M7 => zL_law_2913 G d mc ms Qr Qx x0 0 99 114 115 x5 M7 (c + 67) (sl + 619)) I4 e4 rfl (by omega) (fun z => by cases z) (Kz M4 (lw_go (CI.gr g) C4 I4 (ok1) (ho.gr g)))⟩) (fun j2 m2 b0 b1 b2 b3 b4 b5 => by
      have u_j2 := ow_inj (by omega) (by omega) a1 b1
      subst u_j2
      exact absurd (a2.symm.trans b5) (by decide))⟩)
  · intro j m a0 a1 a2 a3 a4 a5
    have w2_j := (hO.2.2.2 j a0).2.1
    have w3_j := (hO.2.2.2 j a0).1.2.2.1
    obtain ⟨F, f1⟩ := ho.1
    exact ⟨_, rfl, _, _, f1, vp_in_nI (n := 0) (N := 1) (by omega) (by omega), _, rfl, hv 1 (by omega), hv 2 (by omega), ⟨_, (kz_up_ne (by omega)).trans MI.1⟩, m_payIf (MI.cl fun k h1 h2 => kz_up_ne (by omega)) hO2 (fun b0 => by
      exact (b0 j a0 a1).elim) (fun j2 b0 b1 b2 => by
      have u_j2 := ow_inj (by omega) (by omega) a1 b1
      subst u_j2
      exact absurd (b2.symm.trans a5) (by decide)) (fun j2 m2 b0 b1 b2 b3 b4 b5 M4 s4 rb4 C4 I4 e4 => by
      have u_j2 := ow_inj (by omega) (by omega) a1 b1
      subst u_j2
      have u_m2 := ow_inj (by omega) (by omega) a2 b2
      subst u_m2
      exact ⟨_, rfl, lw_chk (zz := fun M7 => zL_law_2913 G d mc ms Qr Qx x0 0 99 114 115 x5 M7 (c + 67) (sl + 619)) I4 e4 rfl (by omega) (fun _ => ⟨_, (C4.1 114 (by omega)).trans (kz_up_same _ _ _), if_pos rfl⟩) (Kz M4 (lw_go (CI.md (fun k hk => kz_up_ne (by omega)) (Nat.le_refl _)) C4 I4 (ok1) (ho.up4 _)))⟩)⟩
theorem lw_bestMeasure {G : kz_G} {N : Nat} {xs : Nat → Int32} {d mc ms : Nat} {Qr : Option Value → kz_M → Prop} {Qx : String → kz_M → Prop} {x0 : Nat} {x5 : Int32} {M : kz_M} {c sl kk : Nat} (hG : kz_stat G) (hN : kz_nc G) (hc : c + 67 ≤ mc) (hs : sl + 619 ≤ ms) (hX : va_X (G.2.2.2 x0) N xs G.2.2.1 G.2.2.1.heap) (hb : G.2.2.2 x0 < G.2.2.1.heap.size) (hv : ∀ i : Nat, i < 6 → vp_in (x5 + nI i) N) (hk : kk < 600) (J : lw_J M kk) (K : ∀ M' c' sl', lw_J M' (kk + 1) → c' ≤ c + 67 → sl' ≤ sl + 619 → zL_law_2913 G d mc ms Qr Qx x0 0 99 114 115 x5 M' c' sl') : zL_law_1709 G d mc ms Qr Qx x0 0 99 114 115 x5 M c sl := by
  obtain ⟨O, hn, h, sv, isS, er, ea, n, b, l, s, rb, CI, MI, ok, ho⟩ := J
  have hO2 := ok.1.1
  have hO := hO2.1
  have hdy := hO.1.1
  have hmo := hO.1.2.1
  have hnw := hO.1.2.2.1
  have hwk := hO.1.2.2.2.1
  have hne := hO.1.2.2.2.2
  have hn6 := MI.inp.1
  have h8 : hn ≤ 8 := MI.h8
  have ok1 := ok.mono (k := 12000 * (kk + 1)) (by omega)
  have Kz : ∀ M', lw_J M' (kk + 1) → zL_law_2913 G d mc ms Qr Qx x0 0 99 114 115 x5 M' (c + 67) (sl + 619) := fun M' j => K M' _ _ j (Nat.le_refl _) (Nat.le_refl _)
  refine rL_law_1709 (by omega) (by omega) hX hb ⟨hv 1 (by omega), 67, 619, hc, hs, rL_bestMeasure_0 ⟨⟨_, CI.1⟩, 67, 619, by omega, by omega, c_bestMeasure hG CI hO (by omega) (by omega) ?_ ?_⟩⟩
  · intro a0 g
    exact ⟨rfl, _, rfl, hv 1 (by omega), (MI.gr g).ob, m_bestMeasure (MI.gr g) hO2 (fun b0 M4 s4 rb4 C4 I4 e4 => by
      exact ⟨_, rfl, lw_chk (zz := fun M7 => zL_law_2913 G d mc ms Qr Qx x0 0 99 114 115 x5 M7 (c + 67) (sl + 619)) I4 e4 rfl (by omega) (fun z => by cases z) (Kz M4 (lw_go (CI.gr g) C4 I4 (ok1) (ho.gr g)))⟩) (fun j2 b0 b1 => by
      exact (a0 j2 b0 b1).elim)⟩
  · intro j a0 a1
    have w2_j := (hO.2.2.2 j a0).2.1
    have w3_j := (hO.2.2.2 j a0).1.2.2.1
    obtain ⟨F, f1⟩ := ho.1
    exact ⟨_, rfl, _, _, f1, vp_in_nI (n := 0) (N := 1) (by omega) (by omega), _, rfl, hv 1 (by omega), ⟨_, (kz_up_ne (by omega)).trans MI.1⟩, m_bestMeasure (MI.cl fun k h1 h2 => kz_up_ne (by omega)) hO2 (fun b0 => by
      exact (b0 j a0 a1).elim) (fun j2 b0 b1 M4 s4 rb4 C4 I4 e4 => by
      have u_j2 := ow_inj (by omega) (by omega) a1 b1
      subst u_j2
      exact ⟨_, rfl, lw_chk (zz := fun M7 => zL_law_2913 G d mc ms Qr Qx x0 0 99 114 115 x5 M7 (c + 67) (sl + 619)) I4 e4 rfl (by omega) (fun _ => ⟨_, (C4.1 114 (by omega)).trans (kz_up_same _ _ _), if_pos rfl⟩) (Kz M4 (lw_go (CI.md (fun k hk => kz_up_ne (by omega)) (Nat.le_refl _)) C4 I4 (ok1) (ho.up4 _)))⟩)⟩
theorem lw_wouldCount {G : kz_G} {N : Nat} {xs : Nat → Int32} {d mc ms : Nat} {Qr : Option Value → kz_M → Prop} {Qx : String → kz_M → Prop} {x0 : Nat} {x5 : Int32} {M : kz_M} {c sl kk : Nat} (hG : kz_stat G) (hN : kz_nc G) (hc : c + 67 ≤ mc) (hs : sl + 619 ≤ ms) (hX : va_X (G.2.2.2 x0) N xs G.2.2.1 G.2.2.1.heap) (hb : G.2.2.2 x0 < G.2.2.1.heap.size) (hv : ∀ i : Nat, i < 6 → vp_in (x5 + nI i) N) (hk : kk < 600) (J : lw_J M kk) (K : ∀ M' c' sl', lw_J M' (kk + 1) → c' ≤ c + 67 → sl' ≤ sl + 619 → zL_law_2913 G d mc ms Qr Qx x0 0 99 114 115 x5 M' c' sl') : zL_law_1765 G d mc ms Qr Qx x0 0 99 114 115 x5 M c sl := by
  obtain ⟨O, hn, h, sv, isS, er, ea, n, b, l, s, rb, CI, MI, ok, ho⟩ := J
  have hO2 := ok.1.1
  have hO := hO2.1
  have hdy := hO.1.1
  have hmo := hO.1.2.1
  have hnw := hO.1.2.2.1
  have hwk := hO.1.2.2.2.1
  have hne := hO.1.2.2.2.2
  have hn6 := MI.inp.1
  have h8 : hn ≤ 8 := MI.h8
  have ok1 := ok.mono (k := 12000 * (kk + 1)) (by omega)
  have Kz : ∀ M', lw_J M' (kk + 1) → zL_law_2913 G d mc ms Qr Qx x0 0 99 114 115 x5 M' (c + 67) (sl + 619) := fun M' j => K M' _ _ j (Nat.le_refl _) (Nat.le_refl _)
  refine rL_law_1765 (by omega) (by omega) hX hb ⟨hv 1 (by omega), hv 2 (by omega), hv 3 (by omega), 67, 619, hc, hs, rL_wouldCount_0 hN ⟨⟨_, CI.1⟩, 67, 619, by omega, by omega, c_wouldCount hG CI hO (by omega) (by omega) ?_ ?_ ?_ ?_⟩⟩
  · intro a0 g
    exact Or.inl ⟨rfl, _, rfl, hv 1 (by omega), hv 2 (by omega), hv 3 (by omega), (MI.gr g).ob, m_wouldCount (MI.gr g) hO2 (fun b0 M4 s4 rb4 C4 I4 e4 => by
      exact ⟨_, rfl, lw_chk (zz := fun M7 => zL_law_2913 G d mc ms Qr Qx x0 0 99 114 115 x5 M7 (c + 67) (sl + 619)) I4 e4 rfl (by omega) (fun z => by cases z) (Kz M4 (lw_go (CI.gr g) C4 I4 (ok1) (ho.gr g)))⟩) (fun j2 b0 b1 b2 => by
      exact (a0 j2 b0 b1).elim) (fun j2 kd2 len2 b0 b1 b2 b3 b4 b5 b6 b7 b8 => by
      exact (a0 j2 b0 b1).elim) (fun j2 kd2 len2 b0 b1 b2 b3 b4 b5 b6 b7 b8 => by
      exact (a0 j2 b0 b1).elim)⟩
  · intro j a0 a1 a2 g
    exact Or.inr (⟨rfl, _, rfl, hv 1 (by omega), hv 2 (by omega), hv 3 (by omega), (MI.gr g).ob, m_wouldCount (MI.gr g) hO2 (fun b0 => by
      exact (b0 j a0 a1).elim) (fun j2 b0 b1 b2 M4 s4 rb4 C4 I4 e4 => by
      have u_j2 := ow_inj (by omega) (by omega) a1 b1
      subst u_j2
      exact ⟨_, rfl, lw_chk (zz := fun M7 => zL_law_2913 G d mc ms Qr Qx x0 0 99 114 115 x5 M7 (c + 67) (sl + 619)) I4 e4 rfl (by omega) (fun z => by cases z) (Kz M4 (lw_go (CI.gr g) C4 I4 (ok1) (ho.gr g)))⟩) (fun j2 kd2 len2 b0 b1 b2 b3 b4 b5 b6 b7 b8 => by
      have u_j2 := ow_inj (by omega) (by omega) a1 b1
      subst u_j2
      exact absurd (a2.symm.trans b7) (by decide)) (fun j2 kd2 len2 b0 b1 b2 b3 b4 b5 b6 b7 b8 => by
      have u_j2 := ow_inj (by omega) (by omega) a1 b1
      subst u_j2
      exact absurd (a2.symm.trans b7) (by decide))⟩)
  · intro j kd len a0 a1 a2 a3 a4 a5 a6 a7 a8 M1 C1 CI1
    have MI1 := MI.cf' C1
    have ho1 := ho.cf C1
    obtain ⟨F, f1⟩ := ho1.1
    exact ⟨_, rfl, _, _, f1, vp_in_nI (n := 0) (N := 1) (by omega) (by omega), _, rfl, hv 1 (by omega), hv 2 (by omega), hv 3 (by omega), ⟨_, (kz_up_ne (by omega)).trans MI1.1⟩, m_wouldCount (MI1.cl fun k h1 h2 => kz_up_ne (by omega)) hO2 (fun b0 => by
      exact (b0 j a0 a1).elim) (fun j2 b0 b1 b2 => by
      have u_j2 := ow_inj (by omega) (by omega) a1 b1
      subst u_j2
      exact absurd (b2.symm.trans a7) (by decide)) (fun j2 kd2 len2 b0 b1 b2 b3 b4 b5 b6 b7 b8 M4 s4 rb4 C4 I4 e4 => by
      have u_j2 := ow_inj (by omega) (by omega) a1 b1
      subst u_j2
      have u_kd2 := ow_inj (by omega) (by omega) a2 b2
      subst u_kd2
      have u_len2 := ow_inj (by omega) (by omega) a3 b3
      subst u_len2
      exact ⟨_, rfl, lw_chk (zz := fun M7 => zL_law_2913 G d mc ms Qr Qx x0 0 99 114 115 x5 M7 (c + 67) (sl + 619)) I4 e4 rfl (by omega) (fun _ => ⟨_, (C4.1 114 (by omega)).trans (kz_up_same _ _ _), if_pos rfl⟩) (Kz M4 (lw_go (CI1.md (fun k hk => kz_up_ne (by omega)) (Nat.le_refl _)) C4 I4 (ok1) (ho1.up4 _)))⟩) (fun j2 kd2 len2 b0 b1 b2 b3 b4 b5 b6 b7 b8 => by
      have u_j2 := ow_inj (by omega) (by omega) a1 b1
      subst u_j2
      have u_kd2 := ow_inj (by omega) (by omega) a2 b2
      subst u_kd2
      have u_len2 := ow_inj (by omega) (by omega) a3 b3
      subst u_len2
      exact absurd (a8.symm.trans b8) (by decide))⟩
  · intro j kd len a0 a1 a2 a3 a4 a5 a6 a7 a8 M1 C1 CI1
    have MI1 := MI.cf' C1
    have ho1 := ho.cf C1
    obtain ⟨F, f1⟩ := ho1.1
    exact ⟨_, rfl, _, _, f1, vp_in_nI (n := 0) (N := 1) (by omega) (by omega), _, rfl, hv 1 (by omega), hv 2 (by omega), hv 3 (by omega), ⟨_, (kz_up_ne (by omega)).trans MI1.1⟩, m_wouldCount (MI1.cl fun k h1 h2 => kz_up_ne (by omega)) hO2 (fun b0 => by
      exact (b0 j a0 a1).elim) (fun j2 b0 b1 b2 => by
      have u_j2 := ow_inj (by omega) (by omega) a1 b1
      subst u_j2
      exact absurd (b2.symm.trans a7) (by decide)) (fun j2 kd2 len2 b0 b1 b2 b3 b4 b5 b6 b7 b8 => by
      have u_j2 := ow_inj (by omega) (by omega) a1 b1
      subst u_j2
      have u_kd2 := ow_inj (by omega) (by omega) a2 b2
      subst u_kd2
      have u_len2 := ow_inj (by omega) (by omega) a3 b3
      subst u_len2
      exact absurd (b8.symm.trans a8) (by decide)) (fun j2 kd2 len2 b0 b1 b2 b3 b4 b5 b6 b7 b8 M4 s4 rb4 C4 I4 e4 => by
      have u_j2 := ow_inj (by omega) (by omega) a1 b1
      subst u_j2
      have u_kd2 := ow_inj (by omega) (by omega) a2 b2
      subst u_kd2
      have u_len2 := ow_inj (by omega) (by omega) a3 b3
      subst u_len2
      exact ⟨_, rfl, lw_chk (zz := fun M7 => zL_law_2913 G d mc ms Qr Qx x0 0 99 114 115 x5 M7 (c + 67) (sl + 619)) I4 e4 rfl (by omega) (fun _ => ⟨_, (C4.1 114 (by omega)).trans (kz_up_same _ _ _), if_pos rfl⟩) (Kz M4 (lw_go (CI1.md (fun k hk => kz_up_ne (by omega)) (Nat.le_refl _)) C4 I4 (ok1) (ho1.up4 _)))⟩)⟩
theorem lw_wouldPay {G : kz_G} {N : Nat} {xs : Nat → Int32} {d mc ms : Nat} {Qr : Option Value → kz_M → Prop} {Qx : String → kz_M → Prop} {x0 : Nat} {x5 : Int32} {M : kz_M} {c sl kk : Nat} (hG : kz_stat G) (hN : kz_nc G) (hc : c + 67 ≤ mc) (hs : sl + 619 ≤ ms) (hX : va_X (G.2.2.2 x0) N xs G.2.2.1 G.2.2.1.heap) (hb : G.2.2.2 x0 < G.2.2.1.heap.size) (hv : ∀ i : Nat, i < 6 → vp_in (x5 + nI i) N) (hk : kk < 600) (J : lw_J M kk) (K : ∀ M' c' sl', lw_J M' (kk + 1) → c' ≤ c + 67 → sl' ≤ sl + 619 → zL_law_2913 G d mc ms Qr Qx x0 0 99 114 115 x5 M' c' sl') : zL_law_1845 G d mc ms Qr Qx x0 0 99 114 115 x5 M c sl := by
  obtain ⟨O, hn, h, sv, isS, er, ea, n, b, l, s, rb, CI, MI, ok, ho⟩ := J
  have hO2 := ok.1.1
  have hO := hO2.1
  have hdy := hO.1.1
  have hmo := hO.1.2.1
  have hnw := hO.1.2.2.1
  have hwk := hO.1.2.2.2.1
  have hne := hO.1.2.2.2.2
  have hn6 := MI.inp.1
  have h8 : hn ≤ 8 := MI.h8
  have ok1 := ok.mono (k := 12000 * (kk + 1)) (by omega)
  have Kz : ∀ M', lw_J M' (kk + 1) → zL_law_2913 G d mc ms Qr Qx x0 0 99 114 115 x5 M' (c + 67) (sl + 619) := fun M' j => K M' _ _ j (Nat.le_refl _) (Nat.le_refl _)
  refine rL_law_1845 (by omega) (by omega) hX hb ⟨hv 1 (by omega), hv 2 (by omega), hv 3 (by omega), 67, 619, hc, hs, rL_wouldPay_0 hN ⟨⟨_, CI.1⟩, 67, 619, by omega, by omega, c_wouldPay hG CI hO (by omega) (by omega) ?_ ?_ ?_ ?_⟩⟩
  · intro a0 g
    exact Or.inl ⟨rfl, _, rfl, hv 1 (by omega), hv 2 (by omega), hv 3 (by omega), (MI.gr g).ob, m_wouldPay (MI.gr g) hO2 (fun b0 M4 s4 rb4 C4 I4 e4 => by
      exact ⟨_, rfl, lw_chk (zz := fun M7 => zL_law_2913 G d mc ms Qr Qx x0 0 99 114 115 x5 M7 (c + 67) (sl + 619)) I4 e4 rfl (by omega) (fun z => by cases z) (Kz M4 (lw_go (CI.gr g) C4 I4 (ok1) (ho.gr g)))⟩) (fun j2 b0 b1 b2 => by
      exact (a0 j2 b0 b1).elim) (fun j2 kd2 len2 b0 b1 b2 b3 b4 b5 b6 b7 b8 => by
      exact (a0 j2 b0 b1).elim) (fun j2 kd2 len2 b0 b1 b2 b3 b4 b5 b6 b7 b8 => by
      exact (a0 j2 b0 b1).elim)⟩
  · intro j a0 a1 a2 g
    exact Or.inr (⟨rfl, _, rfl, hv 1 (by omega), hv 2 (by omega), hv 3 (by omega), (MI.gr g).ob, m_wouldPay (MI.gr g) hO2 (fun b0 => by
      exact (b0 j a0 a1).elim) (fun j2 b0 b1 b2 M4 s4 rb4 C4 I4 e4 => by
      have u_j2 := ow_inj (by omega) (by omega) a1 b1
      subst u_j2
      exact ⟨_, rfl, lw_chk (zz := fun M7 => zL_law_2913 G d mc ms Qr Qx x0 0 99 114 115 x5 M7 (c + 67) (sl + 619)) I4 e4 rfl (by omega) (fun z => by cases z) (Kz M4 (lw_go (CI.gr g) C4 I4 (ok1) (ho.gr g)))⟩) (fun j2 kd2 len2 b0 b1 b2 b3 b4 b5 b6 b7 b8 => by
      have u_j2 := ow_inj (by omega) (by omega) a1 b1
      subst u_j2
      exact absurd (a2.symm.trans b7) (by decide)) (fun j2 kd2 len2 b0 b1 b2 b3 b4 b5 b6 b7 b8 => by
      have u_j2 := ow_inj (by omega) (by omega) a1 b1
      subst u_j2
      exact absurd (a2.symm.trans b7) (by decide))⟩)
  · intro j kd len a0 a1 a2 a3 a4 a5 a6 a7 a8 M1 C1 CI1
    have MI1 := MI.cf' C1
    have ho1 := ho.cf C1
    obtain ⟨F, f1⟩ := ho1.1
    exact ⟨_, rfl, _, _, f1, vp_in_nI (n := 0) (N := 1) (by omega) (by omega), _, rfl, hv 1 (by omega), hv 2 (by omega), hv 3 (by omega), ⟨_, (kz_up_ne (by omega)).trans MI1.1⟩, m_wouldPay (MI1.cl fun k h1 h2 => kz_up_ne (by omega)) hO2 (fun b0 => by
      exact (b0 j a0 a1).elim) (fun j2 b0 b1 b2 => by
      have u_j2 := ow_inj (by omega) (by omega) a1 b1
      subst u_j2
      exact absurd (b2.symm.trans a7) (by decide)) (fun j2 kd2 len2 b0 b1 b2 b3 b4 b5 b6 b7 b8 M4 s4 rb4 C4 I4 e4 => by
      have u_j2 := ow_inj (by omega) (by omega) a1 b1
      subst u_j2
      have u_kd2 := ow_inj (by omega) (by omega) a2 b2
      subst u_kd2
      have u_len2 := ow_inj (by omega) (by omega) a3 b3
      subst u_len2
      exact ⟨_, rfl, lw_chk (zz := fun M7 => zL_law_2913 G d mc ms Qr Qx x0 0 99 114 115 x5 M7 (c + 67) (sl + 619)) I4 e4 rfl (by omega) (fun _ => ⟨_, (C4.1 114 (by omega)).trans (kz_up_same _ _ _), if_pos rfl⟩) (Kz M4 (lw_go (CI1.md (fun k hk => kz_up_ne (by omega)) (Nat.le_refl _)) C4 I4 (ok1) (ho1.up4 _)))⟩) (fun j2 kd2 len2 b0 b1 b2 b3 b4 b5 b6 b7 b8 => by
      have u_j2 := ow_inj (by omega) (by omega) a1 b1
      subst u_j2
      have u_kd2 := ow_inj (by omega) (by omega) a2 b2
      subst u_kd2
      have u_len2 := ow_inj (by omega) (by omega) a3 b3
      subst u_len2
      exact absurd (a8.symm.trans b8) (by decide))⟩
  · intro j kd len a0 a1 a2 a3 a4 a5 a6 a7 a8 M1 C1 CI1
    have MI1 := MI.cf' C1
    have ho1 := ho.cf C1
    obtain ⟨F, f1⟩ := ho1.1
    exact ⟨_, rfl, _, _, f1, vp_in_nI (n := 0) (N := 1) (by omega) (by omega), _, rfl, hv 1 (by omega), hv 2 (by omega), hv 3 (by omega), ⟨_, (kz_up_ne (by omega)).trans MI1.1⟩, m_wouldPay (MI1.cl fun k h1 h2 => kz_up_ne (by omega)) hO2 (fun b0 => by
      exact (b0 j a0 a1).elim) (fun j2 b0 b1 b2 => by
      have u_j2 := ow_inj (by omega) (by omega) a1 b1
      subst u_j2
      exact absurd (b2.symm.trans a7) (by decide)) (fun j2 kd2 len2 b0 b1 b2 b3 b4 b5 b6 b7 b8 => by
      have u_j2 := ow_inj (by omega) (by omega) a1 b1
      subst u_j2
      have u_kd2 := ow_inj (by omega) (by omega) a2 b2
      subst u_kd2
      have u_len2 := ow_inj (by omega) (by omega) a3 b3
      subst u_len2
      exact absurd (b8.symm.trans a8) (by decide)) (fun j2 kd2 len2 b0 b1 b2 b3 b4 b5 b6 b7 b8 M4 s4 rb4 C4 I4 e4 => by
      have u_j2 := ow_inj (by omega) (by omega) a1 b1
      subst u_j2
      have u_kd2 := ow_inj (by omega) (by omega) a2 b2
      subst u_kd2
      have u_len2 := ow_inj (by omega) (by omega) a3 b3
      subst u_len2
      exact ⟨_, rfl, lw_chk (zz := fun M7 => zL_law_2913 G d mc ms Qr Qx x0 0 99 114 115 x5 M7 (c + 67) (sl + 619)) I4 e4 rfl (by omega) (fun _ => ⟨_, (C4.1 114 (by omega)).trans (kz_up_same _ _ _), if_pos rfl⟩) (Kz M4 (lw_go (CI1.md (fun k hk => kz_up_ne (by omega)) (Nat.le_refl _)) C4 I4 (ok1) (ho1.up4 _)))⟩)⟩
theorem lw_countsIf {G : kz_G} {N : Nat} {xs : Nat → Int32} {d mc ms : Nat} {Qr : Option Value → kz_M → Prop} {Qx : String → kz_M → Prop} {x0 : Nat} {x5 : Int32} {M : kz_M} {c sl kk : Nat} (hG : kz_stat G) (hN : kz_nc G) (hc : c + 67 ≤ mc) (hs : sl + 619 ≤ ms) (hX : va_X (G.2.2.2 x0) N xs G.2.2.1 G.2.2.1.heap) (hb : G.2.2.2 x0 < G.2.2.1.heap.size) (hv : ∀ i : Nat, i < 6 → vp_in (x5 + nI i) N) (hk : kk < 600) (J : lw_J M kk) (K : ∀ M' c' sl', lw_J M' (kk + 1) → c' ≤ c + 67 → sl' ≤ sl + 619 → zL_law_2913 G d mc ms Qr Qx x0 0 99 114 115 x5 M' c' sl') : zL_law_1925 G d mc ms Qr Qx x0 0 99 114 115 x5 M c sl := by
  obtain ⟨O, hn, h, sv, isS, er, ea, n, b, l, s, rb, CI, MI, ok, ho⟩ := J
  have hO2 := ok.1.1
  have hO := hO2.1
  have hdy := hO.1.1
  have hmo := hO.1.2.1
  have hnw := hO.1.2.2.1
  have hwk := hO.1.2.2.2.1
  have hne := hO.1.2.2.2.2
  have hn6 := MI.inp.1
  have h8 : hn ≤ 8 := MI.h8
  have ok1 := ok.mono (k := 12000 * (kk + 1)) (by omega)
  have Kz : ∀ M', lw_J M' (kk + 1) → zL_law_2913 G d mc ms Qr Qx x0 0 99 114 115 x5 M' (c + 67) (sl + 619) := fun M' j => K M' _ _ j (Nat.le_refl _) (Nat.le_refl _)
  refine rL_law_1925 (by omega) (by omega) hX hb ⟨hv 1 (by omega), hv 2 (by omega), hv 3 (by omega), 67, 619, hc, hs, rL_countsIf_0 hN ⟨⟨_, CI.1⟩, 67, 619, by omega, by omega, c_countsIf hG CI hO (by omega) (by omega) ?_ ?_ ?_⟩⟩
  · intro a0 g
    exact Or.inl ⟨rfl, _, rfl, hv 1 (by omega), hv 2 (by omega), hv 3 (by omega), (MI.gr g).ob, m_countsIf (MI.gr g) hO2 (fun b0 M4 s4 rb4 C4 I4 e4 => by
      exact ⟨_, rfl, lw_chk (zz := fun M7 => zL_law_2913 G d mc ms Qr Qx x0 0 99 114 115 x5 M7 (c + 67) (sl + 619)) I4 e4 rfl (by omega) (fun z => by cases z) (Kz M4 (lw_go (CI.gr g) C4 I4 (ok1) (ho.gr g)))⟩) (fun j2 b0 b1 b2 => by
      exact (a0 j2 b0 b1).elim) (fun j2 k2 m2 b0 b1 b2 b3 b4 b5 b6 b7 => by
      exact (a0 j2 b0 b1).elim)⟩
  · intro j a0 a1 a2 g
    have w2_j := (hO.2.2.2 j a0).2.1
    have w3_j := (hO.2.2.2 j a0).1.2.2.1
    exact Or.inr (⟨rfl, _, rfl, hv 1 (by omega), hv 2 (by omega), hv 3 (by omega), (MI.gr g).ob, m_countsIf (MI.gr g) hO2 (fun b0 => by
      exact (b0 j a0 a1).elim) (fun j2 b0 b1 b2 M4 s4 rb4 C4 I4 e4 => by
      have u_j2 := ow_inj (by omega) (by omega) a1 b1
      subst u_j2
      exact ⟨_, rfl, lw_chk (zz := fun M7 => zL_law_2913 G d mc ms Qr Qx x0 0 99 114 115 x5 M7 (c + 67) (sl + 619)) I4 e4 rfl (by omega) (fun z => by cases z) (Kz M4 (lw_go (CI.gr g) C4 I4 (ok1) (ho.gr g)))⟩) (fun j2 k2 m2 b0 b1 b2 b3 b4 b5 b6 b7 => by
      have u_j2 := ow_inj (by omega) (by omega) a1 b1
      subst u_j2
      exact absurd (a2.symm.trans b7) (by decide))⟩)
  · intro j k m a0 a1 a2 a3 a4 a5 a6 a7 M1 C1 CI1
    have w2_j := (hO.2.2.2 j a0).2.1
    have w3_j := (hO.2.2.2 j a0).1.2.2.1
    have w4_k := ow_hi_le k a2
    have MI1 := MI.cf' C1
    have ho1 := ho.cf C1
    obtain ⟨F, f1⟩ := ho1.1
    exact ⟨_, rfl, _, _, f1, vp_in_nI (n := 0) (N := 1) (by omega) (by omega), _, rfl, hv 1 (by omega), hv 2 (by omega), hv 3 (by omega), ⟨_, (kz_up_ne (by omega)).trans MI1.1⟩, m_countsIf (MI1.cl fun k h1 h2 => kz_up_ne (by omega)) hO2 (fun b0 => by
      exact (b0 j a0 a1).elim) (fun j2 b0 b1 b2 => by
      have u_j2 := ow_inj (by omega) (by omega) a1 b1
      subst u_j2
      exact absurd (b2.symm.trans a7) (by decide)) (fun j2 k2 m2 b0 b1 b2 b3 b4 b5 b6 b7 M4 s4 rb4 C4 I4 e4 => by
      have u_j2 := ow_inj (by omega) (by omega) a1 b1
      subst u_j2
      have u_k2 := ow_inj (by omega) (by omega) a3 b3
      subst u_k2
      have u_m2 := ow_inj (by omega) (by omega) a4 b4
      subst u_m2
      exact ⟨_, rfl, lw_chk (zz := fun M7 => zL_law_2913 G d mc ms Qr Qx x0 0 99 114 115 x5 M7 (c + 67) (sl + 619)) I4 e4 rfl (by omega) (fun _ => ⟨_, (C4.1 114 (by omega)).trans (kz_up_same _ _ _), if_pos rfl⟩) (Kz M4 (lw_go (CI1.md (fun k hk => kz_up_ne (by omega)) (Nat.le_refl _)) C4 I4 (ok1) (ho1.up4 _)))⟩)⟩
theorem lw_whyNot {G : kz_G} {N : Nat} {xs : Nat → Int32} {d mc ms : Nat} {Qr : Option Value → kz_M → Prop} {Qx : String → kz_M → Prop} {x0 : Nat} {x5 : Int32} {M : kz_M} {c sl kk : Nat} (hG : kz_stat G) (hN : kz_nc G) (hc : c + 67 ≤ mc) (hs : sl + 619 ≤ ms) (hX : va_X (G.2.2.2 x0) N xs G.2.2.1 G.2.2.1.heap) (hb : G.2.2.2 x0 < G.2.2.1.heap.size) (hv : ∀ i : Nat, i < 6 → vp_in (x5 + nI i) N) (hk : kk < 600) (J : lw_J M kk) (K : ∀ M' c' sl', lw_J M' (kk + 1) → c' ≤ c + 67 → sl' ≤ sl + 619 → zL_law_2913 G d mc ms Qr Qx x0 0 99 114 115 x5 M' c' sl') : zL_law_2005 G d mc ms Qr Qx x0 0 99 114 115 x5 M c sl := by
  obtain ⟨O, hn, h, sv, isS, er, ea, n, b, l, s, rb, CI, MI, ok, ho⟩ := J
  have hO2 := ok.1.1
  have hO := hO2.1
  have hdy := hO.1.1
  have hmo := hO.1.2.1
  have hnw := hO.1.2.2.1
  have hwk := hO.1.2.2.2.1
  have hne := hO.1.2.2.2.2
  have hn6 := MI.inp.1
  have h8 : hn ≤ 8 := MI.h8
  have ok1 := ok.mono (k := 12000 * (kk + 1)) (by omega)
  have Kz : ∀ M', lw_J M' (kk + 1) → zL_law_2913 G d mc ms Qr Qx x0 0 99 114 115 x5 M' (c + 67) (sl + 619) := fun M' j => K M' _ _ j (Nat.le_refl _) (Nat.le_refl _)
  refine rL_law_2005 (by omega) (by omega) hX hb ⟨hv 1 (by omega), hv 2 (by omega), 67, 619, hc, hs, rL_whyNot_0 ⟨⟨_, CI.1⟩, 67, 619, by omega, by omega, c_whyNot hG CI hO (by omega) (by omega) ?_ ?_⟩⟩
  · intro a0 g
    exact ⟨rfl, _, rfl, hv 1 (by omega), hv 2 (by omega), (MI.gr g).ob, m_whyNot (MI.gr g) hO2 (fun b0 M4 s4 rb4 C4 I4 e4 => by
      exact ⟨_, rfl, lw_chk (zz := fun M7 => zL_law_2913 G d mc ms Qr Qx x0 0 99 114 115 x5 M7 (c + 67) (sl + 619)) I4 e4 rfl (by omega) (fun z => by cases z) (Kz M4 (lw_go (CI.gr g) C4 I4 (ok1) (ho.gr g)))⟩) (fun j2 k2 b0 b1 b2 b3 => by
      exact (a0 j2 k2 b0 b2 b1 b3).elim)⟩
  · intro j k a0 a1 a2 a3
    have w2_j := (hO.2.2.2 j a0).2.1
    have w3_j := (hO.2.2.2 j a0).1.2.2.1
    obtain ⟨F, f1⟩ := ho.1
    exact ⟨_, rfl, _, _, f1, vp_in_nI (n := 0) (N := 1) (by omega) (by omega), _, rfl, hv 1 (by omega), hv 2 (by omega), ⟨_, (kz_up_ne (by omega)).trans MI.1⟩, m_whyNot (MI.cl fun k h1 h2 => kz_up_ne (by omega)) hO2 (fun b0 => by
      exact (b0 j k a0 a2 a1 a3).elim) (fun j2 k2 b0 b1 b2 b3 M4 s4 rb4 C4 I4 e4 => by
      have u_j2 := ow_inj (by omega) (by omega) a1 b1
      subst u_j2
      have u_k2 := ow_inj (by omega) (by omega) a3 b3
      subst u_k2
      exact ⟨_, rfl, lw_chk (zz := fun M7 => zL_law_2913 G d mc ms Qr Qx x0 0 99 114 115 x5 M7 (c + 67) (sl + 619)) I4 e4 rfl (by omega) (fun _ => ⟨_, (C4.1 114 (by omega)).trans (kz_up_same _ _ _), if_pos rfl⟩) (Kz M4 (lw_go (CI.md (fun k hk => kz_up_ne (by omega)) (Nat.le_refl _)) C4 I4 (ok1) (ho.up4 _)))⟩)⟩
theorem lw_hopes {G : kz_G} {N : Nat} {xs : Nat → Int32} {d mc ms : Nat} {Qr : Option Value → kz_M → Prop} {Qx : String → kz_M → Prop} {x0 : Nat} {x5 : Int32} {M : kz_M} {c sl kk : Nat} (hG : kz_stat G) (hN : kz_nc G) (hc : c + 67 ≤ mc) (hs : sl + 619 ≤ ms) (hX : va_X (G.2.2.2 x0) N xs G.2.2.1 G.2.2.1.heap) (hb : G.2.2.2 x0 < G.2.2.1.heap.size) (hv : ∀ i : Nat, i < 6 → vp_in (x5 + nI i) N) (hk : kk < 600) (J : lw_J M kk) (K : ∀ M' c' sl', lw_J M' (kk + 1) → c' ≤ c + 67 → sl' ≤ sl + 619 → zL_law_2913 G d mc ms Qr Qx x0 0 99 114 115 x5 M' c' sl') : zL_law_2073 G d mc ms Qr Qx x0 0 99 114 115 x5 M c sl := by
  obtain ⟨O, hn, h, sv, isS, er, ea, n, b, l, s, rb, CI, MI, ok, ho⟩ := J
  have hO2 := ok.1.1
  have hO := hO2.1
  have hdy := hO.1.1
  have hmo := hO.1.2.1
  have hnw := hO.1.2.2.1
  have hwk := hO.1.2.2.2.1
  have hne := hO.1.2.2.2.2
  have hn6 := MI.inp.1
  have h8 : hn ≤ 8 := MI.h8
  have ok1 := ok.mono (k := 12000 * (kk + 1)) (by omega)
  have Kz : ∀ M', lw_J M' (kk + 1) → zL_law_2913 G d mc ms Qr Qx x0 0 99 114 115 x5 M' (c + 67) (sl + 619) := fun M' j => K M' _ _ j (Nat.le_refl _) (Nat.le_refl _)
  refine rL_law_2073 (by omega) (by omega) hX hb ⟨hv 1 (by omega), 67, 619, hc, hs, rL_hopes_0 ⟨⟨_, CI.1⟩, 67, 619, by omega, by omega, c_hopes hG CI hO (by omega) (by omega) ?_ ?_⟩⟩
  · intro a0 g
    exact ⟨rfl, _, rfl, hv 1 (by omega), (MI.gr g).ob, m_hopes (MI.gr g) hO2 (fun b0 M4 s4 rb4 C4 I4 e4 => by
      exact ⟨_, rfl, lw_chk (zz := fun M7 => zL_law_2913 G d mc ms Qr Qx x0 0 99 114 115 x5 M7 (c + 67) (sl + 619)) I4 e4 rfl (by omega) (fun z => by cases z) (Kz M4 (lw_go (CI.gr g) C4 I4 (ok1) (ho.gr g)))⟩) (fun j2 b0 b1 => by
      exact (a0 j2 b0 b1).elim)⟩
  · intro j a0 a1
    obtain ⟨F, f1⟩ := ho.1
    exact ⟨_, rfl, _, _, f1, vp_in_nI (n := 0) (N := 1) (by omega) (by omega), _, rfl, hv 1 (by omega), ⟨_, (kz_up_ne (by omega)).trans MI.1⟩, m_hopes (MI.cl fun k h1 h2 => kz_up_ne (by omega)) hO2 (fun b0 => by
      exact (b0 j a0 a1).elim) (fun j2 b0 b1 M4 s4 rb4 C4 I4 e4 => by
      have u_j2 := ow_inj (by omega) (by omega) a1 b1
      subst u_j2
      exact ⟨_, rfl, lw_chk (zz := fun M7 => zL_law_2913 G d mc ms Qr Qx x0 0 99 114 115 x5 M7 (c + 67) (sl + 619)) I4 e4 rfl (by omega) (fun _ => ⟨_, (C4.1 114 (by omega)).trans (kz_up_same _ _ _), if_pos rfl⟩) (Kz M4 (lw_go (CI.md (fun k hk => kz_up_ne (by omega)) (Nat.le_refl _)) C4 I4 (ok1) (ho.up4 _)))⟩)⟩
theorem lw_longestRun {G : kz_G} {N : Nat} {xs : Nat → Int32} {d mc ms : Nat} {Qr : Option Value → kz_M → Prop} {Qx : String → kz_M → Prop} {x0 : Nat} {x5 : Int32} {M : kz_M} {c sl kk : Nat} (hG : kz_stat G) (hN : kz_nc G) (hc : c + 67 ≤ mc) (hs : sl + 619 ≤ ms) (hX : va_X (G.2.2.2 x0) N xs G.2.2.1 G.2.2.1.heap) (hb : G.2.2.2 x0 < G.2.2.1.heap.size) (hv : ∀ i : Nat, i < 6 → vp_in (x5 + nI i) N) (hk : kk < 600) (J : lw_J M kk) (K : ∀ M' c' sl', lw_J M' (kk + 1) → c' ≤ c + 67 → sl' ≤ sl + 619 → zL_law_2913 G d mc ms Qr Qx x0 0 99 114 115 x5 M' c' sl') : zL_law_2129 G d mc ms Qr Qx x0 0 99 114 115 x5 M c sl := by
  obtain ⟨O, hn, h, sv, isS, er, ea, n, b, l, s, rb, CI, MI, ok, ho⟩ := J
  have hO2 := ok.1.1
  have hO := hO2.1
  have hdy := hO.1.1
  have hmo := hO.1.2.1
  have hnw := hO.1.2.2.1
  have hwk := hO.1.2.2.2.1
  have hne := hO.1.2.2.2.2
  have hn6 := MI.inp.1
  have h8 : hn ≤ 8 := MI.h8
  have ok1 := ok.mono (k := 12000 * (kk + 1)) (by omega)
  have Kz : ∀ M', lw_J M' (kk + 1) → zL_law_2913 G d mc ms Qr Qx x0 0 99 114 115 x5 M' (c + 67) (sl + 619) := fun M' j => K M' _ _ j (Nat.le_refl _) (Nat.le_refl _)
  refine rL_law_2129 (by omega) (by omega) hX hb ⟨hv 1 (by omega), 67, 619, hc, hs, rL_longestRun_0 ⟨⟨_, CI.1⟩, 67, 619, by omega, by omega, c_longestRun hG CI hO (by omega) (by omega) ?_ ?_⟩⟩
  · intro a0 g
    exact ⟨rfl, _, rfl, hv 1 (by omega), (MI.gr g).ob, m_longestRun (MI.gr g) hO2 (fun b0 M4 s4 rb4 C4 I4 e4 => by
      exact ⟨_, rfl, lw_chk (zz := fun M7 => zL_law_2913 G d mc ms Qr Qx x0 0 99 114 115 x5 M7 (c + 67) (sl + 619)) I4 e4 rfl (by omega) (fun z => by cases z) (Kz M4 (lw_go (CI.gr g) C4 I4 (ok1) (ho.gr g)))⟩) (fun j2 b0 b1 => by
      exact (a0 j2 b0 b1).elim)⟩
  · intro j a0 a1
    have w2_j := (hO.2.2.2 j a0).2.1
    have w3_j := (hO.2.2.2 j a0).1.2.2.1
    obtain ⟨F, f1⟩ := ho.1
    exact ⟨_, rfl, _, _, f1, vp_in_nI (n := 0) (N := 1) (by omega) (by omega), _, rfl, hv 1 (by omega), ⟨_, (kz_up_ne (by omega)).trans MI.1⟩, m_longestRun (MI.cl fun k h1 h2 => kz_up_ne (by omega)) hO2 (fun b0 => by
      exact (b0 j a0 a1).elim) (fun j2 b0 b1 M4 s4 rb4 C4 I4 e4 => by
      have u_j2 := ow_inj (by omega) (by omega) a1 b1
      subst u_j2
      exact ⟨_, rfl, lw_chk (zz := fun M7 => zL_law_2913 G d mc ms Qr Qx x0 0 99 114 115 x5 M7 (c + 67) (sl + 619)) I4 e4 rfl (by omega) (fun _ => ⟨_, (C4.1 114 (by omega)).trans (kz_up_same _ _ _), if_pos rfl⟩) (Kz M4 (lw_go (CI.md (fun k hk => kz_up_ne (by omega)) (Nat.le_refl _)) C4 I4 (ok1) (ho.up4 _)))⟩)⟩
