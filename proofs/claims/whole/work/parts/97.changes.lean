/-! Part 97: the law's cases: changes: printed by program (wip/whole/gen96.py) -/
theorem lw_submit {G : kz_G} {N : Nat} {xs : Nat → Int32} {d mc ms : Nat} {Qr : Option Value → kz_M → Prop} {Qx : String → kz_M → Prop} {x0 : Nat} {x5 : Int32} {M : kz_M} {c sl kk : Nat} (hG : kz_stat G) (hN : kz_nc G) (hc : c + 67 ≤ mc) (hs : sl + 619 ≤ ms) (hX : va_X (G.2.2.2 x0) N xs G.2.2.1 G.2.2.1.heap) (hb : G.2.2.2 x0 < G.2.2.1.heap.size) (hv : ∀ i : Nat, i < 6 → vp_in (x5 + nI i) N) (hk : kk < 600) (J : lw_J M kk) (K : ∀ M' c' sl', lw_J M' (kk + 1) → c' ≤ c + 67 → sl' ≤ sl + 619 → zL_law_2913 G d mc ms Qr Qx x0 0 99 114 115 x5 M' c' sl') : zL_law_2185 G d mc ms Qr Qx x0 0 99 114 115 x5 M c sl := by
  obtain ⟨O, hn, h, sv, isS, er, ea, n, b, l, s, rb, CI, MI, ok, ho⟩ := J
  have hO2 := ok.1.1
  have hO := hO2.1
  have hdy := hO.1.1
  have hmo := hO.1.2.1
  have hnw := hO.1.2.2.1
  have hwk := hO.1.2.2.2.1
  have hne := hO.1.2.2.2.2
  have hn6 := MI.inp.1
  have h8 : hn ≤ 8 := MI.h8
  have ok1 := ok.mono (k := 12000 * (kk + 1)) (by omega)
  have Kz : ∀ M', lw_J M' (kk + 1) → zL_law_2913 G d mc ms Qr Qx x0 0 99 114 115 x5 M' (c + 67) (sl + 619) := fun M' j => K M' _ _ j (Nat.le_refl _) (Nat.le_refl _)
  refine rL_law_2185 (by omega) (by omega) hX hb ⟨hv 1 (by omega), hv 2 (by omega), hv 3 (by omega), 67, 619, hc, hs, rL_submit_0 hN ⟨⟨_, CI.1⟩, 67, 619, by omega, by omega, c_submit hG CI hO (by omega) (by omega) ?_ ?_ ?_ ?_ ?_⟩⟩
  · intro a0 g
    exact Or.inl ⟨rfl, _, rfl, hv 1 (by omega), hv 2 (by omega), hv 3 (by omega), (MI.gr g).ob, m_submit (MI.gr g) hO2 (fun i hi => (ok.2.1 i hi).1.1) (fun b0 M4 s4 rb4 C4 I4 e4 => by
      exact ⟨_, rfl, lw_chk (zz := fun M7 => zL_law_2913 G d mc ms Qr Qx x0 0 99 114 115 x5 M7 (c + 67) (sl + 619)) I4 e4 rfl (by omega) (fun z => by cases z) (Kz M4 (lw_go (CI.gr g) C4 I4 (ok1) (ho.gr g)))⟩) (fun j2 b0 b1 b2 => by
      exact (a0 j2 b0 b1).elim) (fun j2 kd2 len2 b0 b1 b2 b3 b4 b5 b6 b7 b8 => by
      exact (a0 j2 b0 b1).elim) (fun j2 kd2 len2 b0 b1 b2 b3 b4 b5 b6 b7 b8 b9 => by
      exact (a0 j2 b0 b1).elim) (fun j2 kd2 len2 b0 b1 b2 b3 b4 b5 b6 b7 b8 b9 => by
      exact (a0 j2 b0 b1).elim)⟩
  · intro j a0 a1 a2 g
    exact Or.inr (⟨rfl, _, rfl, hv 1 (by omega), hv 2 (by omega), hv 3 (by omega), (MI.gr g).ob, m_submit (MI.gr g) hO2 (fun i hi => (ok.2.1 i hi).1.1) (fun b0 => by
      exact (b0 j a0 a1).elim) (fun j2 b0 b1 b2 M4 s4 rb4 C4 I4 e4 => by
      have u_j2 := ow_inj (by omega) (by omega) a1 b1
      subst u_j2
      exact ⟨_, rfl, lw_chk (zz := fun M7 => zL_law_2913 G d mc ms Qr Qx x0 0 99 114 115 x5 M7 (c + 67) (sl + 619)) I4 e4 rfl (by omega) (fun z => by cases z) (Kz M4 (lw_go (CI.gr g) C4 I4 (ok1) (ho.gr g)))⟩) (fun j2 kd2 len2 b0 b1 b2 b3 b4 b5 b6 b7 b8 => by
      have u_j2 := ow_inj (by omega) (by omega) a1 b1
      subst u_j2
      exact absurd (a2.symm.trans b7) (by decide)) (fun j2 kd2 len2 b0 b1 b2 b3 b4 b5 b6 b7 b8 b9 => by
      have u_j2 := ow_inj (by omega) (by omega) a1 b1
      subst u_j2
      exact absurd (a2.symm.trans b7) (by decide)) (fun j2 kd2 len2 b0 b1 b2 b3 b4 b5 b6 b7 b8 b9 => by
      have u_j2 := ow_inj (by omega) (by omega) a1 b1
      subst u_j2
      exact absurd (a2.symm.trans b7) (by decide))⟩)
  · intro j kd len a0 a1 a2 a3 a4 a5 a6 a7 a8 M1 C1 CI1
    have MI1 := MI.cf' C1
    have ho1 := ho.cf C1
    obtain ⟨F, f1⟩ := ho1.1
    exact ⟨_, rfl, _, _, f1, vp_in_nI (n := 0) (N := 1) (by omega) (by omega), _, rfl, hv 1 (by omega), hv 2 (by omega), hv 3 (by omega), ⟨_, (kz_up_ne (by omega)).trans MI1.1⟩, m_submit (MI1.cl fun k h1 h2 => kz_up_ne (by omega)) hO2 (fun i hi => (ok.2.1 i hi).1.1) (fun b0 => by
      exact (b0 j a0 a1).elim) (fun j2 b0 b1 b2 => by
      have u_j2 := ow_inj (by omega) (by omega) a1 b1
      subst u_j2
      exact absurd (b2.symm.trans a7) (by decide)) (fun j2 kd2 len2 b0 b1 b2 b3 b4 b5 b6 b7 b8 M4 s4 rb4 C4 I4 e4 => by
      have u_j2 := ow_inj (by omega) (by omega) a1 b1
      subst u_j2
      have u_kd2 := ow_inj (by omega) (by omega) a2 b2
      subst u_kd2
      have u_len2 := ow_inj (by omega) (by omega) a3 b3
      subst u_len2
      exact ⟨_, rfl, lw_chk (zz := fun M7 => zL_law_2913 G d mc ms Qr Qx x0 0 99 114 115 x5 M7 (c + 67) (sl + 619)) I4 e4 rfl (by omega) (fun _ => ⟨_, (C4.1 114 (by omega)).trans (kz_up_same _ _ _), if_pos rfl⟩) (Kz M4 (lw_go (CI1.md (fun k hk => kz_up_ne (by omega)) (Nat.le_refl _)) C4 I4 (ok1) (ho1.up4 _)))⟩) (fun j2 kd2 len2 b0 b1 b2 b3 b4 b5 b6 b7 b8 b9 => by
      have u_j2 := ow_inj (by omega) (by omega) a1 b1
      subst u_j2
      have u_kd2 := ow_inj (by omega) (by omega) a2 b2
      subst u_kd2
      have u_len2 := ow_inj (by omega) (by omega) a3 b3
      subst u_len2
      exact absurd (a8.symm.trans b8) (by decide)) (fun j2 kd2 len2 b0 b1 b2 b3 b4 b5 b6 b7 b8 b9 => by
      have u_j2 := ow_inj (by omega) (by omega) a1 b1
      subst u_j2
      have u_kd2 := ow_inj (by omega) (by omega) a2 b2
      subst u_kd2
      have u_len2 := ow_inj (by omega) (by omega) a3 b3
      subst u_len2
      exact absurd (a8.symm.trans b8) (by decide))⟩
  · intro j kd len a0 a1 a2 a3 a4 a5 a6 a7 a8 a9 M1 C1 CI1
    have MI1 := MI.cf' C1
    have ho1 := ho.cf C1
    obtain ⟨F, f1⟩ := ho1.1
    exact ⟨_, rfl, _, _, f1, vp_in_nI (n := 0) (N := 1) (by omega) (by omega), _, rfl, hv 1 (by omega), hv 2 (by omega), hv 3 (by omega), ⟨_, (kz_up_ne (by omega)).trans MI1.1⟩, m_submit (MI1.cl fun k h1 h2 => kz_up_ne (by omega)) hO2 (fun i hi => (ok.2.1 i hi).1.1) (fun b0 => by
      exact (b0 j a0 a1).elim) (fun j2 b0 b1 b2 => by
      have u_j2 := ow_inj (by omega) (by omega) a1 b1
      subst u_j2
      exact absurd (b2.symm.trans a7) (by decide)) (fun j2 kd2 len2 b0 b1 b2 b3 b4 b5 b6 b7 b8 => by
      have u_j2 := ow_inj (by omega) (by omega) a1 b1
      subst u_j2
      have u_kd2 := ow_inj (by omega) (by omega) a2 b2
      subst u_kd2
      have u_len2 := ow_inj (by omega) (by omega) a3 b3
      subst u_len2
      exact absurd (b8.symm.trans a8) (by decide)) (fun j2 kd2 len2 b0 b1 b2 b3 b4 b5 b6 b7 b8 b9 M4 s4 rb4 C4 I4 e4 => by
      have u_j2 := ow_inj (by omega) (by omega) a1 b1
      subst u_j2
      have u_kd2 := ow_inj (by omega) (by omega) a2 b2
      subst u_kd2
      have u_len2 := ow_inj (by omega) (by omega) a3 b3
      subst u_len2
      exact ⟨_, rfl, lw_chk (zz := fun M7 => zL_law_2913 G d mc ms Qr Qx x0 0 99 114 115 x5 M7 (c + 67) (sl + 619)) I4 e4 rfl (by omega) (fun _ => ⟨_, (C4.1 114 (by omega)).trans (kz_up_same _ _ _), if_pos rfl⟩) (Kz M4 (lw_go (CI1.md (fun k hk => kz_up_ne (by omega)) (Nat.le_refl _)) C4 I4 (ok1) (ho1.up4 _)))⟩) (fun j2 kd2 len2 b0 b1 b2 b3 b4 b5 b6 b7 b8 b9 => by
      have u_j2 := ow_inj (by omega) (by omega) a1 b1
      subst u_j2
      have u_kd2 := ow_inj (by omega) (by omega) a2 b2
      subst u_kd2
      have u_len2 := ow_inj (by omega) (by omega) a3 b3
      subst u_len2
      exact False.elim (by omega))⟩
  · intro j kd len a0 a1 a2 a3 a4 a5 a6 a7 a8 a9 M1 C1 CI1
    have MI1 := MI.cf' C1
    have ho1 := ho.cf C1
    obtain ⟨F, f1⟩ := ho1.1
    exact ⟨_, rfl, _, _, f1, vp_in_nI (n := 0) (N := 1) (by omega) (by omega), _, rfl, hv 1 (by omega), hv 2 (by omega), hv 3 (by omega), ⟨_, (kz_up_ne (by omega)).trans MI1.1⟩, m_submit (MI1.cl fun k h1 h2 => kz_up_ne (by omega)) hO2 (fun i hi => (ok.2.1 i hi).1.1) (fun b0 => by
      exact (b0 j a0 a1).elim) (fun j2 b0 b1 b2 => by
      have u_j2 := ow_inj (by omega) (by omega) a1 b1
      subst u_j2
      exact absurd (b2.symm.trans a7) (by decide)) (fun j2 kd2 len2 b0 b1 b2 b3 b4 b5 b6 b7 b8 => by
      have u_j2 := ow_inj (by omega) (by omega) a1 b1
      subst u_j2
      have u_kd2 := ow_inj (by omega) (by omega) a2 b2
      subst u_kd2
      have u_len2 := ow_inj (by omega) (by omega) a3 b3
      subst u_len2
      exact absurd (b8.symm.trans a8) (by decide)) (fun j2 kd2 len2 b0 b1 b2 b3 b4 b5 b6 b7 b8 b9 => by
      have u_j2 := ow_inj (by omega) (by omega) a1 b1
      subst u_j2
      have u_kd2 := ow_inj (by omega) (by omega) a2 b2
      subst u_kd2
      have u_len2 := ow_inj (by omega) (by omega) a3 b3
      subst u_len2
      exact False.elim (by omega)) (fun j2 kd2 len2 b0 b1 b2 b3 b4 b5 b6 b7 b8 b9 M4 s4 rb4 C4 I4 e4 => by
      have u_j2 := ow_inj (by omega) (by omega) a1 b1
      subst u_j2
      have u_kd2 := ow_inj (by omega) (by omega) a2 b2
      subst u_kd2
      have u_len2 := ow_inj (by omega) (by omega) a3 b3
      subst u_len2
      exact ⟨_, rfl, lw_chk (zz := fun M7 => zL_law_2913 G d mc ms Qr Qx x0 0 99 114 115 x5 M7 (c + 67) (sl + 619)) I4 e4 rfl (by omega) (fun _ => ⟨_, (C4.1 114 (by omega)).trans (kz_up_same _ _ _), if_pos rfl⟩) (Kz M4 (lw_go (CI1.md (fun k hk => kz_up_ne (by omega)) (Nat.le_refl _)) C4 I4 (ok.keep (k := 12000 * (kk + 1)) h8 (by omega) ((ok.1.sub a9 a0 (rd_S_ok a4 a8) (by omega)).mono (by omega))) (ho1.up4 _)))⟩)⟩
theorem lw_appeal {G : kz_G} {N : Nat} {xs : Nat → Int32} {d mc ms : Nat} {Qr : Option Value → kz_M → Prop} {Qx : String → kz_M → Prop} {x0 : Nat} {x5 : Int32} {M : kz_M} {c sl kk : Nat} (hG : kz_stat G) (hN : kz_nc G) (hc : c + 67 ≤ mc) (hs : sl + 619 ≤ ms) (hX : va_X (G.2.2.2 x0) N xs G.2.2.1 G.2.2.1.heap) (hb : G.2.2.2 x0 < G.2.2.1.heap.size) (hv : ∀ i : Nat, i < 6 → vp_in (x5 + nI i) N) (hk : kk < 600) (J : lw_J M kk) (K : ∀ M' c' sl', lw_J M' (kk + 1) → c' ≤ c + 67 → sl' ≤ sl + 619 → zL_law_2913 G d mc ms Qr Qx x0 0 99 114 115 x5 M' c' sl') : zL_law_2265 G d mc ms Qr Qx x0 0 99 114 115 x5 M c sl := by
  obtain ⟨O, hn, h, sv, isS, er, ea, n, b, l, s, rb, CI, MI, ok, ho⟩ := J
  have hO2 := ok.1.1
  have hO := hO2.1
  have hdy := hO.1.1
  have hmo := hO.1.2.1
  have hnw := hO.1.2.2.1
  have hwk := hO.1.2.2.2.1
  have hne := hO.1.2.2.2.2
  have hn6 := MI.inp.1
  have h8 : hn ≤ 8 := MI.h8
  have ok1 := ok.mono (k := 12000 * (kk + 1)) (by omega)
  have Kz : ∀ M', lw_J M' (kk + 1) → zL_law_2913 G d mc ms Qr Qx x0 0 99 114 115 x5 M' (c + 67) (sl + 619) := fun M' j => K M' _ _ j (Nat.le_refl _) (Nat.le_refl _)
  refine rL_law_2265 (by omega) (by omega) hX hb ⟨hv 1 (by omega), hv 2 (by omega), 67, 619, hc, hs, rL_appeal_0 ⟨⟨_, CI.1⟩, 67, 619, by omega, by omega, c_appeal hG CI hO hO2.2.1 (by omega) (by omega) ?_ ?_ ?_ ?_⟩⟩
  · intro a0 g
    exact ⟨rfl, _, rfl, hv 1 (by omega), hv 2 (by omega), (MI.gr g).ob, m_appeal (MI.gr g) hO2 (fun i hi => (ok.2.1 i hi).1.1) (fun b0 M4 s4 rb4 C4 I4 e4 => by
      exact ⟨_, rfl, lw_chk (zz := fun M7 => zL_law_2913 G d mc ms Qr Qx x0 0 99 114 115 x5 M7 (c + 67) (sl + 619)) I4 e4 rfl (by omega) (fun z => by cases z) (Kz M4 (lw_go (CI.gr g) C4 I4 (ok1) (ho.gr g)))⟩) (fun j2 k2 b0 b1 b2 b3 b4 => by
      exact (a0 j2 k2 b0 b2 b1 b3).elim) (fun j2 k2 b0 b1 b2 b3 b4 b5 => by
      exact (a0 j2 k2 b0 b2 b1 b3).elim) (fun j2 k2 b0 b1 b2 b3 b4 b5 => by
      exact (a0 j2 k2 b0 b2 b1 b3).elim)⟩
  · intro j k a0 a1 a2 a3 a4
    have w2_j := (hO.2.2.2 j a0).2.1
    have w3_j := (hO.2.2.2 j a0).1.2.2.1
    obtain ⟨F, f1⟩ := ho.1
    exact ⟨_, rfl, _, _, f1, vp_in_nI (n := 0) (N := 1) (by omega) (by omega), _, rfl, hv 1 (by omega), hv 2 (by omega), ⟨_, (kz_up_ne (by omega)).trans MI.1⟩, m_appeal (MI.cl fun k h1 h2 => kz_up_ne (by omega)) hO2 (fun i hi => (ok.2.1 i hi).1.1) (fun b0 => by
      exact (b0 j k a0 a2 a1 a3).elim) (fun j2 k2 b0 b1 b2 b3 b4 M4 s4 rb4 C4 I4 e4 => by
      have u_j2 := ow_inj (by omega) (by omega) a1 b1
      subst u_j2
      have u_k2 := ow_inj (by omega) (by omega) a3 b3
      subst u_k2
      exact ⟨_, rfl, lw_chk (zz := fun M7 => zL_law_2913 G d mc ms Qr Qx x0 0 99 114 115 x5 M7 (c + 67) (sl + 619)) I4 e4 rfl (by omega) (fun _ => ⟨_, (C4.1 114 (by omega)).trans (kz_up_same _ _ _), if_pos rfl⟩) (Kz M4 (lw_go (CI.md (fun k hk => kz_up_ne (by omega)) (Nat.le_refl _)) C4 I4 (ok1) (ho.up4 _)))⟩) (fun j2 k2 b0 b1 b2 b3 b4 b5 => by
      have u_j2 := ow_inj (by omega) (by omega) a1 b1
      subst u_j2
      have u_k2 := ow_inj (by omega) (by omega) a3 b3
      subst u_k2
      exact False.elim (by omega)) (fun j2 k2 b0 b1 b2 b3 b4 b5 => by
      have u_j2 := ow_inj (by omega) (by omega) a1 b1
      subst u_j2
      have u_k2 := ow_inj (by omega) (by omega) a3 b3
      subst u_k2
      exact False.elim (by omega))⟩
  · intro j k a0 a1 a2 a3 a4 a5 M1 C1 CI1
    have w2_j := (hO.2.2.2 j a0).2.1
    have w3_j := (hO.2.2.2 j a0).1.2.2.1
    have MI1 := MI.cf' C1
    have ho1 := ho.cf C1
    obtain ⟨F, f1⟩ := ho1.1
    exact ⟨_, rfl, _, _, f1, vp_in_nI (n := 0) (N := 1) (by omega) (by omega), _, rfl, hv 1 (by omega), hv 2 (by omega), ⟨_, (kz_up_ne (by omega)).trans MI1.1⟩, m_appeal (MI1.cl fun k h1 h2 => kz_up_ne (by omega)) hO2 (fun i hi => (ok.2.1 i hi).1.1) (fun b0 => by
      exact (b0 j k a0 a2 a1 a3).elim) (fun j2 k2 b0 b1 b2 b3 b4 => by
      have u_j2 := ow_inj (by omega) (by omega) a1 b1
      subst u_j2
      have u_k2 := ow_inj (by omega) (by omega) a3 b3
      subst u_k2
      exact False.elim (by omega)) (fun j2 k2 b0 b1 b2 b3 b4 b5 M4 s4 rb4 C4 I4 e4 => by
      have u_j2 := ow_inj (by omega) (by omega) a1 b1
      subst u_j2
      have u_k2 := ow_inj (by omega) (by omega) a3 b3
      subst u_k2
      exact ⟨_, rfl, lw_chk (zz := fun M7 => zL_law_2913 G d mc ms Qr Qx x0 0 99 114 115 x5 M7 (c + 67) (sl + 619)) I4 e4 rfl (by omega) (fun _ => ⟨_, (C4.1 114 (by omega)).trans (kz_up_same _ _ _), if_pos rfl⟩) (Kz M4 (lw_go (CI1.md (fun k hk => kz_up_ne (by omega)) (Nat.le_refl _)) C4 I4 (ok.keep (k := 12000 * (kk + 1)) h8 (by omega) ((ok.1.lose a0 a2 a4 (by omega)).mono (by omega))) (ho1.up4 _)))⟩) (fun j2 k2 b0 b1 b2 b3 b4 b5 => by
      have u_j2 := ow_inj (by omega) (by omega) a1 b1
      subst u_j2
      have u_k2 := ow_inj (by omega) (by omega) a3 b3
      subst u_k2
      exact absurd (a5.symm.trans b5) (by decide))⟩
  · intro j k a0 a1 a2 a3 a4 a5 M1 C1 CI1
    have w2_j := (hO.2.2.2 j a0).2.1
    have w3_j := (hO.2.2.2 j a0).1.2.2.1
    have MI1 := MI.cf' C1
    have ho1 := ho.cf C1
    obtain ⟨F, f1⟩ := ho1.1
    exact ⟨_, rfl, _, _, f1, vp_in_nI (n := 0) (N := 1) (by omega) (by omega), _, rfl, hv 1 (by omega), hv 2 (by omega), ⟨_, (kz_up_ne (by omega)).trans MI1.1⟩, m_appeal (MI1.cl fun k h1 h2 => kz_up_ne (by omega)) hO2 (fun i hi => (ok.2.1 i hi).1.1) (fun b0 => by
      exact (b0 j k a0 a2 a1 a3).elim) (fun j2 k2 b0 b1 b2 b3 b4 => by
      have u_j2 := ow_inj (by omega) (by omega) a1 b1
      subst u_j2
      have u_k2 := ow_inj (by omega) (by omega) a3 b3
      subst u_k2
      exact False.elim (by omega)) (fun j2 k2 b0 b1 b2 b3 b4 b5 => by
      have u_j2 := ow_inj (by omega) (by omega) a1 b1
      subst u_j2
      have u_k2 := ow_inj (by omega) (by omega) a3 b3
      subst u_k2
      exact absurd (b5.symm.trans a5) (by decide)) (fun j2 k2 b0 b1 b2 b3 b4 b5 M4 s4 rb4 C4 I4 e4 => by
      have u_j2 := ow_inj (by omega) (by omega) a1 b1
      subst u_j2
      have u_k2 := ow_inj (by omega) (by omega) a3 b3
      subst u_k2
      exact ⟨_, rfl, lw_chk (zz := fun M7 => zL_law_2913 G d mc ms Qr Qx x0 0 99 114 115 x5 M7 (c + 67) (sl + 619)) I4 e4 rfl (by omega) (fun _ => ⟨_, (C4.1 114 (by omega)).trans (kz_up_same _ _ _), if_pos rfl⟩) (Kz M4 (lw_go (CI1.md (fun k hk => kz_up_ne (by omega)) (Nat.le_refl _)) C4 I4 (ok.keep (k := 12000 * (kk + 1)) h8 (by omega) ((ok.1.gain a0 a2 a4 (by omega)).mono (by omega))) (ho1.up4 _)))⟩)⟩
theorem lw_payOut {G : kz_G} {N : Nat} {xs : Nat → Int32} {d mc ms : Nat} {Qr : Option Value → kz_M → Prop} {Qx : String → kz_M → Prop} {x0 : Nat} {x5 : Int32} {M : kz_M} {c sl kk : Nat} (hG : kz_stat G) (hN : kz_nc G) (hc : c + 67 ≤ mc) (hs : sl + 619 ≤ ms) (hX : va_X (G.2.2.2 x0) N xs G.2.2.1 G.2.2.1.heap) (hb : G.2.2.2 x0 < G.2.2.1.heap.size) (hv : ∀ i : Nat, i < 6 → vp_in (x5 + nI i) N) (hk : kk < 600) (J : lw_J M kk) (K : ∀ M' c' sl', lw_J M' (kk + 1) → c' ≤ c + 67 → sl' ≤ sl + 619 → zL_law_2913 G d mc ms Qr Qx x0 0 99 114 115 x5 M' c' sl') : zL_law_2333 G d mc ms Qr Qx x0 0 99 114 115 x5 M c sl := by
  obtain ⟨O, hn, h, sv, isS, er, ea, n, b, l, s, rb, CI, MI, ok, ho⟩ := J
  have hO2 := ok.1.1
  have hO := hO2.1
  have hdy := hO.1.1
  have hmo := hO.1.2.1
  have hnw := hO.1.2.2.1
  have hwk := hO.1.2.2.2.1
  have hne := hO.1.2.2.2.2
  have hn6 := MI.inp.1
  have h8 : hn ≤ 8 := MI.h8
  have ok1 := ok.mono (k := 12000 * (kk + 1)) (by omega)
  have Kz : ∀ M', lw_J M' (kk + 1) → zL_law_2913 G d mc ms Qr Qx x0 0 99 114 115 x5 M' (c + 67) (sl + 619) := fun M' j => K M' _ _ j (Nat.le_refl _) (Nat.le_refl _)
  refine rL_law_2333 (by omega) (by omega) hX hb ⟨hv 1 (by omega), 67, 619, hc, hs, rL_payOut_0 ⟨⟨_, CI.1⟩, 67, 619, by omega, by omega, c_payOut hG CI hO (by omega) (by omega) ?_ ?_⟩⟩
  · intro a0 g
    exact ⟨rfl, _, rfl, hv 1 (by omega), (MI.gr g).ob, m_payOut (MI.gr g) hO2 (fun i hi => (ok.2.1 i hi).1.1) (fun b0 M4 s4 rb4 C4 I4 e4 => by
      exact ⟨_, rfl, lw_chk (zz := fun M7 => zL_law_2913 G d mc ms Qr Qx x0 0 99 114 115 x5 M7 (c + 67) (sl + 619)) I4 e4 rfl (by omega) (fun z => by cases z) (Kz M4 (lw_go (CI.gr g) C4 I4 (ok1) (ho.gr g)))⟩) (fun j2 b0 b1 => by
      exact (a0 j2 b0 b1).elim)⟩
  · intro j a0 a1 M1 C1 CI1
    have MI1 := MI.cf' C1
    have ho1 := ho.cf C1
    obtain ⟨F, f1⟩ := ho1.1
    exact ⟨_, rfl, _, _, f1, vp_in_nI (n := 0) (N := 1) (by omega) (by omega), _, rfl, hv 1 (by omega), ⟨_, (kz_up_ne (by omega)).trans MI1.1⟩, m_payOut (MI1.cl fun k h1 h2 => kz_up_ne (by omega)) hO2 (fun i hi => (ok.2.1 i hi).1.1) (fun b0 => by
      exact (b0 j a0 a1).elim) (fun j2 b0 b1 M4 s4 rb4 C4 I4 e4 => by
      have u_j2 := ow_inj (by omega) (by omega) a1 b1
      subst u_j2
      exact ⟨_, rfl, lw_chk (zz := fun M7 => zL_law_2913 G d mc ms Qr Qx x0 0 99 114 115 x5 M7 (c + 67) (sl + 619)) I4 e4 rfl (by omega) (fun _ => ⟨_, (C4.1 114 (by omega)).trans (kz_up_same _ _ _), if_pos rfl⟩) (Kz M4 (lw_go (CI1.md (fun k hk => kz_up_ne (by omega)) (Nat.le_refl _)) C4 I4 (ok.keep (k := 12000 * (kk + 1)) h8 (by omega) (ok1.1.payOut a0 (by omega))) (ho1.up4 _)))⟩)⟩
theorem lw_advance {G : kz_G} {N : Nat} {xs : Nat → Int32} {d mc ms : Nat} {Qr : Option Value → kz_M → Prop} {Qx : String → kz_M → Prop} {x0 : Nat} {x5 : Int32} {M : kz_M} {c sl kk : Nat} (hG : kz_stat G) (hN : kz_nc G) (hc : c + 67 ≤ mc) (hs : sl + 619 ≤ ms) (hX : va_X (G.2.2.2 x0) N xs G.2.2.1 G.2.2.1.heap) (hb : G.2.2.2 x0 < G.2.2.1.heap.size) (hv : ∀ i : Nat, i < 6 → vp_in (x5 + nI i) N) (hk : kk < 600) (J : lw_J M kk) (K : ∀ M' c' sl', lw_J M' (kk + 1) → c' ≤ c + 67 → sl' ≤ sl + 619 → zL_law_2913 G d mc ms Qr Qx x0 0 99 114 115 x5 M' c' sl') : zL_law_2389 G d mc ms Qr Qx x0 0 99 114 115 x5 M c sl := by
  obtain ⟨O, hn, h, sv, isS, er, ea, n, b, l, s, rb, CI, MI, ok, ho⟩ := J
  have hO2 := ok.1.1
  have hO := hO2.1
  have hdy := hO.1.1
  have hmo := hO.1.2.1
  have hnw := hO.1.2.2.1
  have hwk := hO.1.2.2.2.1
  have hne := hO.1.2.2.2.2
  have hn6 := MI.inp.1
  have h8 : hn ≤ 8 := MI.h8
  have ok1 := ok.mono (k := 12000 * (kk + 1)) (by omega)
  have Kz : ∀ M', lw_J M' (kk + 1) → zL_law_2913 G d mc ms Qr Qx x0 0 99 114 115 x5 M' (c + 67) (sl + 619) := fun M' j => K M' _ _ j (Nat.le_refl _) (Nat.le_refl _)
  refine rL_law_2389 (by omega) (by omega) hX hb ⟨hv 1 (by omega), hv 2 (by omega), 67, 619, hc, hs, rL_advance_0 hN ⟨⟨_, CI.1⟩, 67, 619, by omega, by omega, c_advance hG CI hO (by omega) (by omega) ?_ ?_ ?_ ?_⟩⟩
  · intro a0 g
    exact Or.inl ⟨rfl, _, rfl, hv 1 (by omega), hv 2 (by omega), (MI.gr g).ob, m_advance (MI.gr g) hO2 (fun i hi => (ok.2.1 i hi).1.1) (fun b0 M4 s4 rb4 C4 I4 e4 => by
      exact ⟨_, rfl, lw_chk (zz := fun M7 => zL_law_2913 G d mc ms Qr Qx x0 0 99 114 115 x5 M7 (c + 67) (sl + 619)) I4 e4 rfl (by omega) (fun z => by cases z) (Kz M4 (lw_go (CI.gr g) C4 I4 (ok1) (ho.gr g)))⟩) (fun j2 b0 b1 b2 => by
      exact (a0 j2 b0 b1).elim) (fun j2 m2 b0 b1 b2 b3 b4 b5 => by
      exact (a0 j2 b0 b1).elim) (fun j2 m2 b0 b1 b2 b3 b4 b5 => by
      exact (a0 j2 b0 b1).elim)⟩
  · intro j a0 a1 a2 g
    exact Or.inr (Or.inl ⟨rfl, _, rfl, hv 1 (by omega), hv 2 (by omega), (MI.gr g).ob, m_advance (MI.gr g) hO2 (fun i hi => (ok.2.1 i hi).1.1) (fun b0 => by
      exact (b0 j a0 a1).elim) (fun j2 b0 b1 b2 M4 s4 rb4 C4 I4 e4 => by
      have u_j2 := ow_inj (by omega) (by omega) a1 b1
      subst u_j2
      exact ⟨_, rfl, lw_chk (zz := fun M7 => zL_law_2913 G d mc ms Qr Qx x0 0 99 114 115 x5 M7 (c + 67) (sl + 619)) I4 e4 rfl (by omega) (fun z => by cases z) (Kz M4 (lw_go (CI.gr g) C4 I4 (ok1) (ho.gr g)))⟩) (fun j2 m2 b0 b1 b2 b3 b4 b5 => by
      have u_j2 := ow_inj (by omega) (by omega) a1 b1
      subst u_j2
      exact (a2 m2 b2 b3 b4).elim) (fun j2 m2 b0 b1 b2 b3 b4 b5 => by
      have u_j2 := ow_inj (by omega) (by omega) a1 b1
      subst u_j2
      exact (a2 m2 b2 b3 b4).elim)⟩)
  · intro j m a0 a1 a2 a3 a4 a5 g
    exact Or.inr (Or.inr ⟨rfl, _, rfl, hv 1 (by omega), hv 2 (by omega), (MI.gr g).ob, m_advance (MI.gr g) hO2 (fun i hi => (ok.2.1 i hi).1.1) (fun b0 => by
      exact (b0 j a0 a1).elim) (fun j2 b0 b1 b2 => by
      have u_j2 := ow_inj (by omega) (by omega) a1 b1
      subst u_j2
      exact (b2 m a2 a3 a4).elim) (fun j2 m2 b0 b1 b2 b3 b4 b5 M4 s4 rb4 C4 I4 e4 => by
      have u_j2 := ow_inj (by omega) (by omega) a1 b1
      subst u_j2
      have u_m2 := ow_inj (by omega) (by omega) a4 b4
      subst u_m2
      exact ⟨_, rfl, lw_chk (zz := fun M7 => zL_law_2913 G d mc ms Qr Qx x0 0 99 114 115 x5 M7 (c + 67) (sl + 619)) I4 e4 rfl (by omega) (fun z => by cases z) (Kz M4 (lw_go (CI.gr g) C4 I4 (ok1) (ho.gr g)))⟩) (fun j2 m2 b0 b1 b2 b3 b4 b5 => by
      have u_j2 := ow_inj (by omega) (by omega) a1 b1
      subst u_j2
      have u_m2 := ow_inj (by omega) (by omega) a4 b4
      subst u_m2
      exact False.elim (by omega))⟩)
  · intro j m a0 a1 a2 a3 a4 a5 M1 C1 CI1
    have MI1 := MI.cf' C1
    have ho1 := ho.cf C1
    obtain ⟨F, f1⟩ := ho1.1
    exact ⟨_, rfl, _, _, f1, vp_in_nI (n := 0) (N := 1) (by omega) (by omega), _, rfl, hv 1 (by omega), hv 2 (by omega), ⟨_, (kz_up_ne (by omega)).trans MI1.1⟩, m_advance (MI1.cl fun k h1 h2 => kz_up_ne (by omega)) hO2 (fun i hi => (ok.2.1 i hi).1.1) (fun b0 => by
      exact (b0 j a0 a1).elim) (fun j2 b0 b1 b2 => by
      have u_j2 := ow_inj (by omega) (by omega) a1 b1
      subst u_j2
      exact (b2 m a2 a3 a4).elim) (fun j2 m2 b0 b1 b2 b3 b4 b5 => by
      have u_j2 := ow_inj (by omega) (by omega) a1 b1
      subst u_j2
      have u_m2 := ow_inj (by omega) (by omega) a4 b4
      subst u_m2
      exact False.elim (by omega)) (fun j2 m2 b0 b1 b2 b3 b4 b5 M4 s4 rb4 C4 I4 e4 => by
      have u_j2 := ow_inj (by omega) (by omega) a1 b1
      subst u_j2
      have u_m2 := ow_inj (by omega) (by omega) a4 b4
      subst u_m2
      exact ⟨_, rfl, lw_chk (zz := fun M7 => zL_law_2913 G d mc ms Qr Qx x0 0 99 114 115 x5 M7 (c + 67) (sl + 619)) I4 e4 rfl (by omega) (fun _ => ⟨_, (C4.1 114 (by omega)).trans (kz_up_same _ _ _), if_pos rfl⟩) (Kz M4 (lw_go (CI1.md (fun k hk => kz_up_ne (by omega)) (Nat.le_refl _)) C4 I4 (ok.keep (k := 12000 * (kk + 1)) h8 (by omega) ((ok.1.hand a0 (by omega) (by omega)).mono (by omega))) (ho1.up4 _)))⟩)⟩
theorem lw_endow {G : kz_G} {N : Nat} {xs : Nat → Int32} {d mc ms : Nat} {Qr : Option Value → kz_M → Prop} {Qx : String → kz_M → Prop} {x0 : Nat} {x5 : Int32} {M : kz_M} {c sl kk : Nat} (hG : kz_stat G) (hN : kz_nc G) (hc : c + 67 ≤ mc) (hs : sl + 619 ≤ ms) (hX : va_X (G.2.2.2 x0) N xs G.2.2.1 G.2.2.1.heap) (hb : G.2.2.2 x0 < G.2.2.1.heap.size) (hv : ∀ i : Nat, i < 6 → vp_in (x5 + nI i) N) (hk : kk < 600) (J : lw_J M kk) (K : ∀ M' c' sl', lw_J M' (kk + 1) → c' ≤ c + 67 → sl' ≤ sl + 619 → zL_law_2913 G d mc ms Qr Qx x0 0 99 114 115 x5 M' c' sl') : zL_law_2470 G d mc ms Qr Qx x0 0 99 114 115 x5 M c sl := by
  obtain ⟨O, hn, h, sv, isS, er, ea, n, b, l, s, rb, CI, MI, ok, ho⟩ := J
  have hO2 := ok.1.1
  have hO := hO2.1
  have hdy := hO.1.1
  have hmo := hO.1.2.1
  have hnw := hO.1.2.2.1
  have hwk := hO.1.2.2.2.1
  have hne := hO.1.2.2.2.2
  have hn6 := MI.inp.1
  have h8 : hn ≤ 8 := MI.h8
  have ok1 := ok.mono (k := 12000 * (kk + 1)) (by omega)
  have Kz : ∀ M', lw_J M' (kk + 1) → zL_law_2913 G d mc ms Qr Qx x0 0 99 114 115 x5 M' (c + 67) (sl + 619) := fun M' j => K M' _ _ j (Nat.le_refl _) (Nat.le_refl _)
  refine rL_law_2470 (by omega) (by omega) hX hb ⟨hv 1 (by omega), 67, 619, hc, hs, rL_endow_0 ⟨⟨_, CI.1⟩, 67, 619, by omega, by omega, c_endow hG CI hO (by omega) (by omega) ?_ ?_⟩⟩
  · intro a0 g
    exact ⟨rfl, _, rfl, hv 1 (by omega), (MI.gr g).ob, m_endow (MI.gr g) hO2 (fun i hi => (ok.2.1 i hi).1.1) (fun b0 M4 s4 rb4 C4 I4 e4 => by
      exact ⟨_, rfl, lw_chk (zz := fun M7 => zL_law_2913 G d mc ms Qr Qx x0 0 99 114 115 x5 M7 (c + 67) (sl + 619)) I4 e4 rfl (by omega) (fun z => by cases z) (Kz M4 (lw_go (CI.gr g) C4 I4 (ok1) (ho.gr g)))⟩) (fun m2 b0 b1 b2 => by
      exact (a0 m2 b0 b1 b2).elim)⟩
  · intro m a0 a1 a2 M1 C1 CI1
    have MI1 := MI.cf' C1
    have ho1 := ho.cf C1
    obtain ⟨F, f1⟩ := ho1.1
    exact ⟨_, rfl, _, _, f1, vp_in_nI (n := 0) (N := 1) (by omega) (by omega), _, rfl, hv 1 (by omega), ⟨_, (kz_up_ne (by omega)).trans MI1.1⟩, m_endow (MI1.cl fun k h1 h2 => kz_up_ne (by omega)) hO2 (fun i hi => (ok.2.1 i hi).1.1) (fun b0 => by
      exact (b0 m a0 a1 a2).elim) (fun m2 b0 b1 b2 M4 s4 rb4 C4 I4 e4 => by
      have u_m2 := ow_inj (by omega) (by omega) a2 b2
      subst u_m2
      exact ⟨_, rfl, lw_chk (zz := fun M7 => zL_law_2913 G d mc ms Qr Qx x0 0 99 114 115 x5 M7 (c + 67) (sl + 619)) I4 e4 rfl (by omega) (fun _ => ⟨_, (C4.1 114 (by omega)).trans (kz_up_same _ _ _), if_pos rfl⟩) (Kz M4 (lw_go (CI1.md (fun k hk => kz_up_ne (by omega)) (Nat.le_refl _)) C4 I4 (ok.keep (k := 12000 * (kk + 1)) h8 (by omega) ok1.1.endow) (ho1.up4 _)))⟩)⟩
theorem lw_pass {G : kz_G} {N : Nat} {xs : Nat → Int32} {d mc ms : Nat} {Qr : Option Value → kz_M → Prop} {Qx : String → kz_M → Prop} {x0 : Nat} {x5 : Int32} {M : kz_M} {c sl kk : Nat} (hG : kz_stat G) (hN : kz_nc G) (hc : c + 67 ≤ mc) (hs : sl + 619 ≤ ms) (hX : va_X (G.2.2.2 x0) N xs G.2.2.1 G.2.2.1.heap) (hb : G.2.2.2 x0 < G.2.2.1.heap.size) (hv : ∀ i : Nat, i < 6 → vp_in (x5 + nI i) N) (hk : kk < 600) (J : lw_J M kk) (K : ∀ M' c' sl', lw_J M' (kk + 1) → c' ≤ c + 67 → sl' ≤ sl + 619 → zL_law_2913 G d mc ms Qr Qx x0 0 99 114 115 x5 M' c' sl') : zL_law_2526 G d mc ms Qr Qx x0 0 99 114 115 x5 M c sl := by
  obtain ⟨O, hn, h, sv, isS, er, ea, n, b, l, s, rb, CI, MI, ok, ho⟩ := J
  have hO2 := ok.1.1
  have hO := hO2.1
  have hdy := hO.1.1
  have hmo := hO.1.2.1
  have hnw := hO.1.2.2.1
  have hwk := hO.1.2.2.2.1
  have hne := hO.1.2.2.2.2
  have hn6 := MI.inp.1
  have h8 : hn ≤ 8 := MI.h8
  have ok1 := ok.mono (k := 12000 * (kk + 1)) (by omega)
  have Kz : ∀ M', lw_J M' (kk + 1) → zL_law_2913 G d mc ms Qr Qx x0 0 99 114 115 x5 M' (c + 67) (sl + 619) := fun M' j => K M' _ _ j (Nat.le_refl _) (Nat.le_refl _)
  refine rL_law_2526 (by omega) (by omega) hX hb ⟨hv 1 (by omega), 67, 619, hc, hs, rL_pass_0 hN ⟨⟨_, CI.1⟩, 67, 619, by omega, by omega, c_pass hG CI hO (by omega) (by omega) ?_ ?_ ?_⟩⟩
  · intro a0 g
    exact Or.inl ⟨rfl, _, rfl, hv 1 (by omega), (MI.gr g).ob, m_pass (MI.gr g) hO2 (fun i hi => (ok.2.1 i hi).1.1) (fun b0 M4 s4 rb4 C4 I4 e4 => by
      exact ⟨_, rfl, lw_chk (zz := fun M7 => zL_law_2913 G d mc ms Qr Qx x0 0 99 114 115 x5 M7 (c + 67) (sl + 619)) I4 e4 rfl (by omega) (fun z => by cases z) (Kz M4 (lw_go (CI.gr g) C4 I4 (ok1) (ho.gr g)))⟩) (fun m2 b0 b1 b2 b3 => by
      exact (a0 m2 b0 b1 b2).elim) (fun m2 b0 b1 b2 b3 => by
      exact (a0 m2 b0 b1 b2).elim)⟩
  · intro m a0 a1 a2 a3 g
    exact Or.inr (⟨rfl, _, rfl, hv 1 (by omega), (MI.gr g).ob, m_pass (MI.gr g) hO2 (fun i hi => (ok.2.1 i hi).1.1) (fun b0 => by
      exact (b0 m a0 a1 a2).elim) (fun m2 b0 b1 b2 b3 M4 s4 rb4 C4 I4 e4 => by
      have u_m2 := ow_inj (by omega) (by omega) a2 b2
      subst u_m2
      exact ⟨_, rfl, lw_chk (zz := fun M7 => zL_law_2913 G d mc ms Qr Qx x0 0 99 114 115 x5 M7 (c + 67) (sl + 619)) I4 e4 rfl (by omega) (fun z => by cases z) (Kz M4 (lw_go (CI.gr g) C4 I4 (ok1) (ho.gr g)))⟩) (fun m2 b0 b1 b2 b3 => by
      have u_m2 := ow_inj (by omega) (by omega) a2 b2
      subst u_m2
      exact False.elim (by omega))⟩)
  · intro m a0 a1 a2 a3 M1 C1 CI1
    have MI1 := MI.cf' C1
    have ho1 := ho.cf C1
    obtain ⟨F, f1⟩ := ho1.1
    exact ⟨_, rfl, _, _, f1, vp_in_nI (n := 0) (N := 1) (by omega) (by omega), _, rfl, hv 1 (by omega), ⟨_, (kz_up_ne (by omega)).trans MI1.1⟩, m_pass (MI1.cl fun k h1 h2 => kz_up_ne (by omega)) hO2 (fun i hi => (ok.2.1 i hi).1.1) (fun b0 => by
      exact (b0 m a0 a1 a2).elim) (fun m2 b0 b1 b2 b3 => by
      have u_m2 := ow_inj (by omega) (by omega) a2 b2
      subst u_m2
      exact False.elim (by omega)) (fun m2 b0 b1 b2 b3 M4 s4 rb4 C4 I4 e4 => by
      have u_m2 := ow_inj (by omega) (by omega) a2 b2
      subst u_m2
      exact ⟨_, rfl, lw_chk (zz := fun M7 => zL_law_2913 G d mc ms Qr Qx x0 0 99 114 115 x5 M7 (c + 67) (sl + 619)) I4 e4 rfl (by omega) (fun _ => ⟨_, (C4.1 114 (by omega)).trans (kz_up_same _ _ _), if_pos rfl⟩) (Kz M4 (lw_go (CI1.md (fun k hk => kz_up_ne (by omega)) (Nat.le_refl _)) C4 I4 (ok.keep (k := 12000 * (kk + 1)) h8 (by omega) (ok1.1.pass a3)) (ho1.up4 _)))⟩)⟩
theorem lw_set {G : kz_G} {N : Nat} {xs : Nat → Int32} {d mc ms : Nat} {Qr : Option Value → kz_M → Prop} {Qx : String → kz_M → Prop} {x0 : Nat} {x5 : Int32} {M : kz_M} {c sl kk : Nat} (hG : kz_stat G) (hN : kz_nc G) (hc : c + 67 ≤ mc) (hs : sl + 619 ≤ ms) (hX : va_X (G.2.2.2 x0) N xs G.2.2.1 G.2.2.1.heap) (hb : G.2.2.2 x0 < G.2.2.1.heap.size) (hv : ∀ i : Nat, i < 6 → vp_in (x5 + nI i) N) (hk : kk < 600) (J : lw_J M kk) (K : ∀ M' c' sl', lw_J M' (kk + 1) → c' ≤ c + 67 → sl' ≤ sl + 619 → zL_law_2913 G d mc ms Qr Qx x0 0 99 114 115 x5 M' c' sl') : zL_law_2582 G d mc ms Qr Qx x0 0 99 114 115 x5 M c sl := by
  obtain ⟨O, hn, h, sv, isS, er, ea, n, b, l, s, rb, CI, MI, ok, ho⟩ := J
  have hO2 := ok.1.1
  have hO := hO2.1
  have hdy := hO.1.1
  have hmo := hO.1.2.1
  have hnw := hO.1.2.2.1
  have hwk := hO.1.2.2.2.1
  have hne := hO.1.2.2.2.2
  have hn6 := MI.inp.1
  have h8 : hn ≤ 8 := MI.h8
  have ok1 := ok.mono (k := 12000 * (kk + 1)) (by omega)
  have Kz : ∀ M', lw_J M' (kk + 1) → zL_law_2913 G d mc ms Qr Qx x0 0 99 114 115 x5 M' (c + 67) (sl + 619) := fun M' j => K M' _ _ j (Nat.le_refl _) (Nat.le_refl _)
  refine rL_law_2582 (by omega) (by omega) hX hb ⟨hv 1 (by omega), hv 2 (by omega), 67, 619, hc, hs, rL_set_0 ⟨⟨_, CI.1⟩, 67, 619, by omega, by omega, c_set hG CI hO (by omega) (by omega) ?_ ?_⟩⟩
  · intro a0 g
    exact ⟨rfl, _, rfl, hv 1 (by omega), hv 2 (by omega), (MI.gr g).ob, m_set (MI.gr g) hO2 (fun i hi => (ok.2.1 i hi).1.1) (fun b0 M4 s4 rb4 C4 I4 e4 => by
      exact ⟨_, rfl, lw_chk (zz := fun M7 => zL_law_2913 G d mc ms Qr Qx x0 0 99 114 115 x5 M7 (c + 67) (sl + 619)) I4 e4 rfl (by omega) (fun z => by cases z) (Kz M4 (lw_go (CI.gr g) C4 I4 (ok1) (ho.gr g)))⟩) (fun j2 m2 b0 b1 b2 b3 b4 b5 => by
      exact absurd (a0.symm.trans b5) (by decide))⟩
  · intro j m a0 a1 a2 a3 a4 a5 M1 C1 CI1
    have w4_j := ow_hi_le j a0
    have MI1 := MI.cf' C1
    have ho1 := ho.cf C1
    obtain ⟨F, f1⟩ := ho1.1
    exact ⟨_, rfl, _, _, f1, vp_in_nI (n := 0) (N := 1) (by omega) (by omega), _, rfl, hv 1 (by omega), hv 2 (by omega), ⟨_, (kz_up_ne (by omega)).trans MI1.1⟩, m_set (MI1.cl fun k h1 h2 => kz_up_ne (by omega)) hO2 (fun i hi => (ok.2.1 i hi).1.1) (fun b0 => by
      exact absurd (b0.symm.trans a5) (by decide)) (fun j2 m2 b0 b1 b2 b3 b4 b5 M4 s4 rb4 C4 I4 e4 => by
      have u_j2 := ow_inj (by omega) (by omega) a1 b1
      subst u_j2
      have u_m2 := ow_inj (by omega) (by omega) a2 b2
      subst u_m2
      exact ⟨_, rfl, lw_chk (zz := fun M7 => zL_law_2913 G d mc ms Qr Qx x0 0 99 114 115 x5 M7 (c + 67) (sl + 619)) I4 e4 rfl (by omega) (fun _ => ⟨_, (C4.1 114 (by omega)).trans (kz_up_same _ _ _), if_pos rfl⟩) (Kz M4 (lw_go (CI1.md (fun k hk => kz_up_ne (by omega)) (Nat.le_refl _)) C4 I4 (ok.keep (k := 12000 * (kk + 1)) h8 (by omega) (ok1.1.rule a0 a4)) (ho1.up4 _)))⟩)⟩
theorem lw_undo {G : kz_G} {N : Nat} {xs : Nat → Int32} {d mc ms : Nat} {Qr : Option Value → kz_M → Prop} {Qx : String → kz_M → Prop} {x0 : Nat} {x5 : Int32} {M : kz_M} {c sl kk : Nat} (hG : kz_stat G) (hN : kz_nc G) (hc : c + 67 ≤ mc) (hs : sl + 619 ≤ ms) (hX : va_X (G.2.2.2 x0) N xs G.2.2.1 G.2.2.1.heap) (hb : G.2.2.2 x0 < G.2.2.1.heap.size) (hv : ∀ i : Nat, i < 6 → vp_in (x5 + nI i) N) (hk : kk < 600) (J : lw_J M kk) (K : ∀ M' c' sl', lw_J M' (kk + 1) → c' ≤ c + 67 → sl' ≤ sl + 619 → zL_law_2913 G d mc ms Qr Qx x0 0 99 114 115 x5 M' c' sl') : zL_law_2650 G d mc ms Qr Qx x0 0 99 114 115 x5 M c sl := by
  obtain ⟨O, hn, h, sv, isS, er, ea, n, b, l, s, rb, CI, MI, ok, ho⟩ := J
  have hO2 := ok.1.1
  have hO := hO2.1
  have hdy := hO.1.1
  have hmo := hO.1.2.1
  have hnw := hO.1.2.2.1
  have hwk := hO.1.2.2.2.1
  have hne := hO.1.2.2.2.2
  have hn6 := MI.inp.1
  have h8 : hn ≤ 8 := MI.h8
  have ok1 := ok.mono (k := 12000 * (kk + 1)) (by omega)
  have Kz : ∀ M', lw_J M' (kk + 1) → zL_law_2913 G d mc ms Qr Qx x0 0 99 114 115 x5 M' (c + 67) (sl + 619) := fun M' j => K M' _ _ j (Nat.le_refl _) (Nat.le_refl _)
  refine rL_law_2650 (by omega) (by omega) hX hb ⟨67, 619, hc, hs, rL_undo_0 ⟨⟨_, CI.1⟩, 67, 619, by omega, by omega, c_undo hG CI (fun i hi => (ok.2.1 i hi).1.1) (by omega) (by omega) ?_ ?_⟩⟩
  · intro a0 g
    exact ⟨rfl, _, rfl, (MI.gr g).ob, m_undo (MI.gr g) hO2 (fun i hi => (ok.2.1 i hi).1.1) (fun b0 M4 s4 rb4 C4 I4 e4 => by
      exact ⟨_, rfl, lw_chk (zz := fun M7 => zL_law_2913 G d mc ms Qr Qx x0 0 99 114 115 x5 M7 (c + 67) (sl + 619)) I4 e4 rfl (by omega) (fun z => by cases z) (Kz M4 (lw_go (CI.gr g) C4 I4 (ok1) (ho.gr g)))⟩) (fun b0 => by
      exact False.elim (by omega))⟩
  · intro a0 M1 C1 CI1
    have MI1 := MI.cf' C1
    have ho1 := ho.cf C1
    obtain ⟨F, f1⟩ := ho1.1
    exact ⟨_, rfl, _, _, f1, vp_in_nI (n := 0) (N := 1) (by omega) (by omega), _, rfl, ⟨_, (kz_up_ne (by omega)).trans MI1.1⟩, m_undo (MI1.cl fun k h1 h2 => kz_up_ne (by omega)) hO2 (fun i hi => (ok.2.1 i hi).1.1) (fun b0 => by
      exact False.elim (by omega)) (fun b0 M4 s4 rb4 C4 I4 e4 => by
      exact ⟨_, rfl, lw_chk (zz := fun M7 => zL_law_2913 G d mc ms Qr Qx x0 0 99 114 115 x5 M7 (c + 67) (sl + 619)) I4 e4 rfl (by omega) (fun _ => ⟨_, (C4.1 114 (by omega)).trans (kz_up_same _ _ _), if_pos rfl⟩) (Kz M4 (lw_go (CI1.md (fun k hk => kz_up_ne (by omega)) (Nat.le_refl _)) C4 I4 (⟨ok1.2.1 (hn - 1) (by omega), fun i hi => ok1.2.1 i (by omega), ok1.2.2⟩) (ho1.up4 _)))⟩)⟩
theorem lw_restoreState {G : kz_G} {N : Nat} {xs : Nat → Int32} {d mc ms : Nat} {Qr : Option Value → kz_M → Prop} {Qx : String → kz_M → Prop} {x0 : Nat} {x5 : Int32} {M : kz_M} {c sl kk : Nat} (hG : kz_stat G) (hN : kz_nc G) (hc : c + 67 ≤ mc) (hs : sl + 619 ≤ ms) (hX : va_X (G.2.2.2 x0) N xs G.2.2.1 G.2.2.1.heap) (hb : G.2.2.2 x0 < G.2.2.1.heap.size) (hv : ∀ i : Nat, i < 6 → vp_in (x5 + nI i) N) (hk : kk < 600) (J : lw_J M kk) (K : ∀ M' c' sl', lw_J M' (kk + 1) → c' ≤ c + 67 → sl' ≤ sl + 619 → zL_law_2913 G d mc ms Qr Qx x0 0 99 114 115 x5 M' c' sl') : zL_law_2869 G d mc ms Qr Qx x0 0 99 114 115 x5 M c sl := by
  obtain ⟨O, hn, h, sv, isS, er, ea, n, b, l, s, rb, CI, MI, ok, ho⟩ := J
  have hO2 := ok.1.1
  have hO := hO2.1
  have hdy := hO.1.1
  have hmo := hO.1.2.1
  have hnw := hO.1.2.2.1
  have hwk := hO.1.2.2.2.1
  have hne := hO.1.2.2.2.2
  have hn6 := MI.inp.1
  have h8 : hn ≤ 8 := MI.h8
  have ok1 := ok.mono (k := 12000 * (kk + 1)) (by omega)
  have Kz : ∀ M', lw_J M' (kk + 1) → zL_law_2913 G d mc ms Qr Qx x0 0 99 114 115 x5 M' (c + 67) (sl + 619) := fun M' j => K M' _ _ j (Nat.le_refl _) (Nat.le_refl _)
  refine rL_law_2869 (by omega) (by omega) hX hb ⟨67, 619, hc, hs, rL_restoreState_0 ⟨⟨_, CI.1⟩, 67, 619, by omega, by omega, c_restoreState hG CI ok.2.2.1 (by omega) (by omega) ?_ ?_⟩⟩
  · intro a0 g
    exact ⟨rfl, _, rfl, (MI.gr g).ob, m_restoreState (MI.gr g) hO2 (fun z => (ok.2.2.2 z).1.1) (fun b0 M4 s4 rb4 C4 I4 e4 => by
      exact ⟨_, rfl, lw_chk (zz := fun M7 => zL_law_2913 G d mc ms Qr Qx x0 0 99 114 115 x5 M7 (c + 67) (sl + 619)) I4 e4 rfl (by omega) (fun z => by cases z) (Kz M4 (lw_go (CI.gr g) C4 I4 (ok1) (ho.gr g)))⟩) (fun b0 h'2 => by
      exact absurd (a0.symm.trans b0) (by decide)) h⟩
  · intro a0 M1 h'1 C1 CI1
    have MI1 := MI.cf' C1
    have ho1 := ho.cf C1
    obtain ⟨F, f1⟩ := ho1.1
    exact ⟨_, rfl, _, _, f1, vp_in_nI (n := 0) (N := 1) (by omega) (by omega), _, rfl, ⟨_, (kz_up_ne (by omega)).trans MI1.1⟩, m_restoreState (MI1.cl fun k h1 h2 => kz_up_ne (by omega)) hO2 (fun z => (ok.2.2.2 z).1.1) (fun b0 => by
      exact absurd (b0.symm.trans a0) (by decide)) (fun b0 h'2 M4 s4 rb4 C4 I4 e4 => by
      exact ⟨_, rfl, lw_chk (zz := fun M7 => zL_law_2913 G d mc ms Qr Qx x0 0 99 114 115 x5 M7 (c + 67) (sl + 619)) I4 e4 rfl (by omega) (fun _ => ⟨_, (C4.1 114 (by omega)).trans (kz_up_same _ _ _), if_pos rfl⟩) (Kz M4 (lw_go (CI1.md (fun k hk => kz_up_ne (by omega)) (Nat.le_refl _)) C4 (I4.h0 h'1) (⟨ok1.2.2.2 a0, fun i hi => absurd hi (Nat.not_lt_zero i), ok1.2.2⟩) (ho1.up4 _)))⟩) h⟩
theorem lw_printLine {G : kz_G} {N : Nat} {xs : Nat → Int32} {d mc ms : Nat} {Qr : Option Value → kz_M → Prop} {Qx : String → kz_M → Prop} {x0 : Nat} {x5 : Int32} {M : kz_M} {c sl kk : Nat} (hG : kz_stat G) (hN : kz_nc G) (hc : c + 67 ≤ mc) (hs : sl + 619 ≤ ms) (hX : va_X (G.2.2.2 x0) N xs G.2.2.1 G.2.2.1.heap) (hb : G.2.2.2 x0 < G.2.2.1.heap.size) (hv : ∀ i : Nat, i < 6 → vp_in (x5 + nI i) N) (hk : kk < 600) (J : lw_J M kk) (K : ∀ M' c' sl', lw_J M' (kk + 1) → c' ≤ c + 67 → sl' ≤ sl + 619 → zL_law_2913 G d mc ms Qr Qx x0 0 99 114 115 x5 M' c' sl') : zL_law_2694 G d mc ms Qr Qx x0 0 99 114 115 x5 M c sl := by
  obtain ⟨O, hn, h, sv, isS, er, ea, n, b, l, s, rb, CI, MI, ok, ho⟩ := J
  have hO2 := ok.1.1
  have hO := hO2.1
  have hdy := hO.1.1
  have hmo := hO.1.2.1
  have hnw := hO.1.2.2.1
  have hwk := hO.1.2.2.2.1
  have hne := hO.1.2.2.2.2
  have hn6 := MI.inp.1
  have h8 : hn ≤ 8 := MI.h8
  have ok1 := ok.mono (k := 12000 * (kk + 1)) (by omega)
  have Kz : ∀ M', lw_J M' (kk + 1) → zL_law_2913 G d mc ms Qr Qx x0 0 99 114 115 x5 M' (c + 67) (sl + 619) := fun M' j => K M' _ _ j (Nat.le_refl _) (Nat.le_refl _)
  refine rL_law_2694 (by omega) (by omega) hX hb ⟨hv 1 (by omega), hv 2 (by omega), 67, 619, hc, hs, rL_printLine_0 ⟨⟨_, CI.1⟩, 67, 619, by omega, by omega, c_printLine hG CI hO (fun i hi => ⟨(hO2.2.2.2 i hi).1, fun l hl => ((hO2.2.2.2 i hi).2 l hl).1⟩) (by omega) (by omega) ?_ ?_⟩⟩
  · intro a0 g
    exact ⟨rfl, _, rfl, hv 1 (by omega), hv 2 (by omega), (MI.gr g).ob, m_printLine (MI.gr g) hO2 (fun b0 M4 s4 rb4 C4 I4 e4 => by
      exact ⟨_, rfl, lw_chk (zz := fun M7 => zL_law_2913 G d mc ms Qr Qx x0 0 99 114 115 x5 M7 (c + 67) (sl + 619)) I4 e4 rfl (by omega) (fun z => by cases z) (Kz M4 (lw_go (CI.gr g) C4 I4 (ok1) (ho.gr g)))⟩) (fun j2 k2 b0 b1 b2 b3 => by
      exact (a0 j2 k2 b0 b2 b1 b3).elim)⟩
  · intro j k a0 a1 a2 a3 M1 C1 CI1
    have w2_j := (hO.2.2.2 j a0).2.1
    have w3_j := (hO.2.2.2 j a0).1.2.2.1
    have MI1 := MI.cf' C1
    have ho1 := ho.cf C1
    obtain ⟨F, f1⟩ := ho1.1
    exact ⟨_, rfl, _, _, f1, vp_in_nI (n := 0) (N := 1) (by omega) (by omega), _, rfl, hv 1 (by omega), hv 2 (by omega), ⟨_, (kz_up_ne (by omega)).trans MI1.1⟩, m_printLine (MI1.cl fun k h1 h2 => kz_up_ne (by omega)) hO2 (fun b0 => by
      exact (b0 j k a0 a2 a1 a3).elim) (fun j2 k2 b0 b1 b2 b3 M4 s4 rb4 C4 I4 e4 => by
      have u_j2 := ow_inj (by omega) (by omega) a1 b1
      subst u_j2
      have u_k2 := ow_inj (by omega) (by omega) a3 b3
      subst u_k2
      exact ⟨_, rfl, lw_chk (zz := fun M7 => zL_law_2913 G d mc ms Qr Qx x0 0 99 114 115 x5 M7 (c + 67) (sl + 619)) I4 e4 rfl (by omega) (fun _ => ⟨_, (C4.1 114 (by omega)).trans (kz_up_same _ _ _), if_pos rfl⟩) (Kz M4 (lw_go (CI1.md (fun k hk => kz_up_ne (by omega)) (Nat.le_refl _)) C4 I4 (ok1) (ho1.up4 _)))⟩)⟩
theorem lw_printWork {G : kz_G} {N : Nat} {xs : Nat → Int32} {d mc ms : Nat} {Qr : Option Value → kz_M → Prop} {Qx : String → kz_M → Prop} {x0 : Nat} {x5 : Int32} {M : kz_M} {c sl kk : Nat} (hG : kz_stat G) (hN : kz_nc G) (hc : c + 67 ≤ mc) (hs : sl + 619 ≤ ms) (hX : va_X (G.2.2.2 x0) N xs G.2.2.1 G.2.2.1.heap) (hb : G.2.2.2 x0 < G.2.2.1.heap.size) (hv : ∀ i : Nat, i < 6 → vp_in (x5 + nI i) N) (hk : kk < 600) (J : lw_J M kk) (K : ∀ M' c' sl', lw_J M' (kk + 1) → c' ≤ c + 67 → sl' ≤ sl + 619 → zL_law_2913 G d mc ms Qr Qx x0 0 99 114 115 x5 M' c' sl') : zL_law_2762 G d mc ms Qr Qx x0 0 99 114 115 x5 M c sl := by
  obtain ⟨O, hn, h, sv, isS, er, ea, n, b, l, s, rb, CI, MI, ok, ho⟩ := J
  have hO2 := ok.1.1
  have hO := hO2.1
  have hdy := hO.1.1
  have hmo := hO.1.2.1
  have hnw := hO.1.2.2.1
  have hwk := hO.1.2.2.2.1
  have hne := hO.1.2.2.2.2
  have hn6 := MI.inp.1
  have h8 : hn ≤ 8 := MI.h8
  have ok1 := ok.mono (k := 12000 * (kk + 1)) (by omega)
  have Kz : ∀ M', lw_J M' (kk + 1) → zL_law_2913 G d mc ms Qr Qx x0 0 99 114 115 x5 M' (c + 67) (sl + 619) := fun M' j => K M' _ _ j (Nat.le_refl _) (Nat.le_refl _)
  refine rL_law_2762 (by omega) (by omega) hX hb ⟨hv 1 (by omega), 67, 619, hc, hs, rL_printWork_0 ⟨⟨_, CI.1⟩, 67, 619, by omega, by omega, c_printWork hG CI hO (fun i hi => ⟨(hO2.2.2.2 i hi).1, fun l hl => ((hO2.2.2.2 i hi).2 l hl).1⟩) (by omega) (by omega) ?_ ?_⟩⟩
  · intro a0 g
    exact ⟨rfl, _, rfl, hv 1 (by omega), (MI.gr g).ob, m_printWork (MI.gr g) hO2 (fun b0 M4 s4 rb4 C4 I4 e4 => by
      exact ⟨_, rfl, lw_chk (zz := fun M7 => zL_law_2913 G d mc ms Qr Qx x0 0 99 114 115 x5 M7 (c + 67) (sl + 619)) I4 e4 rfl (by omega) (fun z => by cases z) (Kz M4 (lw_go (CI.gr g) C4 I4 (ok1) (ho.gr g)))⟩) (fun j2 b0 b1 => by
      exact (a0 j2 b0 b1).elim)⟩
  · intro j a0 a1 M1 C1 CI1
    have w2_j := (hO.2.2.2 j a0).2.1
    have w3_j := (hO.2.2.2 j a0).1.2.2.1
    have MI1 := MI.cf' C1
    have ho1 := ho.cf C1
    obtain ⟨F, f1⟩ := ho1.1
    exact ⟨_, rfl, _, _, f1, vp_in_nI (n := 0) (N := 1) (by omega) (by omega), _, rfl, hv 1 (by omega), ⟨_, (kz_up_ne (by omega)).trans MI1.1⟩, m_printWork (MI1.cl fun k h1 h2 => kz_up_ne (by omega)) hO2 (fun b0 => by
      exact (b0 j a0 a1).elim) (fun j2 b0 b1 M4 s4 rb4 C4 I4 e4 => by
      have u_j2 := ow_inj (by omega) (by omega) a1 b1
      subst u_j2
      exact ⟨_, rfl, lw_chk (zz := fun M7 => zL_law_2913 G d mc ms Qr Qx x0 0 99 114 115 x5 M7 (c + 67) (sl + 619)) I4 e4 rfl (by omega) (fun _ => ⟨_, (C4.1 114 (by omega)).trans (kz_up_same _ _ _), if_pos rfl⟩) (Kz M4 (lw_go (CI1.md (fun k hk => kz_up_ne (by omega)) (Nat.le_refl _)) C4 I4 (ok1) (ho1.up4 _)))⟩)⟩
theorem lw_errorCode {G : kz_G} {N : Nat} {xs : Nat → Int32} {d mc ms : Nat} {Qr : Option Value → kz_M → Prop} {Qx : String → kz_M → Prop} {x0 : Nat} {x5 : Int32} {M : kz_M} {c sl kk : Nat} (hG : kz_stat G) (hN : kz_nc G) (hc : c + 67 ≤ mc) (hs : sl + 619 ≤ ms) (hX : va_X (G.2.2.2 x0) N xs G.2.2.1 G.2.2.1.heap) (hb : G.2.2.2 x0 < G.2.2.1.heap.size) (hv : ∀ i : Nat, i < 6 → vp_in (x5 + nI i) N) (hk : kk < 600) (J : lw_J M kk) (K : ∀ M' c' sl', lw_J M' (kk + 1) → c' ≤ c + 67 → sl' ≤ sl + 619 → zL_law_2913 G d mc ms Qr Qx x0 0 99 114 115 x5 M' c' sl') : zL_law_363 G d mc ms Qr Qx x0 0 99 114 115 x5 M c sl := by
  obtain ⟨O, hn, h, sv, isS, er, ea, n, b, l, s, rb, CI, MI, ok, ho⟩ := J
  have hO2 := ok.1.1
  have hO := hO2.1
  have hdy := hO.1.1
  have hmo := hO.1.2.1
  have hnw := hO.1.2.2.1
  have hwk := hO.1.2.2.2.1
  have hne := hO.1.2.2.2.2
  have hn6 := MI.inp.1
  have h8 : hn ≤ 8 := MI.h8
  have hl := MI.hl
  have ok1 := ok.mono (k := 12000 * (kk + 1)) (by omega)
  have Kz : ∀ M', lw_J M' (kk + 1) → zL_law_2913 G d mc ms Qr Qx x0 0 99 114 115 x5 M' c sl := fun M' j => K M' _ _ j (by omega) (by omega)
  refine rL_law_363 (by omega) (by omega) hX hb ⟨⟨_, CI.1⟩, c_errorCode CI ?_⟩
  · skip
    exact ⟨_, rfl, ⟨_, MI.1⟩, m_errorCode MI hO2 (fun  M4 s4 rb4 C4 I4 e4 => by
      exact ⟨_, rfl, fun _ => Kz M4 (lw_go CI C4 I4 (ok1) ho), fun z => absurd rfl z⟩)⟩
theorem lw_errorOffset {G : kz_G} {N : Nat} {xs : Nat → Int32} {d mc ms : Nat} {Qr : Option Value → kz_M → Prop} {Qx : String → kz_M → Prop} {x0 : Nat} {x5 : Int32} {M : kz_M} {c sl kk : Nat} (hG : kz_stat G) (hN : kz_nc G) (hc : c + 67 ≤ mc) (hs : sl + 619 ≤ ms) (hX : va_X (G.2.2.2 x0) N xs G.2.2.1 G.2.2.1.heap) (hb : G.2.2.2 x0 < G.2.2.1.heap.size) (hv : ∀ i : Nat, i < 6 → vp_in (x5 + nI i) N) (hk : kk < 600) (J : lw_J M kk) (K : ∀ M' c' sl', lw_J M' (kk + 1) → c' ≤ c + 67 → sl' ≤ sl + 619 → zL_law_2913 G d mc ms Qr Qx x0 0 99 114 115 x5 M' c' sl') : zL_law_376 G d mc ms Qr Qx x0 0 99 114 115 x5 M c sl := by
  obtain ⟨O, hn, h, sv, isS, er, ea, n, b, l, s, rb, CI, MI, ok, ho⟩ := J
  have hO2 := ok.1.1
  have hO := hO2.1
  have hdy := hO.1.1
  have hmo := hO.1.2.1
  have hnw := hO.1.2.2.1
  have hwk := hO.1.2.2.2.1
  have hne := hO.1.2.2.2.2
  have hn6 := MI.inp.1
  have h8 : hn ≤ 8 := MI.h8
  have hl := MI.hl
  have ok1 := ok.mono (k := 12000 * (kk + 1)) (by omega)
  have Kz : ∀ M', lw_J M' (kk + 1) → zL_law_2913 G d mc ms Qr Qx x0 0 99 114 115 x5 M' c sl := fun M' j => K M' _ _ j (by omega) (by omega)
  refine rL_law_376 (by omega) (by omega) hX hb ⟨⟨_, CI.1⟩, c_errorOffset CI ?_⟩
  · skip
    exact ⟨_, rfl, ⟨_, MI.1⟩, m_errorOffset MI hO2 (fun  M4 s4 rb4 C4 I4 e4 => by
      exact ⟨_, rfl, fun _ => Kz M4 (lw_go CI C4 I4 (ok1) ho), fun z => absurd rfl z⟩)⟩
theorem lw_richest {G : kz_G} {N : Nat} {xs : Nat → Int32} {d mc ms : Nat} {Qr : Option Value → kz_M → Prop} {Qx : String → kz_M → Prop} {x0 : Nat} {x5 : Int32} {M : kz_M} {c sl kk : Nat} (hG : kz_stat G) (hN : kz_nc G) (hc : c + 67 ≤ mc) (hs : sl + 619 ≤ ms) (hX : va_X (G.2.2.2 x0) N xs G.2.2.1 G.2.2.1.heap) (hb : G.2.2.2 x0 < G.2.2.1.heap.size) (hv : ∀ i : Nat, i < 6 → vp_in (x5 + nI i) N) (hk : kk < 600) (J : lw_J M kk) (K : ∀ M' c' sl', lw_J M' (kk + 1) → c' ≤ c + 67 → sl' ≤ sl + 619 → zL_law_2913 G d mc ms Qr Qx x0 0 99 114 115 x5 M' c' sl') : zL_law_1349 G d mc ms Qr Qx x0 0 99 114 115 x5 M c sl := by
  obtain ⟨O, hn, h, sv, isS, er, ea, n, b, l, s, rb, CI, MI, ok, ho⟩ := J
  have hO2 := ok.1.1
  have hO := hO2.1
  have hdy := hO.1.1
  have hmo := hO.1.2.1
  have hnw := hO.1.2.2.1
  have hwk := hO.1.2.2.2.1
  have hne := hO.1.2.2.2.2
  have hn6 := MI.inp.1
  have h8 : hn ≤ 8 := MI.h8
  have hl := MI.hl
  have ok1 := ok.mono (k := 12000 * (kk + 1)) (by omega)
  have Kz : ∀ M', lw_J M' (kk + 1) → zL_law_2913 G d mc ms Qr Qx x0 0 99 114 115 x5 M' c sl := fun M' j => K M' _ _ j (by omega) (by omega)
  refine rL_law_1349 (by omega) (by omega) hX hb ⟨⟨_, CI.1⟩, c_richest CI hO hO2.2.2.1 ?_⟩
  · skip
    exact ⟨_, rfl, ⟨_, MI.1⟩, m_richest MI hO2 ok.1.2.2.1 (by omega) (fun  M4 s4 rb4 C4 I4 e4 => by
      exact ⟨_, rfl, fun _ => Kz M4 (lw_go CI C4 I4 (ok1) ho), fun z => absurd rfl z⟩)⟩
theorem lw_outputByte {G : kz_G} {N : Nat} {xs : Nat → Int32} {d mc ms : Nat} {Qr : Option Value → kz_M → Prop} {Qx : String → kz_M → Prop} {x0 : Nat} {x5 : Int32} {M : kz_M} {c sl kk : Nat} (hG : kz_stat G) (hN : kz_nc G) (hc : c + 67 ≤ mc) (hs : sl + 619 ≤ ms) (hX : va_X (G.2.2.2 x0) N xs G.2.2.1 G.2.2.1.heap) (hb : G.2.2.2 x0 < G.2.2.1.heap.size) (hv : ∀ i : Nat, i < 6 → vp_in (x5 + nI i) N) (hk : kk < 600) (J : lw_J M kk) (K : ∀ M' c' sl', lw_J M' (kk + 1) → c' ≤ c + 67 → sl' ≤ sl + 619 → zL_law_2913 G d mc ms Qr Qx x0 0 99 114 115 x5 M' c' sl') : zL_law_2831 G d mc ms Qr Qx x0 0 99 114 115 x5 M c sl := by
  obtain ⟨O, hn, h, sv, isS, er, ea, n, b, l, s, rb, CI, MI, ok, ho⟩ := J
  have hO2 := ok.1.1
  have hO := hO2.1
  have hdy := hO.1.1
  have hmo := hO.1.2.1
  have hnw := hO.1.2.2.1
  have hwk := hO.1.2.2.2.1
  have hne := hO.1.2.2.2.2
  have hn6 := MI.inp.1
  have h8 : hn ≤ 8 := MI.h8
  have hl := MI.hl
  have ok1 := ok.mono (k := 12000 * (kk + 1)) (by omega)
  have Kz : ∀ M', lw_J M' (kk + 1) → zL_law_2913 G d mc ms Qr Qx x0 0 99 114 115 x5 M' c sl := fun M' j => K M' _ _ j (by omega) (by omega)
  refine rL_law_2831 (by omega) (by omega) hX hb ⟨hv 1 (by omega), ⟨_, CI.1⟩, c_outputByte CI ?_ ?_⟩
  · intro a0
    exact ⟨_, rfl, hv 1 (by omega), ⟨_, MI.1⟩, m_outputByte MI hO2 (fun b0 M4 s4 rb4 C4 I4 e4 => by
      exact ⟨_, rfl, fun _ => Kz M4 (lw_go CI C4 I4 (ok1) ho), fun z => absurd rfl z⟩) (fun j2 b0 b1 => by
      exact (a0 j2 b0 b1).elim)⟩
  · intro j a0 a1
    exact ⟨_, rfl, hv 1 (by omega), ⟨_, MI.1⟩, m_outputByte MI hO2 (fun b0 => by
      exact (b0 j a0 a1).elim) (fun j2 b0 b1 M4 s4 rb4 C4 I4 e4 => by
      have u_j2 := ow_inj (by omega) (by omega) a1 b1
      subst u_j2
      exact ⟨_, rfl, fun _ => Kz M4 (lw_go CI C4 I4 (ok1) ho), fun z => absurd rfl z⟩)⟩
theorem lw_appendInput {G : kz_G} {N : Nat} {xs : Nat → Int32} {d mc ms : Nat} {Qr : Option Value → kz_M → Prop} {Qx : String → kz_M → Prop} {x0 : Nat} {x5 : Int32} {M : kz_M} {c sl kk : Nat} (hG : kz_stat G) (hN : kz_nc G) (hc : c + 67 ≤ mc) (hs : sl + 619 ≤ ms) (hX : va_X (G.2.2.2 x0) N xs G.2.2.1 G.2.2.1.heap) (hb : G.2.2.2 x0 < G.2.2.1.heap.size) (hv : ∀ i : Nat, i < 6 → vp_in (x5 + nI i) N) (hk : kk < 600) (J : lw_J M kk) (K : ∀ M' c' sl', lw_J M' (kk + 1) → c' ≤ c + 67 → sl' ≤ sl + 619 → zL_law_2913 G d mc ms Qr Qx x0 0 99 114 115 x5 M' c' sl') : zL_law_252 G d mc ms Qr Qx x0 0 99 114 115 x5 M c sl := by
  obtain ⟨O, hn, h, sv, isS, er, ea, n, b, l, s, rb, CI, MI, ok, ho⟩ := J
  have hO2 := ok.1.1
  have hO := hO2.1
  have hdy := hO.1.1
  have hmo := hO.1.2.1
  have hnw := hO.1.2.2.1
  have hwk := hO.1.2.2.2.1
  have hne := hO.1.2.2.2.2
  have hn6 := MI.inp.1
  have h8 : hn ≤ 8 := MI.h8
  have hl := MI.hl
  have ok1 := ok.mono (k := 12000 * (kk + 1)) (by omega)
  have Kz : ∀ M', lw_J M' (kk + 1) → zL_law_2913 G d mc ms Qr Qx x0 0 99 114 115 x5 M' c sl := fun M' j => K M' _ _ j (by omega) (by omega)
  refine rL_law_252 (by omega) (by omega) hX hb ⟨hv 1 (by omega), hv 2 (by omega), hv 3 (by omega), hv 4 (by omega), hv 5 (by omega), ⟨_, CI.1⟩, c_appendInput CI ?_ ?_⟩
  · intro a0
    exact ⟨_, rfl, hv 1 (by omega), hv 2 (by omega), hv 3 (by omega), hv 4 (by omega), hv 5 (by omega), ⟨_, MI.1⟩, m_appendInput MI (fun b0 M4 s4 rb4 C4 I4 e4 => by
      exact ⟨_, rfl, fun _ => Kz M4 (lw_go CI C4 I4 (ok1) ho), fun z => absurd rfl z⟩) (fun b0 => by
      exact False.elim (by omega))⟩
  · intro a0 M1 C1 CI1
    have MI1 := MI.cf' C1
    have ho1 := ho.cf C1
    exact ⟨_, rfl, hv 1 (by omega), hv 2 (by omega), hv 3 (by omega), hv 4 (by omega), hv 5 (by omega), ⟨_, MI1.1⟩, m_appendInput MI1 (fun b0 => by
      exact False.elim (by omega)) (fun b0 M4 s4 rb4 C4 I4 e4 => by
      exact ⟨_, rfl, fun _ => Kz M4 (lw_go CI1 C4 I4 (ok1) ho1), fun z => absurd rfl z⟩)⟩
theorem lw_truncateInput {G : kz_G} {N : Nat} {xs : Nat → Int32} {d mc ms : Nat} {Qr : Option Value → kz_M → Prop} {Qx : String → kz_M → Prop} {x0 : Nat} {x5 : Int32} {M : kz_M} {c sl kk : Nat} (hG : kz_stat G) (hN : kz_nc G) (hc : c + 67 ≤ mc) (hs : sl + 619 ≤ ms) (hX : va_X (G.2.2.2 x0) N xs G.2.2.1 G.2.2.1.heap) (hb : G.2.2.2 x0 < G.2.2.1.heap.size) (hv : ∀ i : Nat, i < 6 → vp_in (x5 + nI i) N) (hk : kk < 600) (J : lw_J M kk) (K : ∀ M' c' sl', lw_J M' (kk + 1) → c' ≤ c + 67 → sl' ≤ sl + 619 → zL_law_2913 G d mc ms Qr Qx x0 0 99 114 115 x5 M' c' sl') : zL_law_325 G d mc ms Qr Qx x0 0 99 114 115 x5 M c sl := by
  obtain ⟨O, hn, h, sv, isS, er, ea, n, b, l, s, rb, CI, MI, ok, ho⟩ := J
  have hO2 := ok.1.1
  have hO := hO2.1
  have hdy := hO.1.1
  have hmo := hO.1.2.1
  have hnw := hO.1.2.2.1
  have hwk := hO.1.2.2.2.1
  have hne := hO.1.2.2.2.2
  have hn6 := MI.inp.1
  have h8 : hn ≤ 8 := MI.h8
  have hl := MI.hl
  have ok1 := ok.mono (k := 12000 * (kk + 1)) (by omega)
  have Kz : ∀ M', lw_J M' (kk + 1) → zL_law_2913 G d mc ms Qr Qx x0 0 99 114 115 x5 M' c sl := fun M' j => K M' _ _ j (by omega) (by omega)
  refine rL_law_325 (by omega) (by omega) hX hb ⟨hv 1 (by omega), ⟨_, CI.1⟩, c_truncateInput CI ?_ ?_⟩
  · intro a0
    exact ⟨_, rfl, hv 1 (by omega), ⟨_, MI.1⟩, m_truncateInput MI (fun b0 M4 s4 rb4 C4 I4 e4 => by
      exact ⟨_, rfl, fun _ => Kz M4 (lw_go CI C4 I4 (ok1) ho), fun z => absurd rfl z⟩) (fun m2 b0 b1 => by
      exact (a0 m2 b0 b1).elim)⟩
  · intro m a0 a1 M1 C1 CI1
    have MI1 := MI.cf' C1
    have ho1 := ho.cf C1
    exact ⟨_, rfl, hv 1 (by omega), ⟨_, MI1.1⟩, m_truncateInput MI1 (fun b0 => by
      exact (b0 m a0 a1).elim) (fun m2 b0 b1 M4 s4 rb4 C4 I4 e4 => by
      have u_m2 := ow_inj (by omega) (by omega) a1 b1
      subst u_m2
      exact ⟨_, rfl, fun _ => Kz M4 (lw_go CI1 C4 I4 (ok1) ho1), fun z => absurd rfl z⟩)⟩
theorem lw_addWriter {G : kz_G} {N : Nat} {xs : Nat → Int32} {d mc ms : Nat} {Qr : Option Value → kz_M → Prop} {Qx : String → kz_M → Prop} {x0 : Nat} {x5 : Int32} {M : kz_M} {c sl kk : Nat} (hG : kz_stat G) (hN : kz_nc G) (hc : c + 67 ≤ mc) (hs : sl + 619 ≤ ms) (hX : va_X (G.2.2.2 x0) N xs G.2.2.1 G.2.2.1.heap) (hb : G.2.2.2 x0 < G.2.2.1.heap.size) (hv : ∀ i : Nat, i < 6 → vp_in (x5 + nI i) N) (hk : kk < 600) (J : lw_J M kk) (K : ∀ M' c' sl', lw_J M' (kk + 1) → c' ≤ c + 67 → sl' ≤ sl + 619 → zL_law_2913 G d mc ms Qr Qx x0 0 99 114 115 x5 M' c' sl') : zL_law_2457 G d mc ms Qr Qx x0 0 99 114 115 x5 M c sl := by
  obtain ⟨O, hn, h, sv, isS, er, ea, n, b, l, s, rb, CI, MI, ok, ho⟩ := J
  have hO2 := ok.1.1
  have hO := hO2.1
  have hdy := hO.1.1
  have hmo := hO.1.2.1
  have hnw := hO.1.2.2.1
  have hwk := hO.1.2.2.2.1
  have hne := hO.1.2.2.2.2
  have hn6 := MI.inp.1
  have h8 : hn ≤ 8 := MI.h8
  have hl := MI.hl
  have ok1 := ok.mono (k := 12000 * (kk + 1)) (by omega)
  have Kz : ∀ M', lw_J M' (kk + 1) → zL_law_2913 G d mc ms Qr Qx x0 0 99 114 115 x5 M' c sl := fun M' j => K M' _ _ j (by omega) (by omega)
  refine rL_law_2457 (by omega) (by omega) hX hb ⟨⟨_, CI.1⟩, c_addWriter hG CI hO ?_ ?_ ?_⟩
  · intro a0 M1 C1 CI1
    have MI1 := MI.cf' C1
    have ho1 := ho.cf C1
    exact ⟨_, rfl, ⟨_, MI1.1⟩, m_addWriter hG MI1 hO2 (fun i hi => (ok.2.1 i hi).1.1) ok.1.2.1 (fun b0 M4 s4 rb4 C4 I4 e4 => by
      exact ⟨_, rfl, fun _ => Kz M4 (lw_go CI1 C4 I4 (ok1) ho1), fun z => absurd rfl z⟩) (fun b0 b1 b2 => by
      exact False.elim (by first | omega | simp_all)) (fun b0 b1 b2 => by
      exact False.elim (by first | omega | simp_all))⟩
  · intro a0 a1 a2 M1 C1 CI1
    have MI1 := MI.cf' C1
    have ho1 := ho.cf C1
    exact ⟨_, rfl, ⟨_, MI1.1⟩, m_addWriter hG MI1 hO2 (fun i hi => (ok.2.1 i hi).1.1) ok.1.2.1 (fun b0 => by
      exact False.elim (by first | omega | simp_all)) (fun b0 b1 b2 M4 s4 rb4 C4 I4 e4 => by
      exact ⟨_, rfl, fun _ => Kz M4 (lw_go CI1 C4 I4 (ok1) ho1), fun z => absurd rfl z⟩) (fun b0 b1 b2 => by
      exact False.elim (by first | omega | simp_all))⟩
  · intro a0 a1 a2 M1 C1 CI1
    have MI1 := MI.cf' C1
    have ho1 := ho.cf C1
    exact ⟨_, rfl, ⟨_, MI1.1⟩, m_addWriter hG MI1 hO2 (fun i hi => (ok.2.1 i hi).1.1) ok.1.2.1 (fun b0 => by
      exact False.elim (by first | omega | simp_all)) (fun b0 b1 b2 => by
      exact False.elim (by first | omega | simp_all)) (fun b0 b1 b2 M4 s4 rb4 C4 I4 e4 => by
      exact ⟨_, rfl, fun _ => Kz M4 (lw_go CI1 C4 I4 (ok.keep (k := 12000 * (kk + 1)) h8 (by omega) (ok1.1.enrol a2 (ow_Nm_ww a0))) ho1), fun z => absurd rfl z⟩)⟩
theorem lw_printBalances {G : kz_G} {N : Nat} {xs : Nat → Int32} {d mc ms : Nat} {Qr : Option Value → kz_M → Prop} {Qx : String → kz_M → Prop} {x0 : Nat} {x5 : Int32} {M : kz_M} {c sl kk : Nat} (hG : kz_stat G) (hN : kz_nc G) (hc : c + 67 ≤ mc) (hs : sl + 619 ≤ ms) (hX : va_X (G.2.2.2 x0) N xs G.2.2.1 G.2.2.1.heap) (hb : G.2.2.2 x0 < G.2.2.1.heap.size) (hv : ∀ i : Nat, i < 6 → vp_in (x5 + nI i) N) (hk : kk < 600) (J : lw_J M kk) (K : ∀ M' c' sl', lw_J M' (kk + 1) → c' ≤ c + 67 → sl' ≤ sl + 619 → zL_law_2913 G d mc ms Qr Qx x0 0 99 114 115 x5 M' c' sl') : zL_law_2818 G d mc ms Qr Qx x0 0 99 114 115 x5 M c sl := by
  obtain ⟨O, hn, h, sv, isS, er, ea, n, b, l, s, rb, CI, MI, ok, ho⟩ := J
  have hO2 := ok.1.1
  have hO := hO2.1
  have hdy := hO.1.1
  have hmo := hO.1.2.1
  have hnw := hO.1.2.2.1
  have hwk := hO.1.2.2.2.1
  have hne := hO.1.2.2.2.2
  have hn6 := MI.inp.1
  have h8 : hn ≤ 8 := MI.h8
  have hl := MI.hl
  have ok1 := ok.mono (k := 12000 * (kk + 1)) (by omega)
  have Kz : ∀ M', lw_J M' (kk + 1) → zL_law_2913 G d mc ms Qr Qx x0 0 99 114 115 x5 M' c sl := fun M' j => K M' _ _ j (by omega) (by omega)
  refine rL_law_2818 (by omega) (by omega) hX hb ⟨⟨_, CI.1⟩, c_printBalances CI hO ?_⟩
  · intro  M1 C1 CI1
    have MI1 := MI.cf' C1
    have ho1 := ho.cf C1
    exact ⟨_, rfl, ⟨_, MI1.1⟩, m_printBalances MI1 hO2 ok.1.2.1 ok.1.2.2.1 (by omega) (fun  M4 s4 rb4 C4 I4 e4 => by
      exact ⟨_, rfl, fun _ => Kz M4 (lw_go CI1 C4 I4 (ok1) ho1), fun z => absurd rfl z⟩)⟩
theorem lw_saveState {G : kz_G} {N : Nat} {xs : Nat → Int32} {d mc ms : Nat} {Qr : Option Value → kz_M → Prop} {Qx : String → kz_M → Prop} {x0 : Nat} {x5 : Int32} {M : kz_M} {c sl kk : Nat} (hG : kz_stat G) (hN : kz_nc G) (hc : c + 67 ≤ mc) (hs : sl + 619 ≤ ms) (hX : va_X (G.2.2.2 x0) N xs G.2.2.1 G.2.2.1.heap) (hb : G.2.2.2 x0 < G.2.2.1.heap.size) (hv : ∀ i : Nat, i < 6 → vp_in (x5 + nI i) N) (hk : kk < 600) (J : lw_J M kk) (K : ∀ M' c' sl', lw_J M' (kk + 1) → c' ≤ c + 67 → sl' ≤ sl + 619 → zL_law_2913 G d mc ms Qr Qx x0 0 99 114 115 x5 M' c' sl') : zL_law_2856 G d mc ms Qr Qx x0 0 99 114 115 x5 M c sl := by
  obtain ⟨O, hn, h, sv, isS, er, ea, n, b, l, s, rb, CI, MI, ok, ho⟩ := J
  have hO2 := ok.1.1
  have hO := hO2.1
  have hdy := hO.1.1
  have hmo := hO.1.2.1
  have hnw := hO.1.2.2.1
  have hwk := hO.1.2.2.2.1
  have hne := hO.1.2.2.2.2
  have hn6 := MI.inp.1
  have h8 : hn ≤ 8 := MI.h8
  have hl := MI.hl
  have ok1 := ok.mono (k := 12000 * (kk + 1)) (by omega)
  have Kz : ∀ M', lw_J M' (kk + 1) → zL_law_2913 G d mc ms Qr Qx x0 0 99 114 115 x5 M' c sl := fun M' j => K M' _ _ j (by omega) (by omega)
  refine rL_law_2856 (by omega) (by omega) hX hb ⟨⟨_, CI.1⟩, c_saveState CI hO ?_⟩
  · intro  M1 C1 CI1
    have MI1 := MI.cf' C1
    have ho1 := ho.cf C1
    exact ⟨_, rfl, ⟨_, MI1.1⟩, m_saveState MI1 hO2 (fun  M4 s4 rb4 C4 I4 e4 => by
      exact ⟨_, rfl, fun _ => Kz M4 (lw_go CI1 C4 I4 (⟨ok1.1, ok1.2.1, hO, fun _ => ok1.1⟩) ho1), fun z => absurd rfl z⟩)⟩
