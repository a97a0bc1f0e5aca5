/-! Part 98: the law's cases: a setup text, quotients -/
section LWJ
variable {G : kz_G} {d : Nat} {Qr : Option Value → kz_M → Prop} {Qx : String → kz_M → Prop} {M M1 : kz_M} {O : ow_O} {s : Nat → Int32} {rb : Int64} {hn : Nat} {h : Nat → ow_O} {sv : ow_O} {isS : Bool} {er : Nat} {ea : Int32} {n : Nat} {b : Nat → Nat} {l : List Nat}
theorem lw_chkD {zz : kz_M → Prop} {r2 : Int32} {r5 : UInt64} {c : Nat} (I : mo_I M O hn h sv isS er ea n b l s rb) (e : s 9 = nI c) (h2 : r2 = nI c) (hc : c < 4) (out : c = 0 → ∃ F, M.1 115 = some (.inr (.double, 1, .inr (.inr (.inr (.inl F))))) ∧ F 0 = r5) (z : zz M) : (∃ fs16, M.1 99 = some (.inl (11, fs16))) ∧ kz_C G (d + 10) 0 0 mX12_thrown [.ref 99] M (fun v M7 => ∃ r8 : Int32, v = some (.int r8) ∧ ((r8 = r2 → (¬ r2 = 0 → zz M7) ∧ (r2 = 0 → ∃ n10 f11, (M7).1 115 = some (.inr (.double, n10, .inr (.inr (.inr (.inl f11))))) ∧ vp_in (0 : Int32) n10 ∧ (((Op.cmpValue (FP.dcmp (f11 (0 : Int32).toNatClampNeg) r5) .l) = 0 → zz M7) ∧ (¬ (Op.cmpValue (FP.dcmp (f11 (0 : Int32).toNatClampNeg) r5) .l) = 0 → ∃ n12 f13, (M7).1 115 = some (.inr (.double, n12, .inr (.inr (.inr (.inl f13))))) ∧ vp_in (0 : Int32) n12 ∧ (∃ n14 f15, (M7).1 115 = some (.inr (.double, n14, .inr (.inr (.inr (.inl f15))))) ∧ vp_in (0 : Int32) n14 ∧ (((Op.cmpValue (FP.dcmp (f13 (0 : Int32).toNatClampNeg) (f15 (0 : Int32).toNatClampNeg)) .l) = 0 → Qr (some (.int 0)) M7) ∧ (¬ (Op.cmpValue (FP.dcmp (f13 (0 : Int32).toNatClampNeg) (f15 (0 : Int32).toNatClampNeg)) .l) = 0 → (¬ (Op.cmpValue (FP.dcmp r5 r5) .l) = 0 → zz M7) ∧ ((Op.cmpValue (FP.dcmp r5 r5) .l) = 0 → Qr (some (.int 0)) M7)))))))) ∧ (¬ r8 = r2 → Qr (some (.int 0)) M7))) Qx := by
  subst h2
  refine ⟨I.ob, m_thrown I e ⟨_, rfl, fun _ => ⟨fun _ => z, fun z0 => ?_⟩, fun z0 => absurd rfl z0⟩⟩
  have hc0 : c = 0 := (nI_eq (b := 0) (by omega) (by omega)).mp z0
  obtain ⟨F, f1, f2⟩ := out hc0
  have f2' : F (0 : Int32).toNatClampNeg = r5 := f2
  have v0 : vp_in (0 : Int32) 1 := vp_in_nI (n := 0) (N := 1) (by omega) (by omega)
  refine ⟨_, _, f1, v0, fun _ => z, fun hne => ?_⟩
  rw [f2'] at hne
  refine ⟨_, _, f1, v0, _, _, f1, v0, fun heq => ?_, fun _ => ⟨fun _ => z, fun heq => absurd heq hne⟩⟩
  rw [f2'] at heq
  exact absurd heq hne
end LWJ

theorem lw_meanWidth {G : kz_G} {N : Nat} {xs : Nat → Int32} {d mc ms : Nat} {Qr : Option Value → kz_M → Prop} {Qx : String → kz_M → Prop} {x0 : Nat} {x5 : Int32} {M : kz_M} {c sl kk : Nat} (hG : kz_stat G) (hN : kz_nc G) (hc : c + 67 ≤ mc) (hs : sl + 619 ≤ ms) (hX : va_X (G.2.2.2 x0) N xs G.2.2.1 G.2.2.1.heap) (hb : G.2.2.2 x0 < G.2.2.1.heap.size) (hv : ∀ i : Nat, i < 6 → vp_in (x5 + nI i) N) (hk : kk < 600) (J : lw_J M kk) (K : ∀ M' c' sl', lw_J M' (kk + 1) → c' ≤ c + 67 → sl' ≤ sl + 619 → zL_law_2913 G d mc ms Qr Qx x0 0 99 114 115 x5 M' c' sl') : zL_law_1418 G d mc ms Qr Qx x0 0 99 114 115 x5 M c sl := by
  obtain ⟨O, hn, h, sv, isS, er, ea, n, b, l, s, rb, CI, MI, ok, ho⟩ := J
  have hO2 := ok.1.1
  have hO := hO2.1
  have hdy := hO.1.1
  have hmo := hO.1.2.1
  have hnw := hO.1.2.2.1
  have hwk := hO.1.2.2.2.1
  have hne := hO.1.2.2.2.2
  have hn6 := MI.inp.1
  have ok1 := ok.mono (k := 12000 * (kk + 1)) (by omega)
  have Kz : ∀ M', lw_J M' (kk + 1) → zL_law_2913 G d mc ms Qr Qx x0 0 99 114 115 x5 M' (c + 67) (sl + 619) := fun M' j => K M' _ _ j (Nat.le_refl _) (Nat.le_refl _)
  refine rL_law_1418 (by omega) (by omega) hX hb ⟨hv 1 (by omega), 67, 619, hc, hs, rL_meanWidth_0 ⟨⟨_, CI.1⟩, 67, 619, by omega, by omega, c_meanWidth hG CI hO (fun i hi => ⟨(hO2.2.2.2 i hi).1, fun l hl => ((hO2.2.2.2 i hi).2 l hl).1⟩) (by omega) (by omega) ?_ ?_⟩⟩
  · intro a0 g
    exact ⟨rfl, _, rfl, hv 1 (by omega), (MI.gr g).ob, m_meanWidth (MI.gr g) hO2 (fun b0 M4 s4 rb4 C4 I4 e4 => by
      exact ⟨_, rfl, lw_chkD (zz := fun M7 => zL_law_2913 G d mc ms Qr Qx x0 0 99 114 115 x5 M7 (c + 67) (sl + 619)) I4 e4 rfl (by omega) (fun z => by cases z) (Kz M4 (lw_go (CI.gr g) C4 I4 ok1 (ho.gr g)))⟩) (fun j2 b0 b1 => by
      exact (a0 j2 b0 b1).elim)⟩
  · intro j a0 a1
    obtain ⟨F, f1⟩ := ho.2
    exact ⟨_, rfl, _, _, f1, vp_in_nI (n := 0) (N := 1) (by omega) (by omega), _, rfl, hv 1 (by omega), ⟨_, (kz_up_ne (by omega)).trans MI.1⟩, m_meanWidth (MI.cl fun k h1 h2 => kz_up_ne (by omega)) hO2 (fun b0 => by
      exact (b0 j a0 a1).elim) (fun j2 b0 b1 M4 s4 rb4 C4 I4 e4 => by
      have u_j2 := ow_inj (by omega) (by omega) a1 b1
      subst u_j2
      exact ⟨_, rfl, lw_chkD (zz := fun M7 => zL_law_2913 G d mc ms Qr Qx x0 0 99 114 115 x5 M7 (c + 67) (sl + 619)) I4 e4 rfl (by omega) (fun _ => ⟨_, (C4.1 115 (by omega)).trans (kz_up_same _ _ _), if_pos rfl⟩) (Kz M4 (lw_go (CI.md (fun k hk => kz_up_ne (by omega)) (Nat.le_refl _)) C4 I4 ok1 (ho.up5 _)))⟩)⟩

theorem lw_loadOffice {G : kz_G} {N : Nat} {xs : Nat → Int32} {d mc ms : Nat} {Qr : Option Value → kz_M → Prop} {Qx : String → kz_M → Prop} {x0 : Nat} {x5 : Int32} {M : kz_M} {c sl kk : Nat} (hG : kz_stat G) (hN : kz_nc G) (hc : c + 67 ≤ mc) (hs : sl + 619 ≤ ms) (hX : va_X (G.2.2.2 x0) N xs G.2.2.1 G.2.2.1.heap) (hb : G.2.2.2 x0 < G.2.2.1.heap.size) (hv : ∀ i : Nat, i < 6 → vp_in (x5 + nI i) N) (hk : kk < 600) (J : lw_J M kk) (K : ∀ M' c' sl', lw_J M' (kk + 1) → c' ≤ c + 67 → sl' ≤ sl + 619 → zL_law_2913 G d mc ms Qr Qx x0 0 99 114 115 x5 M' c' sl') : zL_law_350 G d mc ms Qr Qx x0 0 99 114 115 x5 M c sl := by
  obtain ⟨O, hn, h, sv, isS, er, ea, n, b, l, s, rb, CI, MI, ok, ho⟩ := J
  have hO2 := ok.1.1
  have hO := hO2.1
  have hdy := hO.1.1
  have hmo := hO.1.2.1
  have hnw := hO.1.2.2.1
  have hwk := hO.1.2.2.2.1
  have hne := hO.1.2.2.2.2
  have hn6 := MI.inp.1
  have ok1 := ok.mono (k := 12000 * (kk + 1)) (by omega)
  have Kz : ∀ M', lw_J M' (kk + 1) → zL_law_2913 G d mc ms Qr Qx x0 0 99 114 115 x5 M' c sl := fun M' j => K M' _ _ j (by omega) (by omega)
  refine rL_law_350 (by omega) (by omega) hX hb ⟨⟨_, CI.1⟩, c_loadOffice hG CI ?_ ?_⟩
  · intro cc o a0 M1 C1 CI1
    have MI1 := MI.cf' C1
    have ho1 := ho.cf C1
    exact ⟨_, rfl, ⟨_, MI1.1⟩, m_loadOffice hG MI1 hO2 (fun c2 o2 b0 M4 s4 rb4 C4 I4 e4 => by
      have e0 : (cc, o) = (c2, o2) := Sum.inl.inj (a0.symm.trans b0)
      cases e0
      exact ⟨_, rfl, fun _ => Kz M4 (lw_go CI1 C4 I4 ok1 ho1), fun z => absurd rfl z⟩) (fun p2 O2 t2 b0 => by
      rw [a0] at b0
      cases b0) h⟩
  · intro p O' t' a0 a1 M1 h'1 C1 CI1
    have MI1 := MI.cf' C1
    have ho1 := ho.cf C1
    exact ⟨_, rfl, ⟨_, MI1.1⟩, m_loadOffice hG MI1 hO2 (fun c2 o2 b0 => by
      rw [a0] at b0
      cases b0) (fun p2 O2 t2 b0 iv hpos h'2 M4 s4 rb4 C4 I4 e4 => by
      have e0 : (p, O', t') = (p2, O2, t2) := Sum.inr.inj (a0.symm.trans b0)
      cases e0
      exact ⟨_, rfl, fun _ => Kz M4 (lw_go CI1 C4 (I4.h0 h'1) ⟨mo_ok.read a0 iv hpos _, fun i hi => absurd hi (Nat.not_lt_zero i), ok1.2.2.1, fun z => by cases z⟩ ho1), fun z => absurd rfl z⟩) h⟩
