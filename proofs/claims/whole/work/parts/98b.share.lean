/-! Part 98b: the law's cases: the caught share -/
theorem fq_pn {n : Nat} (h : n ≤ 2139095040) : FP.Core.decode FP.Core.b32 n = .inf false ∨ ∃ c q, FP.Core.decode FP.Core.b32 n = .fin false c q := by
  have e3 : FP.Core.b32.tails = 8388608 := by decide +kernel
  have e4 : FP.Core.b32.exps = 256 := by decide +kernel
  have h1 : n / 8388608 / 256 % 2 = 0 := by omega
  have hS : FP.Core.fieldS FP.Core.b32 n = false := by
    unfold FP.Core.fieldS
    rw [e3, e4, h1]
    rfl
  have hT : FP.Core.fieldE FP.Core.b32 n = FP.Core.b32.exps - 1 → FP.Core.fieldT FP.Core.b32 n = 0 := by
    unfold FP.Core.fieldE FP.Core.fieldT
    rw [e3, e4]
    omega
  unfold FP.Core.decode
  rw [hS]
  by_cases hE : FP.Core.fieldE FP.Core.b32 n = FP.Core.b32.exps - 1
  · rw [if_pos hE, if_pos (hT hE)]
    exact Or.inl rfl
  · rw [if_neg hE]
    split
    · exact Or.inr ⟨_, _, rfl⟩
    · exact Or.inr ⟨_, _, rfl⟩
theorem fq_pn64 {n : Nat} (h : n ≤ 9218868437227405312) : FP.Core.decode FP.Core.b64 n ≠ .nan := by
  have e3 : FP.Core.b64.tails = 4503599627370496 := by decide +kernel
  have e4 : FP.Core.b64.exps = 2048 := by decide +kernel
  have hT : FP.Core.fieldE FP.Core.b64 n = FP.Core.b64.exps - 1 → FP.Core.fieldT FP.Core.b64 n = 0 := by
    unfold FP.Core.fieldE FP.Core.fieldT
    rw [e3, e4]
    omega
  unfold FP.Core.decode
  by_cases hE : FP.Core.fieldE FP.Core.b64 n = FP.Core.b64.exps - 1
  · rw [if_pos hE, if_pos (hT hE)]
    intro z
    cases z
  · rw [if_neg hE]
    split
    · intro z
      cases z
    · intro z
      cases z
theorem fq_w {r : UInt32} (h : r.toNat ≤ 2139095040) : (FP.f2d r).toNat ≤ 9218868437227405312 := by
  have hb : FP.Core.convert FP.Core.b32 FP.Core.b64 r.toNat ≤ 9218868437227405312 := by
    unfold FP.Core.convert
    rcases fq_pn h with e | ⟨c, q, e⟩
    · rw [e]
      decide +kernel
    · rw [e]
      exact fq_rr64 _ _ _
  have hn : ¬ FP.Core.fIsNaN r = true := by
    intro z
    have z' := of_decide_eq_true z
    rcases fq_pn h with e | ⟨c, q, e⟩
    · rw [e] at z'
      cases z'
    · rw [e] at z'
      cases z'
  show (if FP.Core.fIsNaN r = true then _ else FP.Core.f2d r).toNat ≤ _
  rw [if_neg hn]
  show (UInt64.ofNat (FP.Core.convert FP.Core.b32 FP.Core.b64 r.toNat)).toNat ≤ _
  rw [UInt64.toNat_ofNat_of_lt' (Nat.lt_of_le_of_lt hb (by decide))]
  exact hb
theorem fq_oo {x : FP.Core.Datum} (h : x ≠ .nan) : FP.Core.order x x = some .eq := by
  cases x with
  | nan => exact absurd rfl h
  | inf s => exact congrArg some (Int.compare_eq_eq.mpr rfl)
  | fin s c q => exact congrArg some (Int.compare_eq_eq.mpr rfl)
theorem fq_self {r : UInt64} (h : r.toNat ≤ 9218868437227405312) : (Op.cmpValue (FP.dcmp r r) .l) = 0 := by
  have e : FP.dcmp r r = some .eq := fq_oo (fq_pn64 h)
  rw [e]
  rfl
section LWJ
variable {G : kz_G} {d : Nat} {Qr : Option Value → kz_M → Prop} {Qx : String → kz_M → Prop} {M M1 : kz_M} {O : ow_O} {s : Nat → Int32} {rb : Int64} {hn : Nat} {h : Nat → ow_O} {sv : ow_O} {isS : Bool} {er : Nat} {ea : Int32} {n : Nat} {b : Nat → Nat} {l : List Nat}
theorem lw_chkF {zz : kz_M → Prop} {r2 : Int32} {r5 : UInt32} {c : Nat} (I : mo_I M O hn h sv isS er ea n b l s rb) (e : s 9 = nI c) (h2 : r2 = nI c) (hc : c < 4) (h5 : r5.toNat ≤ 2139095040) (out : c = 0 → ∃ F, M.1 115 = some (.inr (.double, 1, .inr (.inr (.inr (.inl F))))) ∧ F 0 = FP.f2d r5) (z : zz M) : (∃ fs16, M.1 99 = some (.inl (11, fs16))) ∧ kz_C G (d + 10) 0 0 mX12_thrown [.ref 99] M (fun v M7 => ∃ r8 : Int32, v = some (.int r8) ∧ ((r8 = r2 → (¬ r2 = 0 → zz M7) ∧ (r2 = 0 → ∃ n10 f11, (M7).1 115 = some (.inr (.double, n10, .inr (.inr (.inr (.inl f11))))) ∧ vp_in (0 : Int32) n10 ∧ (vf_n64 (FP.f2d r5) ∧ (((Op.cmpValue (FP.dcmp (f11 (0 : Int32).toNatClampNeg) (FP.f2d r5)) .l) = 0 → zz M7) ∧ (¬ (Op.cmpValue (FP.dcmp (f11 (0 : Int32).toNatClampNeg) (FP.f2d r5)) .l) = 0 → ∃ n12 f13, (M7).1 115 = some (.inr (.double, n12, .inr (.inr (.inr (.inl f13))))) ∧ vp_in (0 : Int32) n12 ∧ (∃ n14 f15, (M7).1 115 = some (.inr (.double, n14, .inr (.inr (.inr (.inl f15))))) ∧ vp_in (0 : Int32) n14 ∧ (((Op.cmpValue (FP.dcmp (f13 (0 : Int32).toNatClampNeg) (f15 (0 : Int32).toNatClampNeg)) .l) = 0 → Qr (some (.int 0)) M7) ∧ (¬ (Op.cmpValue (FP.dcmp (f13 (0 : Int32).toNatClampNeg) (f15 (0 : Int32).toNatClampNeg)) .l) = 0 → (¬ (Op.cmpValue (FP.fcmp r5 r5) .l) = 0 → zz M7) ∧ ((Op.cmpValue (FP.fcmp r5 r5) .l) = 0 → Qr (some (.int 0)) M7))))))))) ∧ (¬ r8 = r2 → Qr (some (.int 0)) M7))) Qx := by
  subst h2
  refine ⟨I.ob, m_thrown I e ⟨_, rfl, fun _ => ⟨fun _ => z, fun z0 => ?_⟩, fun z0 => absurd rfl z0⟩⟩
  have hc0 : c = 0 := (nI_eq (b := 0) (by omega) (by omega)).mp z0
  obtain ⟨F, f1, f2⟩ := out hc0
  have f2' : F (0 : Int32).toNatClampNeg = FP.f2d r5 := f2
  have v0 : vp_in (0 : Int32) 1 := vp_in_nI (n := 0) (N := 1) (by omega) (by omega)
  have hq := fq_self (fq_w h5)
  refine ⟨_, _, f1, v0, fq_n64 (fq_w h5), fun _ => z, fun hne => ?_⟩
  rw [f2'] at hne
  exact absurd hq hne
theorem lw_sh {O : ow_O} (hO : ow_Ok1 O) (j : Nat) : (if o_ln O (fun w => decide (w = j)) 0 = 0 then FP.fconst0 else FP.fdiv (FP.i2f (nI (o_ln O (fun w => decide (w = j)) 2))) (FP.i2f (nI (o_ln O (fun w => decide (w = j)) 0)))).toNat ≤ 2139095040 := by
  have h0 := o_ln_le hO (fun w => decide (w = j)) 0
  have h2 := o_ln_le hO (fun w => decide (w = j)) 2
  have hwk := hO.1.2.2.2.1
  split
  · decide
  · exact fq_fdiv (by omega) (by omega) (by omega)
end LWJ
theorem lw_caughtShare {G : kz_G} {N : Nat} {xs : Nat → Int32} {d mc ms : Nat} {Qr : Option Value → kz_M → Prop} {Qx : String → kz_M → Prop} {x0 : Nat} {x5 : Int32} {M : kz_M} {c sl kk : Nat} (hG : kz_stat G) (hN : kz_nc G) (hc : c + 67 ≤ mc) (hs : sl + 619 ≤ ms) (hX : va_X (G.2.2.2 x0) N xs G.2.2.1 G.2.2.1.heap) (hb : G.2.2.2 x0 < G.2.2.1.heap.size) (hv : ∀ i : Nat, i < 6 → vp_in (x5 + nI i) N) (hk : kk < 600) (J : lw_J M kk) (K : ∀ M' c' sl', lw_J M' (kk + 1) → c' ≤ c + 67 → sl' ≤ sl + 619 → zL_law_2913 G d mc ms Qr Qx x0 0 99 114 115 x5 M' c' sl') : zL_law_1495 G d mc ms Qr Qx x0 0 99 114 115 x5 M c sl := by
  obtain ⟨O, hn, h, sv, isS, er, ea, n, b, l, s, rb, CI, MI, ok, ho⟩ := J
  have hO2 := ok.1.1
  have hO := hO2.1
  have hdy := hO.1.1
  have hmo := hO.1.2.1
  have hnw := hO.1.2.2.1
  have hwk := hO.1.2.2.2.1
  have hne := hO.1.2.2.2.2
  have hn6 := MI.inp.1
  have ok1 := ok.mono (k := 12000 * (kk + 1)) (by omega)
  have Kz : ∀ M', lw_J M' (kk + 1) → zL_law_2913 G d mc ms Qr Qx x0 0 99 114 115 x5 M' (c + 67) (sl + 619) := fun M' j => K M' _ _ j (Nat.le_refl _) (Nat.le_refl _)
  refine rL_law_1495 (by omega) (by omega) hX hb ⟨hv 1 (by omega), 67, 619, hc, hs, rL_caughtShare_0 ⟨⟨_, CI.1⟩, 67, 619, by omega, by omega, c_caughtShare hG CI hO (by omega) (by omega) ?_ ?_⟩⟩
  · intro a0 g
    exact ⟨rfl, _, rfl, hv 1 (by omega), (MI.gr g).ob, m_caughtShare (MI.gr g) hO2 (fun b0 M4 s4 rb4 C4 I4 e4 => by
      exact ⟨_, rfl, lw_chkF (zz := fun M7 => zL_law_2913 G d mc ms Qr Qx x0 0 99 114 115 x5 M7 (c + 67) (sl + 619)) I4 e4 rfl (by omega) (by decide) (fun z => by cases z) (Kz M4 (lw_go (CI.gr g) C4 I4 ok1 (ho.gr g)))⟩) (fun j2 b0 b1 => by
      exact (a0 j2 b0 b1).elim)⟩
  · intro j a0 a1
    obtain ⟨F, f1⟩ := ho.2
    exact ⟨_, rfl, fq_n64 (fq_w (lw_sh hO j)), _, _, f1, vp_in_nI (n := 0) (N := 1) (by omega) (by omega), _, rfl, hv 1 (by omega), ⟨_, (kz_up_ne (by omega)).trans MI.1⟩, m_caughtShare (MI.cl fun k h1 h2 => kz_up_ne (by omega)) hO2 (fun b0 => by
      exact (b0 j a0 a1).elim) (fun j2 b0 b1 M4 s4 rb4 C4 I4 e4 => by
      have u_j2 := ow_inj (by omega) (by omega) a1 b1
      subst u_j2
      exact ⟨_, rfl, lw_chkF (zz := fun M7 => zL_law_2913 G d mc ms Qr Qx x0 0 99 114 115 x5 M7 (c + 67) (sl + 619)) I4 e4 rfl (by omega) (lw_sh hO j) (fun _ => ⟨_, (C4.1 115 (by omega)).trans (kz_up_same _ _ _), if_pos rfl⟩) (Kz M4 (lw_go (CI.md (fun k hk => kz_up_ne (by omega)) (Nat.le_refl _)) C4 I4 ok1 (ho.up5 _)))⟩)⟩
