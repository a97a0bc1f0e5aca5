/-! Part 39b: State: taken over, begun, made -/
section OWU
variable {G : kz_G} {d : Nat} {Qr : Option Value → kz_M → Prop} {Qx : String → kz_M → Prop} {M : kz_M} {s t : Nat} {O O2 : ow_O}
theorem ow_cpy0 {α : Type} {f g : Nat → α} {n i : Nat} (h : i < n) : va_cpy f g 0 0 n i = f i := by
  rw [va_cpy, if_pos ⟨Nat.zero_le _, by omega⟩, show 0 + (i - 0) = i by omega]
theorem ow_z0 : (0 : Int32).toNatClampNeg = 0 := by decide
theorem ow_z6 : (Int32.ofNat 6).toNatClampNeg = 6 := by decide
theorem ow_z10 : (Int32.ofNat 10).toNatClampNeg = 10 := by decide
theorem ow_z12 : (Int32.ofNat 12).toNatClampNeg = 12 := by decide
theorem ow_pN (n : Nat) (h : n < 2 ^ 31) : ¬ Int32.ofNat n < 0 := nI_pos h
theorem ow_lN' (n : Nat) (h : n < 2 ^ 31) : (0 : Int32).toNatClampNeg + (Int32.ofNat n).toNatClampNeg ≤ n := by
  rw [ow_z0, show (Int32.ofNat n).toNatClampNeg = n from nI_clamp h]; omega
theorem ow_z120 : (Int32.ofNat 120).toNatClampNeg = 120 := by decide
theorem c_ltakeOver {lg rw' lg2 rw2 n n2 : Nat} {f f2 : Nat → Int32} (h1 : M.1 lg = some (.inl (2, [.ref rw', .int (nI n)]))) (h2 : M.1 rw' = some (.inr (.int, 120, .inl f))) (h3 : M.1 lg2 = some (.inl (2, [.ref rw2, .int (nI n2)]))) (h4 : M.1 rw2 = some (.inr (.int, 120, .inl f2))) (q : ∀ M1, ow_Sm (fun z => z = lg ∨ z = rw') M M1 → M1.2 = M.2 → M1.1 lg = some (.inl (2, [.ref rw', .int (nI n2)])) → (∃ f', M1.1 rw' = some (.inr (.int, 120, .inl f')) ∧ ∀ i, i < 120 → f' i = f2 i) → Qr none M1) : kz_C G (d + 1) 0 0 mX2_takeOver [.ref lg, .ref lg2] M Qr Qx := by
  have n1 : lg ≠ rw' := fun e => by rw [e, h2] at h1; cases h1
  have n2 : lg2 ≠ rw' := fun e => by rw [e, h2] at h3; cases h3
  refine rX2_takeOver_0 ⟨_, _, h3, rfl, _, _, h1, rfl, _, _, h1, rfl, _, _, h2, _, _, _, _, h4, h2, (by decide), (by decide), ow_pN 120 (by omega), ow_lN' 120 (by omega), ow_lN' 120 (by omega), ?_⟩
  rw [ow_z0, ow_z120]
  refine ⟨_, _, (kz_up_ne n2).trans h3, rfl, _, (kz_up_ne n1).trans h1, ow_l rfl, fun M1 e1 => ?_⟩
  rw [e1]
  exact q _ (((ow_Sm.rfl' _ M).up (Or.inr rfl)).up (Or.inl rfl)) rfl (kz_up_same _ _ _) ⟨_, (kz_up_ne n1.symm).trans (kz_up_same _ _ _), fun i hi => ow_cpy0 hi⟩
theorem c_takeOver (h : ow_RO M t O) (g : ow_RO M s O2) (hO : ow_Ok1 O2) (hd : t + 8 ≤ s ∨ s + 8 ≤ t) (hK : t + 8 ≤ ow_K) (q : ∀ M1, ow_Sm (ow_in t) M M1 → M1.2 = M.2 → ow_RO M1 t O2 → Qr none M1) : kz_C G (d + 2) 0 0 mX9_takeOver [.ref t, .ref s] M Qr Qx := by
  obtain ⟨fr, fn, fb, fp, fh, fl, R, P, Ph⟩ := h.op
  obtain ⟨gr, gn, gb, gp, gh, gl, T, PT, Th⟩ := g.op
  have hts : s ≠ t := by omega
  have hnw := hO.1.2.2.1
  have hne := hO.1.2.2.2.2
  have us : ∀ (M : kz_M) (e : kz_E), (kz_up M t e).1 s = M.1 s := fun M e => kz_up_ne hts
  refine rX9_takeOver_0 ⟨_, _, T.1, rfl, _, R.1, ow_l rfl, _, _, (us _ _).trans T.1, rfl, _, kz_up_same _ _ _, ow_l rfl, _, _, (us _ _).trans ((us _ _).trans T.1), rfl, _, kz_up_same _ _ _, ow_l rfl, _, _, (us _ _).trans ((us _ _).trans ((us _ _).trans T.1)), rfl, _, kz_up_same _ _ _, ow_l rfl, ?_⟩
  intro M1 e1
  have R1 : ow_R0 M1 t (ow_hd t O2) (ow_lh t (o_ne O)) fr fn fb fp fh fl := by rw [e1]; exact R.u0.u0.u0.u0
  have T1 : ow_R0 M1 s (ow_hd s O2) (ow_lh s (o_ne O2)) gr gn gb gp gh gl := by rw [e1]; exact (((T.ne (by omega)).ne (by omega)).ne (by omega)).ne (by omega)
  have S1 : ow_Sm (ow_in t) M M1 := by rw [e1]; exact ((((ow_Sm.rfl' _ M).up ⟨by omega, by omega⟩).up ⟨by omega, by omega⟩).up ⟨by omega, by omega⟩).up ⟨by omega, by omega⟩
  have Q1 : M1.2 = M.2 := by rw [e1]; rfl
  clear e1
  have R2 := R1.u1 (fr' := va_cpy gr fr 0 0 10)
  have T2 := T1.ne (a := t + 1) (e := .inr (.int, 10, .inl (va_cpy gr fr 0 0 10))) (by omega)
  have R3 := R2.u2 (fn' := va_cpy gn fn 0 0 6)
  have T3 := T2.ne (a := t + 2) (e := .inr (.long, 6, .inr (.inl (va_cpy gn fn 0 0 6)))) (by omega)
  have R4 := R3.u3 (fb' := va_cpy gb fb 0 0 6)
  have T4 := T3.ne (a := t + 3) (e := .inr (.int, 6, .inl (va_cpy gb fb 0 0 6))) (by omega)
  have R5 := R4.u4 (fp' := va_cpy gp fp 0 0 6)
  have T5 := T4.ne (a := t + 4) (e := .inr (.int, 6, .inl (va_cpy gp fp 0 0 6))) (by omega)
  have R6 := R5.u5 (fh' := va_cpy gh fh 0 0 12)
  have T6 := T5.ne (a := t + 5) (e := .inr (.object "LineOffice$Work", 12, .inr (.inr (.inr (.inr (va_cpy gh fh 0 0 12)))))) (by omega)
  have S5 := (((S1.up (a := t + 1) (e := .inr (.int, 10, .inl (va_cpy gr fr 0 0 10))) ⟨by omega, by omega⟩).up (a := t + 2) (e := .inr (.long, 6, .inr (.inl (va_cpy gn fn 0 0 6)))) ⟨by omega, by omega⟩).up (a := t + 3) (e := .inr (.int, 6, .inl (va_cpy gb fb 0 0 6))) ⟨by omega, by omega⟩).up (a := t + 4) (e := .inr (.int, 6, .inl (va_cpy gp fp 0 0 6))) ⟨by omega, by omega⟩
  have S6 := S5.up (a := t + 5) (e := .inr (.object "LineOffice$Work", 12, .inr (.inr (.inr (.inr (va_cpy gh fh 0 0 12)))))) ⟨by omega, by omega⟩
  have Th5 := Th.keep (S5.kpS hK)
  have b0 : ¬ 0 < (0 : Int32) := by decide
  refine ⟨_, _, T1.1, rfl, _, _, R1.1, rfl, _, _, R1.1, rfl, _, _, R1.2.2.1, _, _, _, _, T1.2.2.1, R1.2.2.1, b0, b0, ow_pN 10 (by omega), ow_lN' 10 (by omega), ow_lN' 10 (by omega), ?_⟩
  rw [ow_z0, ow_z10]
  refine ⟨_, _, T2.1, rfl, _, _, R2.1, rfl, _, _, R2.1, rfl, _, _, R2.2.2.2.1, _, _, _, _, T2.2.2.2.1, R2.2.2.2.1, b0, b0, ow_pN 6 (by omega), ow_lN' 6 (by omega), ow_lN' 6 (by omega), ?_⟩
  rw [ow_z6]
  refine ⟨_, _, T3.1, rfl, _, _, R3.1, rfl, _, _, R3.1, rfl, _, _, R3.2.2.2.2.1, _, _, _, _, T3.2.2.2.2.1, R3.2.2.2.2.1, b0, b0, ow_pN 6 (by omega), ow_lN' 6 (by omega), ow_lN' 6 (by omega), ?_⟩
  rw [ow_z6]
  refine ⟨_, _, T4.1, rfl, _, _, R4.1, rfl, _, _, R4.1, rfl, _, _, R4.2.2.2.2.2.1, _, _, _, _, T4.2.2.2.2.2.1, R4.2.2.2.2.2.1, b0, b0, ow_pN 6 (by omega), ow_lN' 6 (by omega), ow_lN' 6 (by omega), ?_⟩
  rw [ow_z6]
  refine ⟨_, _, T5.1, rfl, _, _, R5.1, rfl, _, _, R5.1, rfl, _, _, R5.2.2.2.2.2.2.1, _, _, _, _, T5.2.2.2.2.2.2.1, R5.2.2.2.2.2.2.1, fun i hi y hy => (Th5.1 i hi y hy).2, b0, b0, ow_pN 12 (by omega), ow_lN' 12 (by omega), ow_lN' 12 (by omega), ?_⟩
  rw [ow_z12]
  refine ⟨_, _, R6.1, rfl, _, _, T6.1, rfl, ⟨_, R6.2.1⟩, c_ltakeOver R6.2.1 R6.2.2.2.2.2.2.2 T6.2.1 T6.2.2.2.2.2.2.2 fun M2 g1 g2 g3 ⟨f', g4, g5⟩ => ⟨rfl, ?_⟩⟩
  have S : ow_Sm (ow_in t) M M2 := S6.trans (g1.mono fun k hk => by rcases hk with rfl | rfl <;> exact ⟨by omega, by omega⟩)
  refine q M2 S (g2.trans Q1) ((R6.ld g1 g3 g4).cl ⟨fun i hi => ?_, fun i hi => ?_, fun i hi => ?_, fun i hi => ?_, fun i hi => ?_⟩ ⟨fun i hi b hb => ?_, fun i hi => ?_⟩)
  · rw [ow_cpy0 hi]; exact PT.1 i hi
  · rw [ow_cpy0 (by omega)]; exact PT.2.1 i hi
  · rw [ow_cpy0 (by omega)]; exact PT.2.2.1 i hi
  · rw [ow_cpy0 (by omega)]; exact PT.2.2.2.1 i hi
  · rw [g5 i (by omega)]; exact PT.2.2.2.2 i hi
  · rw [ow_cpy0 hi] at hb
    exact (Th.keep (S.kpS hK)).1 i hi b hb
  · have hwk := hO.1.2.2.2.1
    rw [ow_cpy0 (by omega)]
    exact (Th.keep (S.kpS hK)).2 i hi
end OWU
