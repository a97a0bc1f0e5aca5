/-! Part 39c: State begins, and is made; History -/
def ow_us (i : Nat) : Nat := [20, 3, 4, 2, 7, 3, 1, 10, 8, 5].getD i 0
theorem ow_us_kz : ∀ i, i < 10 → kz_us i = nI (ow_us i) := by decide
theorem ow_us_le : ∀ i, i < 10 → ow_us i ≤ 99 := by decide
def ow_w0 : ow_W := (0, 0, (0, 0, (fun _ => 0), fun _ => 0), 0, fun _ => (0, 0, 0, 0, 0, 0))
/-- an office without writers -/
def o_0 : ow_O := (0, 0, 0, 0, ow_us, (fun _ => 0), (fun _ => 0), (fun _ => 0), (fun _ => ow_w0), 0, fun _ => 0)
theorem o_0_ok : ow_Ok1 o_0 := ⟨⟨Nat.zero_le _, Nat.zero_le _, Nat.zero_le _, Nat.zero_le _, Nat.zero_le _⟩, ow_us_le, fun i hi => absurd hi (Nat.not_lt_zero i), fun i hi => absurd hi (Nat.not_lt_zero i)⟩
section OWV
variable {G : kz_G} {d : Nat} {Qr : Option Value → kz_M → Prop} {Qx : String → kz_M → Prop} {M : kz_M} {s t : Nat} {O O2 : ow_O}
theorem c_begin0 {v0 v1 v2 v3 v4 : Int32} {fr : Nat → Int32} {fn : Nat → Int64} {fb fp : Nat → Int32} {fh : Nat → Option Nat} {fl : Nat → Int32} (hG : kz_stat G) (R : ow_R0 M t [.int v0, .int v1, .int v2, .int v3, .ref (t + 1), .ref (t + 2), .ref (t + 3), .ref (t + 4), .ref (t + 5), .ref (t + 6)] [.ref (t + 7), .int v4] fr fn fb fp fh fl) (hK : t + 8 ≤ ow_K) (Ph : ∀ i, i < 12 → ∀ b, fh i = some b → ow_K ≤ b ∧ ∃ fs, M.1 b = some (.inl (9, fs))) (q : ∀ M1, ow_Sm (ow_in t) M M1 → M1.2 = M.2 → ow_RO M1 t o_0 → Qr none M1) : kz_C G (d + 1) 0 0 mX9_begin [.ref t] M Qr Qx := by
  refine rX9_begin_0 ⟨_, R.1, ow_l rfl, _, kz_up_same _ _ _, ow_l rfl, _, kz_up_same _ _ _, ow_l rfl, _, kz_up_same _ _ _, ow_l rfl, fun M1 e1 => ?_⟩
  have R1 : ow_R0 M1 t (ow_hd t o_0) [.ref (t + 7), .int v4] fr fn fb fp fh fl := by rw [e1]; exact R.u0.u0.u0.u0
  have S1 : ow_Sm (ow_in t) M M1 := by rw [e1]; exact ((((ow_Sm.rfl' _ M).up ⟨by omega, by omega⟩).up ⟨by omega, by omega⟩).up ⟨by omega, by omega⟩).up ⟨by omega, by omega⟩
  have Q1 : M1.2 = M.2 := by rw [e1]; rfl
  clear e1
  refine ⟨_, _, R1.1, rfl, _, R1.2.1, ow_l rfl, ?_⟩
  have R2 := R1.u6 (lh' := ow_lh t 0)
  have S2 := S1.up (a := t + 6) (e := .inl (2, ow_lh t 0)) ⟨by omega, by omega⟩
  have key : ∀ i, i ≤ 10 → ∀ M2 f, ow_R0 M2 t (ow_hd t o_0) (ow_lh t 0) f fn fb fp fh fl → (∀ j, j < i → f j = nI (ow_us j)) → ow_Sm (ow_in t) M M2 → M2.2 = M.2 → zX9_begin_30 G d Qr Qx t (nI i) M2 := by
    refine ow_loop 10 ?_ ?_
    · intro M2 f T hf hS hQ
      refine rX9_begin_30 hG (ow_y (by decide) (q M2 hS hQ (T.cl ⟨hf, fun i hi => absurd hi (Nat.not_lt_zero i), fun i hi => absurd hi (Nat.not_lt_zero i), fun i hi => absurd hi (Nat.not_lt_zero i), fun i hi => absurd hi (Nat.not_lt_zero i)⟩ ⟨fun i hi b hb => ?_, fun i hi => absurd hi (Nat.not_lt_zero i)⟩)))
      obtain ⟨z1, fs, z2⟩ := Ph i hi b hb
      exact ⟨z1, fs, hS.kpS hK _ _ z1 z2⟩
    · intro i hi ih M2 f T hf hS hQ
      refine rX9_begin_30 hG (ow_n (nI_ge (b := 10) hi (by omega)) ⟨_, _, T.1, rfl, vp_in_nI hi (by omega), by rw [nI_clamp (by omega)]; exact hi, ?_⟩)
      rw [nI_clamp (by omega), ow_us_kz i hi, nI_1]
      refine c_put T.2.2.1 hi (by omega) ⟨rfl, ih _ _ T.u1 (fun j hj => ?_) (hS.up ⟨by omega, by omega⟩) hQ⟩
      unfold upd
      by_cases hji : j = i
      · rw [if_pos hji, hji]
      · rw [if_neg hji]; exact hf j (by omega)
  exact key 0 (Nat.zero_le _) _ _ R2 (fun j hj => absurd hj (Nat.not_lt_zero j)) S2 Q1
theorem c_begin (hG : kz_stat G) (h : ow_RO M t O) (hK : t + 8 ≤ ow_K) (q : ∀ M1, ow_Sm (ow_in t) M M1 → M1.2 = M.2 → ow_RO M1 t o_0 → Qr none M1) : kz_C G (d + 1) 0 0 mX9_begin [.ref t] M Qr Qx := by
  obtain ⟨fr, fn, fb, fp, fh, fl, R, P, Ph⟩ := h.op
  exact c_begin0 hG R hK Ph.1 q
theorem c_sinit {mc ms : Nat} (hG : kz_stat G) (h : M.1 t = some (.inl (8, [.int 0, .int 0, .int 0, .int 0, .null, .null, .null, .null, .null, .null]))) (h2 : M.2 = t + 1) (hK : t + 8 ≤ ow_K) (hmc : 7 ≤ mc) (hms : 162 ≤ ms) (q : ∀ M1, ow_Nw (· = t) M M1 → M1.2 = t + 8 → ow_RO M1 t o_0 → Qr none M1) : kz_C G (d + 2) mc ms mX9_init [.ref t] M Qr Qx := by
  obtain ⟨m, n⟩ := M
  obtain rfl : n = t + 1 := h2
  have z10 : (10 : Int32).toNatClampNeg = 10 := by decide
  have z6 : (6 : Int32).toNatClampNeg = 6 := by decide
  have z12 : (12 : Int32).toNatClampNeg = 12 := by decide
  have z120 : (120 : Int32).toNatClampNeg = 120 := by decide
  have un : ∀ (M : kz_M) (e : kz_E), t < M.2 → (kz_nw M e).1 t = M.1 t := fun M e ht => kz_nw_ne (by omega)
  have l1 : t < t + 1 := by omega
  refine rX9_init_0 hG ⟨10, by decide, z10, by omega, by omega, by omega, _, (un _ _ (by omega)).trans h, ow_l rfl, 6, by decide, z6, by omega, by omega, by omega, _, (un _ _ (show t < t + 1 + 1 by omega)).trans (kz_up_same _ _ _), ow_l rfl, fun M7 e7 => ⟨6, by decide, z6, by omega, by omega, by omega, ?_⟩⟩
  subst e7
  refine ⟨_, (un _ _ (show t < t + 1 + 1 + 1 by omega)).trans (kz_up_same _ _ _), ow_l rfl, 6, by decide, z6, by omega, by omega, by omega, _, (un _ _ (show t < t + 1 + 1 + 1 + 1 by omega)).trans (kz_up_same _ _ _), ow_l rfl, fun M14 e14 => ⟨12, by decide, z12, by omega, by omega, by omega, ?_⟩⟩
  subst e14
  refine ⟨_, (un _ _ (show t < t + 1 + 1 + 1 + 1 + 1 by omega)).trans (kz_up_same _ _ _), ow_l rfl, by omega, by omega, fun M19 e19 => ⟨1, 120, by omega, by omega, ?_⟩⟩
  subst e19
  refine rX2_init_0 ⟨120, by decide, z120, by omega, by omega, by omega, _, (kz_nw_ne ?_).trans (kz_nw_same _ _), ow_l rfl, rfl, ?_⟩
  · show t + 1 + 1 + 1 + 1 + 1 + 1 ≠ t + 1 + 1 + 1 + 1 + 1 + 1 + 1
    omega
  refine ⟨_, (kz_up_ne (show t ≠ t + 1 + 1 + 1 + 1 + 1 + 1 by omega)).trans ((un _ _ (show t < t + 1 + 1 + 1 + 1 + 1 + 1 + 1 by omega)).trans ((un _ _ (show t < t + 1 + 1 + 1 + 1 + 1 + 1 by omega)).trans (kz_up_same _ _ _))), ow_l rfl, fun M24 e24 => ?_⟩
  have R : ow_R0 M24 t [.int 0, .int 0, .int 0, .int 0, .ref (t + 1), .ref (t + 2), .ref (t + 3), .ref (t + 4), .ref (t + 5), .ref (t + 6)] [.ref (t + 7), .int 0] (fun _ => 0) (fun _ => 0) (fun _ => 0) (fun _ => 0) (fun _ => none) (fun _ => 0) := by
    rw [e24]
    refine ⟨kz_up_same _ _ _, ?_, ?_, ?_, ?_, ?_, ?_, ?_⟩ <;> simp [kz_up, kz_nw]
  refine ⟨⟨_, R.1⟩, ?_⟩
  have N : ow_Nw (· = t) (m, t + 1) M24 := by
    rw [e24]
    refine ⟨fun k hk hkt => ?_, ?_⟩
    · have hk : k < t + 1 := hk
      have hkt : k ≠ t := hkt
      have e : ∀ c, k ≠ t + c := fun c => by omega
      have e0 : k ≠ t := hkt
      simp [kz_up, kz_nw, e0, e, Nat.add_assoc]
    · show t + 1 ≤ t + 8
      omega
  have Q2 : M24.2 = t + 8 := by rw [e24]; rfl
  clear e24
  refine c_begin0 hG R hK (fun i hi b hb => by cases hb) fun M1 g1 g2 g3 => ⟨rfl, q M1 ⟨fun k hk hkt => ?_, by rw [g2]; exact N.2⟩ (g2.trans Q2) g3⟩
  have hk : k < t + 1 := hk
  have hkt : k ≠ t := hkt
  rw [g1 k (fun hi => by have := hi.1; omega), N.1 k hk hkt]
end OWV
