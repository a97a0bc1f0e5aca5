/-! Part 59n: History and LineOffice are made -/
def o_1 : ow_O := o_enrol o_0 (kz_cd 1000)
theorem ow_ini {M MB : kz_M} {t : Nat} {e : kz_E} (ht : M.2 = t) (g : ow_Nw (· = t) (kz_nw M e) MB) : ∀ k, k < t → MB.1 k = M.1 k := fun k hk => by
  rw [g.1 k (by rw [kz_nw_2]; omega) (by omega), kz_nw_ne (by omega)]
theorem ow_ini0 {M MB : kz_M} {t : Nat} {e e0 : kz_E} (ht : M.2 = t) (g : ow_Nw (· = t) (kz_nw M e) MB) : ∀ k, k < t → k ≠ 0 → (kz_up MB 0 e0).1 k = M.1 k := fun k hk h0 => by
  rw [kz_up_ne h0, ow_ini ht g k hk]
theorem ow_inK {M M1 : kz_M} (hf : ow_fr M) (h : M.2 ≤ 99) : ow_Kp M M1 := fun k e hk he => by
  have h1 := hf k e he
  have h2 : ow_K = 99 := rfl
  omega
def ow_P1 (M : kz_M) : Prop := M.2 = 3 ∧ M.1 0 = some (.inl (10, [.ref 1, .null, .null, .null, .null, .null, .null, .int 0, .int 0, .int 0])) ∧ ow_RI M 0 (fun _ => 0)
def ow_P2 (M : kz_M) : Prop := M.2 = 5 ∧ M.1 0 = some (.inl (10, [.ref 1, .ref 3, .null, .null, .null, .null, .null, .int 0, .int 0, .int 0])) ∧ ow_RI M 0 (fun _ => 0) ∧ ow_RT M []
def ow_P3 (M : kz_M) : Prop := M.2 = 13 ∧ M.1 0 = some (.inl (10, [.ref 1, .ref 3, .ref 5, .null, .null, .null, .null, .int 0, .int 0, .int 0])) ∧ ow_RI M 0 (fun _ => 0) ∧ ow_RT M [] ∧ ow_RO M 5 o_0
def ow_P4 (M : kz_M) : Prop := M.2 = 21 ∧ M.1 0 = some (.inl (10, [.ref 1, .ref 3, .ref 5, .ref 13, .null, .null, .null, .int 0, .int 0, .int 0])) ∧ ow_RI M 0 (fun _ => 0) ∧ ow_RT M [] ∧ ow_RO M 5 o_0 ∧ ow_RO M 13 o_0
def ow_P5 (M : kz_M) : Prop := M.2 = 87 ∧ M.1 0 = some (.inl (10, [.ref 1, .ref 3, .ref 5, .ref 13, .ref 21, .null, .null, .int 0, .int 0, .int 0])) ∧ ow_RI M 0 (fun _ => 0) ∧ ow_RT M [] ∧ ow_RO M 5 o_0 ∧ ow_RO M 13 o_0 ∧ ow_RHl M (fun _ => o_0) 0
def ow_P6 (M : kz_M) : Prop := M.2 = 97 ∧ M.1 0 = some (.inl (10, [.ref 1, .ref 3, .ref 5, .ref 13, .ref 21, .ref 87, .null, .int 0, .int 0, .int 0])) ∧ ow_RI M 0 (fun _ => 0) ∧ ow_RT M [] ∧ ow_RO M 5 o_0 ∧ ow_RO M 13 o_0 ∧ ow_RHl M (fun _ => o_0) 0 ∧ ow_ST M 0 0 0 o_0 (fun _ => false)
def ow_P7 (M : kz_M) (i : Int32) (O : ow_O) : Prop := M.2 = 99 ∧ M.1 0 = some (.inl (10, [.ref 1, .ref 3, .ref 5, .ref 13, .ref 21, .ref 87, .ref 97, .int 0, .int 0, .int i])) ∧ ow_RI M 0 (fun _ => 0) ∧ ow_RT M [] ∧ ow_RO M 5 O ∧ ow_RO M 13 o_0 ∧ ow_RHl M (fun _ => o_0) 0 ∧ ow_ST M 0 0 0 o_0 (fun _ => false) ∧ ow_RP M 97 98 0 (fun _ => ((0, 0, (fun _ => 0), fun _ => 0), (0, 0, 0, 0, 0, 0)))
section OWI
variable {G : kz_G} {d mc ms : Nat} {Qr : Option Value → kz_M → Prop} {Qx : String → kz_M → Prop} {M : kz_M}
theorem c_hinit (hG : kz_stat G) (h : M.1 21 = some (.inl (0, [.null, .int 0, .int 0]))) (h2 : M.2 = 22) (hmc : 65 ≤ mc) (hms : 1384 ≤ ms) (q : ∀ M1, ow_Nw (· = 21) M M1 → M1.2 = 87 → ow_RHl M1 (fun _ => o_0) 0 → Qr none M1) : kz_C G (d + 4) mc ms mX0_init [.ref 21] M Qr Qx := by
  obtain ⟨m, n⟩ := M
  obtain rfl : n = 22 := h2
  have h : m 21 = some (.inl (0, [.null, .int 0, .int 0])) := h
  refine kz_Cfr fun hf => ?_
  refine rX0_init_0 ⟨8, by decide, by decide, by omega, by omega, by omega, _, (kz_nw_ne (by show 21 ≠ 22; omega)).trans h, ow_l rfl, ?_⟩
  have key : ∀ i, i ≤ 8 → ∀ M1 f, ow_Nw (· = 21) (m, 22) M1 → M1.2 = 23 + 8 * i → M1.1 21 = some (.inl (0, [.ref 22, .int 0, .int 0])) → M1.1 22 = some (.inr (.object "LineOffice$State", 8, .inr (.inr (.inr (.inr f))))) → (∀ j, j < i → f j = some (23 + 8 * j) ∧ ow_RO M1 (23 + 8 * j) o_0) → ∀ c sl, c = 1 + 8 * i → sl = 8 + 172 * i → zX0_init_15 G (d + 1) mc ms Qr Qx 21 (nI i) M1 c sl := by
    refine ow_loop 8 ?_ ?_
    · intro M1 f g1 g2 g3 g4 g5 c sl g6 g7
      exact rX0_init_15 (by omega) (by omega) ⟨_, _, g3, rfl, _, _, g4, ow_y (nI_le (b := 8) (Nat.le_refl _) (by omega)) (q M1 g1 g2 ⟨fun _ => o_0, 0, ⟨g3, ⟨by omega, by omega⟩, ⟨f, g4, fun j hj => (g5 j hj).1⟩, fun j hj => (g5 j hj).2⟩, fun i hi => absurd hi (Nat.not_lt_zero i)⟩)⟩
    · intro i hi ih M1 f g1 g2 g3 g4 g5 c sl g6 g7
      refine kz_Zfr fun hf1 => ?_
      refine rX0_init_15 (by omega) (by omega) ⟨_, _, g3, rfl, _, _, g4, ow_n (nI_ge (b := 8) hi (by omega)) ⟨_, _, g3, rfl, by omega, by omega, 7, 162, by omega, by omega, ?_⟩⟩
      have hA := kz_nw_same M1 (.inl (8, [.int 0, .int 0, .int 0, .int 0, .null, .null, .null, .null, .null, .null]))
      rw [g2] at hA ⊢
      refine c_sinit (t := 23 + 8 * i) hG hA (by rw [kz_nw_2, g2]) (by show 23 + 8 * i + 8 ≤ 99; omega) (by omega) (by omega) fun M2 k1 k2 k3 => ⟨rfl, ?_⟩
      have un := ow_ini g2 k1
      refine ⟨_, _, _, (un 22 (by omega)).trans g4, k3.1, vp_in_nI hi (by omega), ?_⟩
      rw [nI_clamp (by omega), nI_1]
      have un2 : ∀ k, k < 23 + 8 * i → k ≠ 22 → (kz_up M2 22 (.inr (.object "LineOffice$State", 8, .inr (.inr (.inr (.inr (va_up f i (some (23 + 8 * i))))))))).1 k = M1.1 k := fun k hk h22 => by rw [kz_up_ne h22, un k hk]
      refine ih (kz_up M2 22 (.inr (.object "LineOffice$State", 8, .inr (.inr (.inr (.inr (va_up f i (some (23 + 8 * i))))))))) (va_up f i (some (23 + 8 * i))) ⟨fun k hk h21 => ?_, ?_⟩ ?_ ((un2 21 (by omega) (by omega)).trans g3) (kz_up_same _ _ _) (fun j hj => ?_) _ _ (by omega) (by omega)
      · have hk : k < 22 := hk
        rw [un2 k (by omega) (by omega), g1.1 k hk h21]
      · show 22 ≤ M2.2
        omega
      · rw [kz_up_2, k2]; omega
      · rcases Nat.lt_or_ge j i with hji | hji
        · refine ⟨(if_neg (by omega)).trans (g5 j hji).1, (g5 j hji).2.mv (ow_inK hf1 (by omega)) fun k h1 h2 => un2 k (by omega) (by omega)⟩
        · have : j = i := by omega
          subst this
          refine ⟨if_pos rfl, k3.mv ?_ fun k h1 h2 => kz_up_ne (by omega)⟩
          intro k e hk he
          rw [kz_up_ne (by have : ow_K = 99 := rfl; omega)]
          exact he
  refine key 0 (Nat.zero_le _) _ (fun _ => none) ⟨fun k hk h21 => ?_, ?_⟩ rfl (kz_up_same _ _ _) ((kz_up_ne (by omega)).trans (kz_nw_same _ _)) (fun j hj => absurd hj (Nat.not_lt_zero j)) _ _ (by omega) (by omega)
  · have hk : k < 22 := hk
    rw [kz_up_ne h21, kz_nw_ne (by show k ≠ 22; omega)]
  · show 22 ≤ 22 + 1
    omega
theorem c_pinit (h : M.1 97 = some (.inl (5, [.null, .int 0]))) (h2 : M.2 = 98) (hmc : 1 ≤ mc) (hms : 780 ≤ ms) (q : ∀ M1, ow_Nw (· = 97) M M1 → M1.2 = 99 → ow_RP M1 97 98 0 (fun _ => ((0, 0, (fun _ => 0), fun _ => 0), (0, 0, 0, 0, 0, 0))) → Qr none M1) : kz_C G (d + 1) mc ms mX5_init [.ref 97] M Qr Qx := by
  obtain ⟨m, n⟩ := M
  obtain rfl : n = 98 := h2
  refine rX5_init_0 ⟨780, by decide, by decide, by omega, by omega, by omega, _, (kz_nw_ne (by show 97 ≠ 98; omega)).trans h, ow_l rfl, q _ ⟨fun k hk h97 => ?_, ?_⟩ rfl ⟨kz_up_same _ _ _, by omega, fun _ => none, (kz_up_ne (by omega)).trans (kz_nw_same _ _), fun i hi => absurd hi (Nat.not_lt_zero i)⟩⟩
  · have hk : k < 98 := hk
    rw [kz_up_ne h97, kz_nw_ne (by show k ≠ 98; omega)]
  · show 98 ≤ 98 + 1
    omega
end OWI
