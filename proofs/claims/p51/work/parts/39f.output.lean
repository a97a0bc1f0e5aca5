/-! Part 39f: Output: what is printed, as a list of signs -/
def ow_RT (M : kz_M) (l : List Nat) : Prop := M.1 3 = some (.inl (4, [.ref 4, .int (nI l.length)])) ∧ l.length ≤ 256 ∧ (∀ c ∈ l, c < 128) ∧ ∃ f, M.1 4 = some (.inr (.byte, 256, .inl f)) ∧ ∀ i, i < l.length → f i = nI (l.getD i 0)
theorem ow_RT.mv {M M1 : kz_M} {l : List Nat} (h : ow_RT M l) (e1 : M1.1 3 = M.1 3) (e2 : M1.1 4 = M.1 4) : ow_RT M1 l := by
  obtain ⟨h1, h2, h3, f, h4, h5⟩ := h
  exact ⟨e1.trans h1, h2, h3, f, e2.trans h4, h5⟩
abbrev ow_inT (k : Nat) : Prop := k = 3 ∨ k = 4
/-- a word's letters, of its last k ones -/
def ow_wo (x : Nat) : Nat → List Nat
  | 0 => []
  | k + 1 => (96 + x / 2 ^ (5 * k) % 32) :: ow_wo x k
theorem ow_wo_len (x : Nat) : ∀ k, (ow_wo x k).length = k
  | 0 => rfl
  | k + 1 => by rw [ow_wo, List.length_cons, ow_wo_len]
/-- a number's digits, of its last k ones -/
def ow_dg (m : Nat) : Nat → List Nat
  | 0 => []
  | k + 1 => (if 10 ^ k ≤ m ∨ k = 0 then [48 + m / 10 ^ k % 10] else []) ++ ow_dg m k
def ow_num (v : Int32) : List Nat := (if v < 0 then [45] else []) ++ ow_dg v.toInt.natAbs 10
theorem ow_dg_le (m : Nat) : ∀ k, (ow_dg m k).length ≤ k
  | 0 => Nat.le_refl _
  | k + 1 => by
    have := ow_dg_le m k
    rw [ow_dg, List.length_append]
    split <;> simp <;> omega
theorem ow_dg_lt (m : Nat) (n : Nat) (hm : m < 10 ^ n) : ∀ k, (ow_dg m k).length ≤ max 1 n
  | 0 => Nat.zero_le _
  | k + 1 => by
    have ih := ow_dg_lt m n hm k
    have h2 := ow_dg_le m k
    rw [ow_dg, List.length_append]
    split
    · rename_i hc
      rcases hc with hc | hc
      · have : k < n := by
          rcases Nat.lt_or_ge k n with h | h
          · exact h
          · have := Nat.pow_le_pow_right (n := 10) (by omega) h
            omega
        have h1 : ([48 + m / 10 ^ k % 10] : List Nat).length = 1 := rfl
        omega
      · subst hc
        have h0 : (ow_dg m 0).length = 0 := rfl
        have h1 : ([48 + m / 10 ^ 0 % 10] : List Nat).length = 1 := rfl
        omega
    · have : ([] : List Nat).length = 0 := rfl
      omega
theorem ow_abs (v : Int32) : (if 0 < v.toInt64 then v.toInt64 else -v.toInt64) = lN v.toInt.natAbs := by
  have h1 := v.minValue_le_toInt
  have h2 := v.toInt_le
  have e1 : Int32.minValue.toInt = -2147483648 := by decide
  have e2 : Int32.maxValue.toInt = 2147483647 := by decide
  have h2' := h2
  have h3 : v.toInt ≤ 2147483647 := by
    have := v.toInt_lt
    omega
  have h4 : -2147483648 ≤ v.toInt := by
    rw [← e1]; exact h1
  have z : (0 : Int64).toInt = 0 := by decide
  apply Int64.toInt_inj.mp
  rw [pk_lT (by omega)]
  split
  · rename_i h
    rw [Int64.lt_iff_toInt_lt, z, Int32.toInt_toInt64] at h
    rw [Int32.toInt_toInt64]
    omega
  · rename_i h
    rw [Int64.lt_iff_toInt_lt, z, Int32.toInt_toInt64] at h
    rw [Int64.toInt_neg, Int32.toInt_toInt64, Int.bmod_eq_of_le (by omega) (by omega)]
    omega
section OWT
variable {G : kz_G} {d : Nat} {Qr : Option Value → kz_M → Prop} {Qx : String → kz_M → Prop} {M : kz_M} {l : List Nat}
theorem ow_RT.ob (h : ow_RT M l) : ∃ fs, M.1 3 = some (.inl (4, fs)) := ⟨_, h.1⟩
theorem ow_n8 {c : Nat} (hc : c < 128) : vp_nar .byte ((nI c).toInt8.toInt32) = nI c := by
  rw [pk_vb]
  have : ∀ c, c < 128 → (nI c).toInt8.toInt32 = nI c := by decide +kernel
  exact this c hc
theorem ow_sh11 : ∀ i, i < 12 → ((((5 : Int32) * nI i).toInt64 &&& 63).toBitVec.smod 64).toNat = 5 * i := fun i hi => ow_sh12 i (by omega)
theorem c_initOutput {mc ms : Nat} (h : M.1 3 = some (.inl (4, [.null, .int 0]))) (h2 : M.2 = 4) (hmc : 1 ≤ mc) (hms : 256 ≤ ms) (q : ∀ M1, ow_Nw (· = 3) M M1 → M1.2 = 5 → ow_RT M1 [] → Qr none M1) : kz_C G (d + 1) mc ms mX4_init [.ref 3] M Qr Qx := by
  refine rX4_init_0 ⟨256, by decide, by decide, by omega, by omega, by omega, _, (kz_nw_ne (by omega)).trans h, ow_l rfl, ?_⟩
  rw [h2]
  refine q _ ⟨fun k hk hk1 => ?_, ?_⟩ ?_ ⟨kz_up_same _ _ _, Nat.zero_le _, fun c hc => (by cases hc), fun _ => 0, ?_, fun i hi => absurd hi (Nat.not_lt_zero i)⟩
  · rw [kz_up_ne hk1, kz_nw_ne (by omega)]
  · rw [kz_up_2, kz_nw_2]; omega
  · rw [kz_up_2, kz_nw_2]; omega
  · refine (kz_up_ne (by omega)).trans ?_
    rw [← h2]
    exact kz_nw_same _ _
end OWT
