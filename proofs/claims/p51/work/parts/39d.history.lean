/-! Part 39d: History -/
def ow_RH (M : kz_M) (K : Nat → ow_O) (r n : Nat) : Prop := M.1 21 = some (.inl (0, [.ref 22, .int (nI r), .int (nI n)])) ∧ (r < 8 ∧ n ≤ 8) ∧ (∃ f, M.1 22 = some (.inr (.object "LineOffice$State", 8, .inr (.inr (.inr (.inr f))))) ∧ ∀ j, j < 8 → f j = some (23 + 8 * j)) ∧ ∀ j, j < 8 → ow_RO M (23 + 8 * j) (K j)
/-- n kept states, the oldest first -/
def ow_RHl (M : kz_M) (h : Nat → ow_O) (n : Nat) : Prop := ∃ K r, ow_RH M K r n ∧ ∀ i, i < n → K ((r + i) % 8) = h i
abbrev ow_inH (k : Nat) : Prop := 21 ≤ k ∧ k < 87
theorem ow_RHl.mv {M M1 : kz_M} {h : Nat → ow_O} {n : Nat} (H : ow_RHl M h n) (g : ow_Kp M M1) (e : ∀ k, ow_inH k → M1.1 k = M.1 k) : ow_RHl M1 h n := by
  obtain ⟨K, r, ⟨h1, h2, ⟨f, h3, h4⟩, h5⟩, h6⟩ := H
  refine ⟨K, r, ⟨(e 21 ⟨by omega, by omega⟩).trans h1, h2, ⟨f, (e 22 ⟨by omega, by omega⟩).trans h3, h4⟩, fun j hj => (h5 j hj).mv g fun k h7 h8 => e k ⟨by omega, by omega⟩⟩, h6⟩
def o_keep (n : Nat) (h : Nat → ow_O) (O : ow_O) : Nat × (Nat → ow_O) := if n < 8 then (n + 1, fun i => if i = n then O else h i) else (8, fun i => if i = 7 then O else h (i + 1))
section OWH
variable {G : kz_G} {d : Nat} {Qr : Option Value → kz_M → Prop} {Qx : String → kz_M → Prop} {M : kz_M} {O : ow_O} {K h : Nat → ow_O} {r n : Nat}
theorem c_hforget (H : ow_RHl M h n) (q : ∀ M1 h', ow_Sm (· = 21) M M1 → M1.2 = M.2 → ow_RHl M1 h' 0 → Qr none M1) : kz_C G d 0 0 mX0_forget [.ref 21] M Qr Qx := by
  obtain ⟨K, r, ⟨h1, h2, ⟨f, h3, h4⟩, h5⟩, h6⟩ := H
  have S : ow_Sm (· = 21) M (kz_up M 21 (.inl (0, [.ref 22, .int (nI r), .int (nI 0)]))) := fun k hk => kz_up_ne hk
  refine rX0_forget_0 ⟨_, h1, ow_l rfl, q _ h S rfl ⟨K, r, ⟨kz_up_same _ _ _, ⟨h2.1, Nat.zero_le _⟩, ⟨f, (kz_up_ne (by omega)).trans h3, h4⟩, fun j hj => (h5 j hj).sm S fun k hk => ⟨by subst hk; decide, by omega⟩⟩, fun i hi => absurd hi (Nat.not_lt_zero i)⟩⟩
theorem c_slotAt {i : Nat} {x : Int32} (H : ow_RH M K r n) (hi : i < 8) (hx : x = nI i) (q : Qr (some (kz_rf (some (23 + 8 * ((r + i) % 8))))) M) : kz_C G d 0 0 mX0_slotAt [.ref 21, .int x] M Qr Qx := by
  subst hx
  obtain ⟨h1, h2, ⟨f, h3, h4⟩, h5⟩ := H
  have e : (nI r + nI i) - (nI r + nI i) / 8 * 8 = nI ((r + i) % 8) := by
    rw [nI_add]
    exact pk_rem (d := 8) (by omega) (by omega) (by omega)
  have hm : (r + i) % 8 < 8 := Nat.mod_lt _ (by omega)
  refine rX0_slotAt_0 ⟨_, _, h1, rfl, ?_⟩
  rw [e]
  refine ow_n (nI_pos (by omega)) ⟨_, _, h1, rfl, _, _, h3, ow_n (nI_ge hm (by omega)) ⟨_, _, h1, rfl, _, _, h3, vp_in_nI hm (by omega), fun o ho => ?_⟩⟩
  rw [nI_clamp (by omega), h4 _ hm] at ho
  subst ho
  exact q
theorem ow_mod8 {r i j : Nat} (hi : i < 8) (hj : j < 8) (h : (r + i) % 8 = (r + j) % 8) : i = j := by omega
theorem c_hkeep (H : ow_RHl M h n) (g : ow_RO M 5 O) (hO : ow_Ok1 O) (q : ∀ M1, ow_Sm ow_inH M M1 → M1.2 = M.2 → ow_RHl M1 (o_keep n h O).2 (o_keep n h O).1 → Qr none M1) : kz_C G (d + 3) 0 0 mX0_keep [.ref 21, .ref 5] M Qr Qx := by
  obtain ⟨K, r, H, h6⟩ := H
  have H0 := H
  obtain ⟨h1, h2, ⟨f, h3, h4⟩, h5⟩ := H
  have hK : ow_K = 99 := rfl
  refine rX0_keep_0 ⟨_, _, h1, rfl, pk_lt n 8 (fun hlt => ?_) (fun hge => ?_) rfl rfl⟩
  · have hm : (r + n) % 8 < 8 := Nat.mod_lt _ (by omega)
    refine ⟨_, _, h1, rfl, ⟨_, h1⟩, c_slotAt (i := n) H0 hlt rfl ⟨_, rfl, fun hz => (by cases hz), fun y hy => ?_⟩⟩
    cases hy
    refine ⟨(h5 _ hm).ob, c_takeOver (h5 _ hm) g hO (by omega) (by omega) fun M1 g1 g2 g3 => ⟨rfl, ?_⟩⟩
    have n1 : ∀ k, ¬ (23 + 8 * ((r + n) % 8) ≤ k ∧ k < 23 + 8 * ((r + n) % 8) + 8) → M1.1 k = M.1 k := fun k hk => g1 k hk
    have l1 := (n1 21 (by omega)).trans h1
    have l2 := (n1 22 (by omega)).trans h3
    refine ⟨_, _, l1, rfl, _, l1, ow_l rfl, ?_⟩
    rw [nI_1]
    have S2 : ow_Sm (· = 21) M1 (kz_up M1 21 (.inl (0, [.ref 22, .int (nI r), .int (nI (n + 1))]))) := fun k hk => kz_up_ne hk
    rw [o_keep, if_pos hlt] at q
    refine q _ ((g1.mono fun k hk => ⟨by have := hk.1; omega, by have := hk.2; omega⟩).trans (S2.mono fun k hk => by subst hk; exact ⟨by omega, by omega⟩)) g2 ⟨fun j => if j = (r + n) % 8 then O else K j, r, ⟨kz_up_same _ _ _, ⟨h2.1, hlt⟩, ⟨f, (kz_up_ne (by omega)).trans l2, h4⟩, fun j hj => ?_⟩, fun i hi => ?_⟩
    · refine ow_RO.sm ?_ S2 fun k hk => ⟨by subst hk; decide, by omega⟩
      show ow_RO M1 (23 + 8 * j) (if j = (r + n) % 8 then O else K j)
      by_cases hj2 : j = (r + n) % 8
      · rw [if_pos hj2, hj2]; exact g3
      · rw [if_neg hj2]
        exact (h5 j hj).sm g1 fun k hk => ⟨by have := hk.2; omega, by have := hk.1; have := hk.2; omega⟩
    · show (if (r + i) % 8 = (r + n) % 8 then O else K ((r + i) % 8)) = (if i = n then O else h i)
      have hi : i < n + 1 := hi
      by_cases hin : i = n
      · rw [if_pos hin, if_pos (by rw [hin])]
      · rw [if_neg hin, if_neg (fun e => hin (ow_mod8 (by omega) hlt e))]
        exact h6 i (by omega)
  · have hn : n = 8 := by omega
    subst hn
    have e : (nI r + 1) - (nI r + 1) / 8 * 8 = nI ((r + 1) % 8) := by
      rw [nI_1]
      exact pk_rem (d := 8) (by omega) (by omega) (by omega)
    have hm1 : (r + 1) % 8 < 8 := Nat.mod_lt _ (by omega)
    refine ⟨_, _, h1, rfl, _, h1, ow_l rfl, _, kz_up_same _ _ _, ow_l rfl, ?_⟩
    rw [e]
    have S1 : ow_Sm (· = 21) M (kz_up (kz_up M 21 (.inl (0, [.ref 22, .int (nI ((r + 1) % 8)), .int (nI 8)]))) 21 (.inl (0, [.ref 22, .int (nI ((r + 1) % 8)), .int (nI 7)]))) := fun k hk => (kz_up_ne hk).trans (kz_up_ne hk)
    have HA : ow_RH (kz_up (kz_up M 21 (.inl (0, [.ref 22, .int (nI ((r + 1) % 8)), .int (nI 8)]))) 21 (.inl (0, [.ref 22, .int (nI ((r + 1) % 8)), .int (nI 7)]))) K ((r + 1) % 8) 7 := ⟨kz_up_same _ _ _, ⟨hm1, by omega⟩, ⟨f, (S1 22 (by omega)).trans h3, h4⟩, fun j hj => (h5 j hj).sm S1 fun k hk => ⟨by subst hk; decide, by omega⟩⟩
    have gA := g.sm S1 fun k hk => ⟨by subst hk; decide, by omega⟩
    have qA : ow_Sm (· = 21) M _ := S1
    have hm : ((r + 1) % 8 + 7) % 8 < 8 := Nat.mod_lt _ (by omega)
    refine ⟨_, _, kz_up_same _ _ _, rfl, ⟨_, kz_up_same _ _ _⟩, c_slotAt (i := 7) HA (by omega) rfl ⟨_, rfl, fun hz => (by cases hz), fun y hy => ?_⟩⟩
    cases hy
    refine ⟨(HA.2.2.2 _ hm).ob, c_takeOver (HA.2.2.2 _ hm) gA hO (by omega) (by omega) fun M1 g1 g2 g3 => ⟨rfl, ?_⟩⟩
    have n1 : ∀ k, ¬ (23 + 8 * (((r + 1) % 8 + 7) % 8) ≤ k ∧ k < 23 + 8 * (((r + 1) % 8 + 7) % 8) + 8) → M1.1 k = _ := fun k hk => g1 k hk
    have l1 := (n1 21 (by omega)).trans HA.1
    obtain ⟨fA, hA3, hA4⟩ := HA.2.2.1
    have l2 := (n1 22 (by omega)).trans hA3
    refine ⟨_, _, l1, rfl, _, l1, ow_l rfl, ?_⟩
    rw [nI_1]
    have S2 : ow_Sm (· = 21) M1 (kz_up M1 21 (.inl (0, [.ref 22, .int (nI ((r + 1) % 8)), .int (nI (7 + 1))]))) := fun k hk => kz_up_ne hk
    rw [o_keep, if_neg (by omega)] at q
    refine q _ (((S1.mono fun k hk => by subst hk; exact ⟨by omega, by omega⟩).trans (g1.mono fun k hk => ⟨by have := hk.1; omega, by have := hk.2; omega⟩)).trans (S2.mono fun k hk => by subst hk; exact ⟨by omega, by omega⟩)) g2 ⟨fun j => if j = ((r + 1) % 8 + 7) % 8 then O else K j, (r + 1) % 8, ⟨kz_up_same _ _ _, ⟨hm1, Nat.le_refl _⟩, ⟨fA, (kz_up_ne (by omega)).trans l2, hA4⟩, fun j hj => ?_⟩, fun i hi => ?_⟩
    · refine ow_RO.sm ?_ S2 fun k hk => ⟨by subst hk; decide, by omega⟩
      show ow_RO M1 (23 + 8 * j) (if j = ((r + 1) % 8 + 7) % 8 then O else K j)
      by_cases hj2 : j = ((r + 1) % 8 + 7) % 8
      · rw [if_pos hj2, hj2]; exact g3
      · rw [if_neg hj2]
        exact (HA.2.2.2 j hj).sm g1 fun k hk => ⟨by have := hk.2; omega, by have := hk.1; have := hk.2; omega⟩
    · show (if ((r + 1) % 8 + i) % 8 = ((r + 1) % 8 + 7) % 8 then O else K (((r + 1) % 8 + i) % 8)) = (if i = 7 then O else h (i + 1))
      have hi : i < 8 := hi
      by_cases hin : i = 7
      · rw [if_pos hin, if_pos (by rw [hin])]
      · rw [if_neg hin, if_neg (fun e => hin (ow_mod8 (by omega) (by omega) e)), ← h6 (i + 1) (by omega)]
        congr 1
        omega
end OWH
