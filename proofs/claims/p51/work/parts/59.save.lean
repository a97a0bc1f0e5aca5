/-! Part 59: LineOffice: truncateInput, saveState -/
section OWK
variable {G : kz_G} {d mc ms : Nat} {Qr : Option Value → kz_M → Prop} {Qx : String → kz_M → Prop} {M : kz_M} {O : ow_O} {hn : Nat} {h : Nat → ow_O} {sv : ow_O} {isS : Bool} {er : Nat} {ea : Int32} {n : Nat} {b : Nat → Nat} {l : List Nat}
theorem c_truncateInput {x : Int32} (I : ow_CI M O hn h sv isS er ea n b l) (q0 : (∀ m, m ≤ n → x ≠ nI m) → Qr (some (.int 0)) M) (q1 : ∀ m, m ≤ n → x = nI m → ∀ M1, ow_Cf M M1 → ow_CI M1 O hn h sv isS er ea m b l → Qr (some (.int 1)) M1) : kz_C G d 0 0 mX11_truncateInput [.ref 0, .int x] M Qr Qx := by
  have hn6 := I.2.1.2.1
  rcases pk_ix x (n := n + 1) (by omega) with hx | hx | ⟨m, hm, rfl⟩
  · exact rX11_truncateInput_0 (ow_y hx (q0 fun m hm e => nI_pos (n := m) (by omega) (e ▸ hx)))
  · have hq : ∀ m, m ≤ n → x ≠ nI m := fun m hm e => by
      rw [e] at hx
      exact nI_ge (b := n + 1) (a := m) (by omega) (by omega) hx
    refine rX11_truncateInput_0 ⟨fun _ => q0 hq, fun _ => ⟨_, _, I.1, rfl, _, _, I.2.1.1, rfl, ow_n (fun z => ?_) (q0 hq)⟩⟩
    rw [Int32.le_iff_toInt_le] at hx z
    rw [nI_toInt (by omega)] at hx z
    omega
  · have S : ow_Sm (· = 1) M (kz_up M 1 (.inl (1, [.ref 2, .int (nI m)]))) := fun k hk => kz_up_ne hk
    obtain ⟨k, P, hp⟩ := I.2.2.2.2.2.2.2.1
    obtain ⟨i1, i2, f, i3, i4⟩ := I.2.1
    refine rX11_truncateInput_0 (ow_n (nI_pos (by omega)) ⟨_, _, I.1, rfl, _, _, i1, rfl, ow_y (nI_le (by omega) (by omega)) ⟨_, _, I.1, rfl, _, i1, ow_l rfl, ?_⟩⟩)
    exact q1 m (by omega) rfl _ (S.cf rfl fun k hk => by subst hk; omega) (I.mv (S.mono fun k hk => Or.inl hk) ⟨kz_up_same _ _ _, by omega, f, (S 2 (by omega)).trans i3, fun i hi => i4 i (by omega)⟩ ⟨k, P, hp.mv (S.kp fun k hk => by subst hk; decide) (S 97 (by omega)) (S 98 (by omega))⟩ rfl)
theorem ow_CI.fld {isS' : Bool} {er' : Nat} {ea' : Int32} (I : ow_CI M O hn h sv isS er ea n b l) : ow_CI (kz_up M 0 (.inl (10, [.ref 1, .ref 3, .ref 5, .ref 13, .ref 21, .ref 87, .ref 97, .int (ow_b isS'), .int (nI er'), .int ea']))) O hn h sv isS' er' ea' n b l := by
  obtain ⟨i1, i2, i3, i4, i5, i6, ⟨en, er2, ea2, O2, t2, i7⟩, ⟨k, P, i8⟩, i9⟩ := I
  have S : ow_Sm (· = 0) M (kz_up M 0 (.inl (10, [.ref 1, .ref 3, .ref 5, .ref 13, .ref 21, .ref 87, .ref 97, .int (ow_b isS'), .int (nI er'), .int ea']))) := fun k hk => kz_up_ne hk
  have K := S.kp fun k hk => by subst hk; decide
  exact ⟨kz_up_same _ _ _, i2.mv (S 1 (by omega)) (S 2 (by omega)), i3.mv (S 3 (by omega)) (S 4 (by omega)), i4.mv K fun k h1 h2 => S k (by omega), i5.mv K fun k h1 h2 => S k (by omega), i6.mv K fun k hk => S k (by have := hk.1; omega), ⟨en, er2, ea2, O2, t2, i7.mv K fun k hk => S k (by have := hk.1; omega)⟩, ⟨k, P, i8.mv K (S 97 (by omega)) (S 98 (by omega))⟩, i9⟩
end OWK
