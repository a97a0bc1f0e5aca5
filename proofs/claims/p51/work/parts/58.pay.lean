/-! Part 58: LineOffice: payOut, advance -/
theorem ow_rng (x : Int32) {L : Nat} (hL : L + 1 < 2 ^ 31) : (x < 1 ∧ ∀ m, 1 ≤ m → m ≤ L → x ≠ nI m) ∨ (¬ x < 1 ∧ ¬ x ≤ nI L ∧ ∀ m, 1 ≤ m → m ≤ L → x ≠ nI m) ∨ ∃ m, 1 ≤ m ∧ m ≤ L ∧ x = nI m := by
  have e0 : (0 : Int32).toInt = 0 := by decide
  have e1 : (1 : Int32).toInt = 1 := by decide
  rcases pk_ix x (n := L + 1) hL with hx | hx | ⟨m, hm, rfl⟩
  · refine Or.inl ⟨?_, fun m h1 h2 e => nI_pos (n := m) (by omega) (e ▸ hx)⟩
    rw [Int32.lt_iff_toInt_lt] at hx ⊢
    omega
  · refine Or.inr (Or.inl ⟨fun z => ?_, fun z => ?_, fun m h1 h2 e => ?_⟩)
    · rw [Int32.lt_iff_toInt_lt] at z
      rw [Int32.le_iff_toInt_le, nI_toInt hL] at hx
      omega
    · rw [Int32.le_iff_toInt_le, nI_toInt (by omega)] at z
      rw [Int32.le_iff_toInt_le, nI_toInt hL] at hx
      omega
    · rw [e] at hx
      exact nI_ge (b := L + 1) (a := m) (by omega) hL hx
  · by_cases h0 : m = 0
    · subst h0
      refine Or.inl ⟨by decide, fun m h1 h2 e => ?_⟩
      have := (nI_eq (a := 0) (b := m) (by omega) (by omega)).mp e
      omega
    · exact Or.inr (Or.inr ⟨m, by omega, by omega, rfl⟩)
def sp_po (O : ow_O) (v : Nat) : Nat := if 0 < o_ba O v then min (o_mo O) (o_ba O v).toNatClampNeg else 0
theorem sp_po_le (O : ow_O) (v : Nat) : sp_po O v ≤ o_mo O := by
  unfold sp_po
  split
  · exact Nat.min_le_left _ _
  · exact Nat.zero_le _
theorem sp_po_eq {O : ow_O} (hm : o_mo O ≤ 99999) (v : Nat) : (if 0 < (if nI (o_mo O) < o_ba O v then nI (o_mo O) else o_ba O v) then (if nI (o_mo O) < o_ba O v then nI (o_mo O) else o_ba O v) else 0) = nI (sp_po O v) := by
  unfold sp_po
  by_cases hb : 0 < o_ba O v
  · rw [if_pos hb]
    have hn : ¬ o_ba O v < 0 := by
      rw [Int32.lt_iff_toInt_lt] at hb ⊢
      omega
    obtain ⟨j, hj, hj2⟩ := nI_of hn
    rw [hj2] at hb ⊢
    rw [nI_clamp hj]
    by_cases hlt : o_mo O < j
    · rw [if_pos (nI_lt hlt hj), Nat.min_eq_left (by omega)]
      exact ow_max _ (by omega)
    · rw [if_neg (nI_nlt (by omega) (by omega)), Nat.min_eq_right (by omega), if_pos hb]
  · rw [if_neg hb]
    have hb' : o_ba O v ≤ 0 := Int32.not_lt.mp hb
    have hlt : ¬ nI (o_mo O) < o_ba O v := by
      rw [Int32.lt_iff_toInt_lt, nI_toInt (by omega)]
      rw [Int32.le_iff_toInt_le] at hb'
      have e0 : (0 : Int32).toInt = 0 := by decide
      omega
    rw [if_neg hlt, if_neg hb]
    rfl
section OWK
variable {G : kz_G} {d mc ms : Nat} {Qr : Option Value → kz_M → Prop} {Qx : String → kz_M → Prop} {M : kz_M} {O : ow_O} {hn : Nat} {h : Nat → ow_O} {sv : ow_O} {isS : Bool} {er : Nat} {ea : Int32} {n : Nat} {b : Nat → Nat} {l : List Nat}
theorem o_hand_nw {v am : Nat} {kd : Int32} : o_nw (o_hand O v kd am) = o_nw O := by
  unfold o_hand
  rw [o_book_nw]
theorem c_payOut {x : Int32} (hG : kz_stat G) (I : ow_CI M O hn h sv isS er ea n b l) (hO : ow_Ok1 O) (hmc : 1 ≤ mc) (hms : 6 ≤ ms) (q0 : (∀ j, j < o_nw O → x ≠ nI j) → ow_thr Qx M ow_IO) (q1 : ∀ j, j < o_nw O → x = nI j → ∀ M1, ow_Cf M M1 → ow_CI M1 (o_hand O j 4 (sp_po O j)) (o_keep hn h O).1 (o_keep hn h O).2 sv isS er ea n b l → Qr (some (.int (nI (sp_po O j)))) M1) : kz_C G (d + 8) mc ms mX11_payOut [.ref 0, .int x] M Qr Qx := by
  obtain ⟨r, hr⟩ := I.hs.ob
  refine rX11_payOut_0 ⟨I.ob, 1, 6, by omega, by omega, c_checkWriter hG I hO (by omega) (by omega) q0 fun v hv e => ⟨rfl, ?_⟩⟩
  subst e
  refine ⟨_, _, I.1, rfl, _, _, I.1, rfl, ⟨_, hr⟩, c_hkeep I.hs I.off hO fun M1 g1 g2 g3 => ⟨rfl, ?_⟩⟩
  have J := I.hist g1 g2 g3
  refine ⟨_, _, J.1, rfl, J.off.ob, c_balanceOf J.off hO.1.2.2.1 hv ⟨_, rfl, _, _, J.1, rfl, _, _, J.off.1, rfl, _, _, J.1, rfl, J.off.ob, ?_⟩⟩
  rw [sp_po_eq hO.1.2.1]
  refine c_handOver J.off hO (by decide) hv (sp_po_le O v) fun M2 k1 k2 k3 => ⟨rfl, ?_⟩
  exact q1 v hv rfl M2 ((ow_inH_cf g1 g2).trans (ow_in5_cf k1 k2)) (J.now k1 k2 k3)
end OWK
