/-! Part 54: LineOffice: questions that collect the past -/
/-- what a call of the class leaves as it was -/
def ow_Cf (M M1 : kz_M) : Prop := ow_Kp M M1 ∧ (∀ k, 99 ≤ k → k < 99 → M1.1 k = M.1 k) ∧ M.2 ≤ M1.2
theorem ow_Cf.refl (M : kz_M) : ow_Cf M M := ⟨fun _ _ _ h => h, fun _ _ _ => rfl, Nat.le_refl _⟩
theorem ow_Cf.trans {M M1 M2 : kz_M} (h : ow_Cf M M1) (g : ow_Cf M1 M2) : ow_Cf M M2 := ⟨h.1.trans g.1, fun k h1 h2 => (g.2.1 k h1 h2).trans (h.2.1 k h1 h2), Nat.le_trans h.2.2 g.2.2⟩
theorem ow_Sm.cf {P : Nat → Prop} {M M1 : kz_M} (g : ow_Sm P M M1) (e : M1.2 = M.2) (hP : ∀ k, P k → k < 99) : ow_Cf M M1 := ⟨g.kp fun k hk => by have := hP k hk; show k < 99; omega, fun k h1 h2 => g k fun hk => by have := hP k hk; omega, by omega⟩
abbrev ow_inIP (k : Nat) : Prop := k = 1 ∨ k = 2 ∨ k = 97 ∨ k = 98
section OWK
variable {G : kz_G} {d mc ms : Nat} {Qr : Option Value → kz_M → Prop} {Qx : String → kz_M → Prop} {M : kz_M} {O : ow_O} {hn : Nat} {h : Nat → ow_O} {sv : ow_O} {isS : Bool} {er : Nat} {ea : Int32} {n : Nat} {b : Nat → Nat} {l : List Nat}
theorem ow_ST.mv {M1 : kz_M} {en : Nat} {er' ea' : Int32} {O' : ow_O} {t' : Nat → Bool} (h : ow_ST M en er' ea' O' t') (g : ow_Kp M M1) (e : ∀ k, ow_in8 k → M1.1 k = M.1 k) : ow_ST M1 en er' ea' O' t' := by
  obtain ⟨⟨tk, st, w, v, h1⟩, h2, f, h3, h4⟩ := h
  exact ⟨⟨tk, st, w, v, (e 87 ⟨by omega, by omega⟩).trans h1⟩, h2.mv g fun k h5 h6 => e k ⟨by omega, by omega⟩, f, (e 96 ⟨by omega, by omega⟩).trans h3, h4⟩
theorem ow_CI.mv {M1 : kz_M} {n' : Nat} {b' : Nat → Nat} (I : ow_CI M O hn h sv isS er ea n b l) (g : ow_Sm ow_inIP M M1) (hI : ow_RI M1 n' b') (hp : ∃ k P, ow_RP M1 97 98 k P) (e : M1.2 = M.2) : ow_CI M1 O hn h sv isS er ea n' b' l := by
  obtain ⟨i1, i2, i3, i4, i5, i6, ⟨en, er', ea', O', t', i7⟩, i8, i9⟩ := I
  have K : ow_Kp M M1 := g.kp fun k hk => by show k < 99; rcases hk with rfl | rfl | rfl | rfl <;> omega
  refine ⟨(g 0 (by omega)).trans i1, hI, i3.mv (g 3 (by omega)) (g 4 (by omega)), i4.mv K fun k h1 h2 => g k (by omega), i5.mv K fun k h1 h2 => g k (by omega), i6.mv K fun k hk => g k (by have := hk.1; have := hk.2; omega), ⟨en, er', ea', O', t', i7.mv K fun k hk => g k (by have := hk.1; have := hk.2; omega)⟩, hp, by omega⟩
theorem ow_CI.past {M1 : kz_M} {k : Nat} {P : ow_P} (I : ow_CI M O hn h sv isS er ea n b l) (g : ow_Sm ow_inP M M1) (hp : ow_RP M1 97 98 k P) (e : M1.2 = M.2) : ow_CI M1 O hn h sv isS er ea n b l :=
  I.mv (g.mono fun k hk => hk.elim (fun h => Or.inr (Or.inr (Or.inl h))) (fun h => Or.inr (Or.inr (Or.inr h)))) (I.2.1.mv (g 1 (by omega)) (g 2 (by omega))) ⟨_, _, hp⟩ e
theorem ow_CI.in0 (I : ow_CI M O hn h sv isS er ea n b l) : ow_CI (kz_up M 1 (.inl (1, [.ref 2, .int (nI 0)]))) O hn h sv isS er ea 0 b l := by
  obtain ⟨k, P, hp⟩ := I.2.2.2.2.2.2.2.1
  have S : ow_Sm (· = 1) M (kz_up M 1 (.inl (1, [.ref 2, .int (nI 0)]))) := fun k hk => kz_up_ne hk
  obtain ⟨i1, i2, f, i3, i4⟩ := I.2.1
  obtain ⟨p1, p2, f', p3, p4⟩ := hp
  refine I.mv (S.mono fun k hk => Or.inl hk) ⟨kz_up_same _ _ _, Nat.zero_le _, f, (S 2 (by omega)).trans i3, fun i hi => absurd hi (Nat.not_lt_zero i)⟩ ⟨k, P, (S 97 (by omega)).trans p1, p2, f', (S 98 (by omega)).trans p3, fun i hi => ?_⟩ rfl
  obtain ⟨⟨b', hb, hL⟩, h2⟩ := p4 i hi
  exact ⟨⟨b', hb, hL.sm S fun k hk => by subst hk; decide⟩, h2⟩
def sp_lines (O : ow_O) (v : Nat) (x : Int64) : Nat := ow_lw_ (ow_co O v (o_wk O)).1 (ow_co O v (o_wk O)).2 x
def sp_uses (O : ow_O) (v w : Nat) : Nat := if w = 0 then 0 else sp_lines O v (lN w)
theorem ow_ww_lt {n : Nat} {b : Nat → Nat} : ow_ww n b < 2 ^ 60 := by
  unfold ow_ww
  split
  · split
    · rename_i h1 h2
      refine Nat.lt_of_lt_of_le (ow_nm_lt fun i hi => ?_) (Nat.pow_le_pow_right (by omega) (show 5 * n ≤ 60 by omega))
      unfold ow_al at h2
      have h3 : ow_ex (fun i => !(decide (97 ≤ b i) && decide (b i ≤ 122))) n = false := by simpa using h2
      have := ow_ex_f.mp h3 i hi
      simp at this
      omega
    · exact Nat.pow_pos (by omega)
  · exact Nat.pow_pos (by omega)
end OWK
