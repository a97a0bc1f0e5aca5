/-! Part 44: SetupReader reads a setup text -/
abbrev sp_R : Type := (Nat × Nat) ⊕ (Nat × ow_O × (Nat → Bool))
def ow_lo (k : Nat) : Nat := [6, 2, 1, 0, 0, 1, 0, 0, 0, 0].getD k 0
def ow_hi (k : Nat) : Nat := [30, 9, 99, 99, 30, 9, 99, 99, 99, 99].getD k 0
theorem ow_lo_kz : ∀ k, k < 10 → kz_lo k = nI (ow_lo k) := by decide
theorem ow_hi_kz : ∀ k, k < 10 → kz_hi k = nI (ow_hi k) := by decide
theorem ow_hi_le : ∀ k, k < 10 → ow_hi k ≤ 99 := by decide
theorem ow_lo_le : ∀ k, k < 10 → ow_lo k ≤ 99 := by decide
def sp_nu (n : Nat) (b : Nat → Nat) (lo hi i : Nat) : Nat ⊕ Nat := if sp_tk n b i = 2 then (if lo ≤ sp_vl n b i ∧ sp_vl n b i ≤ hi then .inr (sp_vl n b i) else .inl 2) else .inl 1
def sp_sc (n : Nat) (b : Nat → Nat) (i : Nat) (O : ow_O) (t : Nat → Bool) : sp_R := if sp_tk n b i = 3 then .inr (sp_en n b i, O, t) else .inl (1, sp_st n b i)
def o_money (O : ow_O) (m : Nat) : ow_O := (o_dy O, m, o_nw O, o_wk O, o_ru O, o_nm O, o_ba O, o_pd O, o_ws O, o_ne O, o_le O)
def o_rule (O : ow_O) (j m : Nat) : ow_O := (o_dy O, o_mo O, o_nw O, o_wk O, (fun i => if i = j then m else o_ru O i), o_nm O, o_ba O, o_pd O, o_ws O, o_ne O, o_le O)
def sp_of (n : Nat) (b : Nat → Nat) (i : Nat) (O : ow_O) (t : Nat → Bool) : sp_R := if sp_tk n b i = 1 ∧ sp_wd n b i = kz_cd 1035 then (match sp_nu n b 0 99999 (sp_en n b i) with
  | .inl c => .inl (c, sp_st n b (sp_en n b i))
  | .inr m => sp_sc n b (sp_en n b (sp_en n b i)) (o_money O m) t) else .inl (1, sp_st n b i)
def sp_taken (O : ow_O) (w : Nat) : Bool := ow_ex (fun i => decide (o_nm O i = w)) (o_nw O)
def sp_wr (n : Nat) (b : Nat → Nat) (st i : Nat) (O : ow_O) (t : Nat → Bool) : sp_R := if o_nw O < 6 then (if sp_tk n b i = 1 ∧ sp_name (sp_wd n b i) = true then (if sp_taken O (sp_wd n b i) then .inl (3, sp_st n b i) else sp_sc n b (sp_en n b i) (o_enrol O (sp_wd n b i)) t) else .inl (1, sp_st n b i)) else .inl (4, st)
def sp_se (n : Nat) (b : Nat → Nat) (st k w i : Nat) (O : ow_O) (t : Nat → Bool) : sp_R := match (if k = 1 then sp_set w else none) with
  | none => .inl (1, st)
  | some j => if t j then .inl (3, st) else match sp_nu n b (ow_lo j) (ow_hi j) i with
    | .inl c => .inl (c, sp_st n b i)
    | .inr m => sp_sc n b (sp_en n b i) (o_rule O j m) (fun k => if k = j then true else t k)
def sp_lp (n : Nat) (b : Nat → Nat) : Nat → Nat → ow_O → (Nat → Bool) → sp_R
  | 0, _, _, _ => .inl (1, 0)
  | f + 1, i, O, t => if sp_tk n b i = 0 then (if 0 < o_nw O then .inr (sp_en n b i, O, t) else .inl (4, sp_st n b i)) else
    match (if sp_tk n b i = 1 ∧ sp_wd n b i = kz_cd 1034 then sp_wr n b (sp_st n b i) (sp_en n b i) O t else sp_se n b (sp_st n b i) (sp_tk n b i) (sp_wd n b i) (sp_en n b i) O t) with
    | .inl e => .inl e
    | .inr z => sp_lp n b f z.1 z.2.1 z.2.2
def sp_read (n : Nat) (b : Nat → Nat) : sp_R := match sp_of n b 0 o_0 (fun _ => false) with
  | .inl e => .inl e
  | .inr z => sp_lp n b (n + 1) z.1 z.2.1 z.2.2
theorem sp_vl_lt {n : Nat} {b : Nat → Nat} {i : Nat} (h : sp_tk n b i = 2) : sp_vl n b i ≤ 99999 := by
  have h5 : sp_end (sp_dg b) n (sp_st n b i) - sp_st n b i ≤ 5 := by
    rw [sp_tk, sp_k0] at h
    split at h
    · split at h
      · omega
      · split at h
        · split at h
          · assumption
          · omega
        · split at h <;> omega
    · omega
  have h1 := sp_nv_lt (b := b) (s := sp_st n b i) (k := sp_end (sp_dg b) n (sp_st n b i) - sp_st n b i) fun j hj => by
    have := sp_end_all (p := sp_dg b) (n := n) (i := sp_st n b i) (j := sp_st n b i + j) (by omega) (by omega)
    unfold sp_dg at this
    simp at this
    exact this.2
  have h2 : 10 ^ (sp_end (sp_dg b) n (sp_st n b i) - sp_st n b i) ≤ 10 ^ 5 := Nat.pow_le_pow_right (by omega) h5
  have h3 : sp_vl n b i = sp_nv b (sp_st n b i) (sp_end (sp_dg b) n (sp_st n b i) - sp_st n b i) := rfl
  omega
theorem sp_st_ge (n : Nat) (b : Nat → Nat) (i : Nat) : i ≤ sp_st n b i := sp_end_ge _ _ _
theorem sp_en_le {n : Nat} {b : Nat → Nat} {i : Nat} (h : i ≤ n) : sp_en n b i ≤ n := by
  have h1 : sp_st n b i ≤ n := sp_end_le h
  rw [sp_en, sp_e0]
  split
  · split
    · exact sp_end_le (by omega)
    · split
      · exact sp_end_le (by omega)
      · omega
  · exact h1
theorem sp_en_ge (n : Nat) (b : Nat → Nat) (i : Nat) : i ≤ sp_en n b i := by
  have h1 := sp_st_ge n b i
  rw [sp_en, sp_e0]
  split
  · split
    · have := sp_end_ge (sp_le b) n (sp_st n b i); omega
    · split
      · have := sp_end_ge (sp_dg b) n (sp_st n b i); omega
      · omega
  · exact h1
theorem sp_en_gt {n : Nat} {b : Nat → Nat} {i : Nat} (h : sp_tk n b i ≠ 0) : i < sp_en n b i := by
  have h1 := sp_st_ge n b i
  rw [sp_tk, sp_k0] at h
  rw [sp_en, sp_e0]
  split
  · rename_i hs
    split
    · rename_i hl
      rw [sp_end_y hs hl]
      have := sp_end_ge (sp_le b) n (sp_st n b i + 1); omega
    · split
      · rename_i hl
        rw [sp_end_y hs hl]
        have := sp_end_ge (sp_dg b) n (sp_st n b i + 1); omega
      · omega
  · rename_i hs
    rw [if_neg hs] at h
    exact absurd rfl h
theorem ow_ln_30 {w : Nat} (hw : w < 2 ^ 60) (h : ow_ln w ≤ 6) : w < 2 ^ 30 := by
  have h1 := ow_lnF_end 12 w hw
  have h2 : w < 2 ^ (5 * ow_ln w) := by
    rcases Nat.lt_or_ge w (2 ^ (5 * ow_ln w)) with h | h
    · exact h
    · have := Nat.div_pos h (Nat.pow_pos (by omega))
      rw [show w / 2 ^ (5 * ow_ln w) = 0 from h1] at this
      omega
  exact Nat.lt_of_lt_of_le h2 (Nat.pow_le_pow_right (by omega) (by omega))
theorem sp_name_ok {w : Nat} (hw : w < 2 ^ 60) (h : sp_name w = true) : 0 < w ∧ w < 2 ^ 30 := by
  unfold sp_name at h
  simp at h
  exact ⟨by omega, ow_ln_30 hw h.2.1⟩
/-- what was told -/
def ow_TD (M : kz_M) (t : Nat → Bool) : Prop := ∃ f, M.1 96 = some (.inr (.boolean, 10, .inl f)) ∧ ∀ i, i < 10 → f i = ow_b (t i)
def ow_ST (M : kz_M) (en : Nat) (er ea : Int32) (O : ow_O) (t : Nat → Bool) : Prop := (∃ tk st w v, ow_R8 M tk st en w v er ea) ∧ ow_RO M 88 O ∧ ow_TD M t
abbrev ow_in8 (k : Nat) : Prop := 87 ≤ k ∧ k < 97
def ow_SX (M : kz_M) (c o : Nat) : Prop := ∃ en O t, ow_ST M en (nI c) (nI o) O t
def sp_post (r : sp_R) (M M1 : kz_M) (v : Option Value) : Prop := ow_Sm ow_in8 M M1 ∧ M1.2 = M.2 ∧ match r with
  | .inl e => v = some (.int 0) ∧ ow_SX M1 e.1 e.2
  | .inr z => v = some (.int 1) ∧ ow_ST M1 z.1 0 (-1) z.2.1 z.2.2 ∧ ow_Ok1 z.2.1
section OW9
variable {G : kz_G} {d : Nat} {Qr : Option Value → kz_M → Prop} {Qx : String → kz_M → Prop} {M : kz_M} {n : Nat} {b : Nat → Nat} {tk st en : Nat} {w : Int64} {v er ea : Int32} {O : ow_O} {t : Nat → Bool}
theorem ow_RO.s87 {M1 : kz_M} (h : ow_RO M 88 O) (g : ow_Sm (· = 87) M M1) : ow_RO M1 88 O := h.sm g fun k hk => ⟨by subst hk; decide, by omega⟩
theorem ow_TD.s87 {M1 : kz_M} (h : ow_TD M t) (g : ow_Sm (· = 87) M M1) : ow_TD M1 t := by
  obtain ⟨f, h1, h2⟩ := h
  exact ⟨f, (g 96 (by omega)).trans h1, h2⟩
theorem ow_Sm.i8 {M1 : kz_M} (g : ow_Sm (· = 87) M M1) : ow_Sm ow_in8 M M1 := g.mono fun k hk => by subst hk; exact ⟨by omega, by omega⟩
theorem ow_RI.s8 {M1 : kz_M} (h : ow_RI M n b) (g : ow_Sm ow_in8 M M1) : ow_RI M1 n b := h.mv (g 1 (fun z => by have := z.1; omega)) (g 2 (fun z => by have := z.1; omega))
theorem ow_nar0 : narrow .boolean (.int 0) = .int 0 := rfl
/-- a failure, told -/
theorem c_failX {c : Nat} (h : ow_R8 M tk st en w v er ea) (h2 : ow_RO M 88 O) (h3 : ow_TD M t) (q : ∀ M1, ow_Sm (· = 87) M M1 → M1.2 = M.2 → ow_SX M1 c st → ∃ r : Int32, some (Value.int 0) = some (.int r) ∧ (narrow .boolean (.int r) = .int r ∧ Qr (some (.int r)) M1)) : kz_C G d 0 0 mX8_fail [.ref 87, .int (nI c)] M (fun v M1 => ∃ r : Int32, v = some (.int r) ∧ (narrow .boolean (.int r) = .int r ∧ Qr (some (.int r)) M1)) Qx :=
  c_fail h fun M1 g1 g2 g3 => q M1 g1 g2 ⟨en, O, t, ⟨tk, st, w, v, g3⟩, h2.s87 g1, h3.s87 g1⟩
theorem c_semi (hI : ow_RI M n b) (h : ow_R8 M tk st en w v 0 (-1)) (h2 : ow_RO M 88 O) (h3 : ow_TD M t) (hO : ow_Ok1 O) (hs : en ≤ n) (q : ∀ M1 r, sp_post (sp_sc n b en O t) M M1 r → Qr r M1) : kz_C G (d + 3) 0 0 mX8_readSemicolon [.ref 87, .ref 1] M Qr Qx := by
  refine rX8_readSemicolon_0 ⟨⟨_, h⟩, c_next hI h hs fun M1 w1 v1 g1 g2 g3 g4 g5 => ⟨rfl, _, _, g3, rfl, ?_⟩⟩
  have htk : sp_tk n b en ≤ 4 := by
    rw [sp_tk, sp_k0]
    repeat' split
    all_goals omega
  refine pk_eq (sp_tk n b en) 3 (fun hz => ?_) (fun hz => ⟨⟨_, g3⟩, c_fail (c := 1) g3 fun M2 k1 k2 k3 => ⟨_, rfl, fun _ => ?_, fun e => absurd rfl e⟩⟩) rfl rfl
  · refine q M1 _ ⟨g1.i8, g2, ?_⟩
    rw [sp_sc, if_pos hz]
    exact ⟨rfl, ⟨⟨_, _, _, _, g3⟩, h2.s87 g1, h3.s87 g1⟩, hO⟩
  · refine q M2 _ ⟨g1.i8.trans k1.i8, k2.trans g2, ?_⟩
    rw [sp_sc, if_neg hz]
    exact ⟨rfl, _, _, _, ⟨_, _, _, _, k3⟩, (h2.s87 g1).s87 k1, (h3.s87 g1).s87 k1⟩
theorem c_number {lo hi : Nat} (hI : ow_RI M n b) (h : ow_R8 M tk st en w v 0 (-1)) (hs : en ≤ n) (hlo : lo ≤ 99999) (hhi : hi ≤ 99999) (q0 : ∀ c, sp_nu n b lo hi en = .inl c → ∀ M1 w1 v1, ow_Sm (· = 87) M M1 → M1.2 = M.2 → ow_R8 M1 (sp_tk n b en) (sp_st n b en) (sp_en n b en) w1 v1 (nI c) (nI (sp_st n b en)) → Qr (some (.int 0)) M1) (q1 : ∀ m, sp_nu n b lo hi en = .inr m → m ≤ hi → ∀ M1 w1, ow_Sm (· = 87) M M1 → M1.2 = M.2 → ow_R8 M1 (sp_tk n b en) (sp_st n b en) (sp_en n b en) w1 (nI m) 0 (-1) → Qr (some (.int 1)) M1) : kz_C G (d + 3) 0 0 mX8_readNumber [.ref 87, .ref 1, .int (nI lo), .int (nI hi)] M Qr Qx := by
  refine rX8_readNumber_0 ⟨⟨_, h⟩, c_next hI h hs fun M1 w1 v1 g1 g2 g3 g4 g5 => ⟨rfl, _, _, g3, rfl, ?_⟩⟩
  have htk : sp_tk n b en ≤ 4 := by
    rw [sp_tk, sp_k0]
    repeat' split
    all_goals omega
  refine pk_eq (sp_tk n b en) 2 (fun hz => ?_) (fun hz => ⟨⟨_, g3⟩, c_fail (c := 1) g3 fun M2 k1 k2 k3 => ⟨_, rfl, rfl, ?_⟩⟩) rfl rfl
  · have hv := g5 hz
    have hvl := sp_vl_lt hz
    subst hv
    refine ⟨_, _, g3, rfl, pk_lt (sp_vl n b en) lo (fun hlt => ⟨⟨_, g3⟩, c_fail (c := 2) g3 fun M2 k1 k2 k3 => ⟨_, rfl, fun _ => ?_, fun e => absurd rfl e⟩⟩) (fun hge => ⟨_, _, g3, rfl, pk_le (sp_vl n b en) hi (fun hle => ?_) (fun hgt => ⟨⟨_, g3⟩, c_fail (c := 2) g3 fun M2 k1 k2 k3 => ⟨_, rfl, fun _ => ?_, fun e => absurd rfl e⟩⟩) rfl rfl⟩) rfl rfl⟩
    · exact q0 2 (by rw [sp_nu, if_pos hz, if_neg (by omega)]) M2 _ _ (fun k hk => (k1 k hk).trans (g1 k hk)) (k2.trans g2) k3
    · exact q1 _ (by rw [sp_nu, if_pos hz, if_pos ⟨hge, hle⟩]) hle M1 w1 g1 g2 g3
    · exact q0 2 (by rw [sp_nu, if_pos hz, if_neg (by omega)]) M2 _ _ (fun k hk => (k1 k hk).trans (g1 k hk)) (k2.trans g2) k3
  · exact q0 1 (by rw [sp_nu, if_neg hz]) M2 _ _ (fun k hk => (k1 k hk).trans (g1 k hk)) (k2.trans g2) k3
end OW9
