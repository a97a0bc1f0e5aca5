/-! Part 31: LineOffice's static helpers, Script: contracts of what only reads -/
theorem ow_lI {a : Nat} (h : a < 2 ^ 63) : (lN a).toInt = (a : Int) := pk_lT h
theorem ow_shr {a d : Nat} {D : Int64} (hD : (D.toBitVec.smod 64).toNat = d) (h : a < 2 ^ 62) : lN a >>> D = lN (a / 2 ^ d) := by
  have hd : a / 2 ^ d ≤ a := Nat.div_le_self _ _
  apply Int64.toInt_inj.mp
  have e : (lN a >>> D).toInt = (lN a).toInt >>> d := by
    rw [← hD]
    exact BitVec.toInt_sshiftRight ..
  rw [e, Int.shiftRight_eq_div_pow, ow_lI (by omega), ow_lI (by omega)]
  rfl
/-- how many letters a word's number has -/
def ow_lnF : Nat → Nat → Nat
  | 0, _ => 0
  | k + 1, c => if c = 0 then 0 else ow_lnF k (c / 32) + 1
def ow_ln (c : Nat) : Nat := ow_lnF 12 c
theorem ow_lnF_le : ∀ k c, ow_lnF k c ≤ k
  | 0, _ => Nat.le_refl _
  | k + 1, c => by
    unfold ow_lnF
    split
    · omega
    · have := ow_lnF_le k (c / 32); omega
theorem ow_ln_le (c : Nat) : ow_ln c ≤ 12 := ow_lnF_le 12 c
theorem ow_lnF_lt : ∀ k c i, i < ow_lnF k c → c / 2 ^ (5 * i) ≠ 0
  | 0, _, i, h => by unfold ow_lnF at h; omega
  | k + 1, c, i, h => by
    unfold ow_lnF at h
    split at h
    · omega
    · rename_i hc
      cases i with
      | zero => simpa using hc
      | succ i =>
        have h2 := ow_lnF_lt k (c / 32) i (by omega)
        rw [show 5 * (i + 1) = 5 + 5 * i by omega, Nat.pow_add, ← Nat.div_div_eq_div_mul]
        exact h2
theorem ow_lnF_end : ∀ k c, c < 2 ^ (5 * k) → c / 2 ^ (5 * ow_lnF k c) = 0
  | 0, c, h => by
    have : c = 0 := by simpa using h
    subst this; rfl
  | k + 1, c, h => by
    unfold ow_lnF
    split
    · rename_i hc; subst hc; rfl
    · rw [show 5 * (ow_lnF k (c / 32) + 1) = 5 + 5 * ow_lnF k (c / 32) by omega, Nat.pow_add, ← Nat.div_div_eq_div_mul]
      refine ow_lnF_end k (c / 32) ?_
      rw [show 5 * (k + 1) = 5 * k + 5 by omega, Nat.pow_add] at h
      exact Nat.div_lt_of_lt_mul (by rw [Nat.mul_comm]; exact h)
theorem ow_sh12 : ∀ i, i < 13 → ((((5 : Int32) * nI i).toInt64 &&& 63).toBitVec.smod 64).toNat = 5 * i := by decide
section OWS
variable {G : kz_G} {d : Nat} {Qr : Option Value → kz_M → Prop} {Qx : String → kz_M → Prop} {M : kz_M}
theorem c_at {p n i : Nat} {f : Nat → Int32} (hr : M.1 p = some (.inr (.int, n, .inl f))) (hi : i < n) (hn : n < 2 ^ 31) (q : Qr (some (.int (f i))) M) : kz_C G d 0 0 mX11_at [.ref p, .int (nI i)] M Qr Qx :=
  rX11_at_0 (ow_n (nI_pos (by omega)) ⟨_, _, hr, ow_n (nI_ge hi hn) ⟨_, _, hr, vp_in_nI hi hn, by rw [nI_clamp (by omega)]; exact q⟩⟩)
theorem c_put {p n i : Nat} {x : Int32} {f : Nat → Int32} (hr : M.1 p = some (.inr (.int, n, .inl f))) (hi : i < n) (hn : n < 2 ^ 31) (q : Qr none (kz_up M p (.inr (.int, n, .inl (upd f i x))))) : kz_C G d 0 0 mX11_put [.ref p, .int (nI i), .int x] M Qr Qx :=
  rX11_put_0 (ow_n (nI_pos (by omega)) ⟨_, _, hr, ow_n (nI_ge hi hn) ⟨_, _, hr, vp_in_nI hi hn, by rw [nI_clamp (by omega)]; exact q⟩⟩)
theorem c_lengthOf {w : Nat} (hw : w < 2 ^ 60) (q : Qr (some (.int (nI (ow_ln w)))) M) : kz_C G d 0 0 mX11_lengthOf [.long (lN w)] M Qr Qx := by
  refine rX11_lengthOf_0 (ow_loop (P := fun i => zX11_lengthOf_2 G d Qr Qx (lN w) (nI i) M) (ow_ln w) ?_ ?_ 0 (Nat.zero_le _))
  · have h12 := ow_ln_le w
    refine rX11_lengthOf_2 (pk_le 12 (ow_ln w) (fun _ => q) (fun hlt => ow_y ?_ q) rfl rfl)
    rw [ow_shr (ow_sh12 _ (by omega)) (by omega), show w / 2 ^ (5 * ow_ln w) = 0 from ow_lnF_end 12 w hw]
    rfl
  · intro i hi h
    have h12 := ow_ln_le w
    refine rX11_lengthOf_2 (pk_le 12 i (fun hz => absurd hz (by omega)) (fun hlt => ow_n ?_ ?_) rfl rfl)
    · rw [ow_shr (ow_sh12 _ (by omega)) (by omega)]
      have h2 := ow_lnF_lt 12 w i hi
      have h3 : w / 2 ^ (5 * i) ≤ w := Nat.div_le_self _ _
      intro e
      exact h2 ((pk_lEQ (b := 0) (by omega) (by omega)).mp e)
    · rw [nI_1]; exact h
theorem c_size {a : Nat} {s : ow_S} (h : ow_RS M a s) (q : Qr (some (.int (nI s.2.1))) M) : kz_C G d 0 0 mX6_size [.ref a] M Qr Qx := by
  obtain ⟨aw, as, h1, h2, h3, -⟩ := h
  exact rX6_size_0 ⟨_, _, h1, rfl, _, _, h2, q⟩
theorem c_wordAt {a i : Nat} {s : ow_S} (h : ow_RS M a s) (hi : i < s.2.1) (hn : s.2.1 < 2 ^ 31) (q : Qr (some (.long (s.2.2.1 i))) M) : kz_C G d 0 0 mX6_wordAt [.ref a, .int (nI i)] M Qr Qx := by
  obtain ⟨aw, as, h1, h2, h3, -⟩ := h
  exact rX6_wordAt_0 (ow_n (nI_pos (by omega)) ⟨_, _, h1, rfl, _, _, h2, ow_n (nI_ge hi hn) ⟨_, _, h1, rfl, _, _, h2, vp_in_nI hi hn, by rw [nI_clamp (by omega)]; exact q⟩⟩)
theorem c_isParted {a i : Nat} {s : ow_S} (h : ow_RS M a s) (h0 : 0 < i) (hi : i < s.2.1) (hn : s.2.1 < 2 ^ 31) (q : Qr (some (.int (if s.2.2.2 i = s.2.2.2 (i - 1) then 0 else 1))) M) : kz_C G (d + 1) 0 0 mX6_isParted [.ref a, .int (nI i)] M Qr Qx := by
  obtain ⟨aw, as, h1, h2, h3, -⟩ := h
  refine rX6_isParted_0 ⟨_, _, h1, rfl, c_at h3 hi hn ⟨_, rfl, _, _, h1, rfl, ?_⟩⟩
  have e : nI i - 1 = nI (i - 1) := by
    obtain ⟨j, rfl⟩ : ∃ j, i = j + 1 := ⟨i - 1, by omega⟩
    exact nI_pred j
  rw [e]
  refine c_at h3 (by omega) hn ⟨_, rfl, ?_⟩
  by_cases hc : s.2.2.2 i = s.2.2.2 (i - 1)
  · rw [if_pos hc] at q; exact ow_y hc q
  · rw [if_neg hc] at q; exact ow_n hc q
/-- how often a word stands from a on, below b -/
def ow_tm (w : Nat → Int64) (x : Int64) (a : Nat) : Nat → Nat := ow_cn (fun i => decide (a ≤ i) && decide (w i = x))
theorem ow_tm0 (w : Nat → Int64) (x : Int64) (a : Nat) : ow_tm w x a a = 0 := ow_cn_0 fun i hi => by simp; omega
theorem ow_max (a : Nat) (h : a < 2 ^ 31) : (if (0 : Int32) < nI a then nI a else 0) = nI a := by
  by_cases h0 : (0 : Int32) < nI a
  · rw [if_pos h0]
  · rw [if_neg h0]
    have : ¬ 0 < a := fun z => h0 (nI_lt (a := 0) z h)
    have e : a = 0 := by omega
    rw [e]; rfl
theorem c_times {a from' to' : Nat} {x : Int64} {s : ow_S} (h : ow_RS M a s) (hf : from' ≤ to') (ht : to' ≤ s.2.1) (hn : s.2.1 < 2 ^ 31) (q : Qr (some (.int (nI (ow_tm s.2.2.1 x from' to')))) M) : kz_C G (d + 1) 0 0 mX6_times [.ref a, .long x, .int (nI from'), .int (nI to')] M Qr Qx := by
  obtain ⟨aw, as, h1, h2, h3, -⟩ := h
  refine rX6_times_0 ?_
  rw [ow_max _ (by omega)]
  have key : ∀ i, i ≤ to' → from' ≤ i → zX6_times_10 G d Qr Qx a x (nI to') (nI (ow_tm s.2.2.1 x from' i)) (nI i) M := by
    refine ow_loop to' ?_ ?_
    · intro _
      exact rX6_times_10 (ow_y (nI_le (Nat.le_refl _) (by omega)) q)
    · intro i hi ih hfi
      refine rX6_times_10 (ow_n (nI_ge hi (by omega)) ⟨_, _, h1, rfl, _, _, h2, ow_n (nI_ge (by omega) hn) ⟨_, _, h1, rfl, _, _, h2, vp_in_nI (by omega) hn, ?_⟩⟩)
      rw [nI_clamp (by omega), nI_1]
      have ih := ih (by omega)
      by_cases hc : s.2.2.1 i = x
      · refine ow_nn hc ?_
        rw [nI_1]
        rw [show ow_tm s.2.2.1 x from' (i + 1) = ow_tm s.2.2.1 x from' i + 1 from ow_cn_t (by simp [hfi, hc])] at ih
        exact ih
      · refine ow_yn hc ?_
        rw [show ow_tm s.2.2.1 x from' (i + 1) = ow_tm s.2.2.1 x from' i from ow_cn_f (by simp [hc])] at ih
        rw [show nI (ow_tm s.2.2.1 x from' i) + 0 = nI (ow_tm s.2.2.1 x from' i) from nI_add _ 0]
        exact ih
  have := key from' hf (Nat.le_refl _)
  rw [ow_tm0] at this
  exact this
theorem ow_tm_le (w : Nat → Int64) (x : Int64) (a b : Nat) : ow_tm w x a b ≤ b := ow_cn_le _ _
theorem c_isNewAt {a from' i : Nat} {s : ow_S} (h : ow_RS M a s) (hf : from' ≤ i) (hi : i < s.2.1) (hn : s.2.1 < 2 ^ 31) (q : Qr (some (.int (if ow_tm s.2.2.1 (s.2.2.1 i) from' i = 0 then 1 else 0))) M) : kz_C G (d + 2) 0 0 mX6_isNewAt [.ref a, .int (nI from'), .int (nI i)] M Qr Qx := by
  obtain ⟨aw, as, h1, h2, h3, h4⟩ := h
  have h : ow_RS M a s := ⟨aw, as, h1, h2, h3, h4⟩
  refine rX6_isNewAt_0 ⟨⟨_, h1⟩, c_wordAt h hi hn ⟨_, rfl, ⟨_, h1⟩, c_times h hf (by omega) hn ⟨_, rfl, ?_⟩⟩⟩
  have hle := ow_tm_le s.2.2.1 (s.2.2.1 i) from' i
  by_cases hc : ow_tm s.2.2.1 (s.2.2.1 i) from' i = 0
  · rw [if_pos hc] at q
    rw [hc]
    exact ow_nn rfl q
  · rw [if_neg hc] at q
    exact ow_yn (nI_ne0 (by omega) (by omega)) q
/-- how many different words from a on, below b -/
def ow_df (w : Nat → Int64) (a : Nat) : Nat → Nat := ow_cn (fun i => decide (a ≤ i) && decide (ow_tm w (w i) a i = 0))
theorem c_differentBetween {a from' to' : Nat} {s : ow_S} (h : ow_RS M a s) (hf : from' ≤ to') (ht : to' ≤ s.2.1) (hn : s.2.1 < 2 ^ 31) (q : Qr (some (.int (nI (ow_df s.2.2.1 from' to')))) M) : kz_C G (d + 3) 0 0 mX6_differentBetween [.ref a, .int (nI from'), .int (nI to')] M Qr Qx := by
  have hobj : ∃ fs, M.1 a = some (.inl (6, fs)) := by obtain ⟨aw, as, h1, -⟩ := h; exact ⟨_, h1⟩
  refine rX6_differentBetween_0 ?_
  have key : ∀ i, i ≤ to' → from' ≤ i → zX6_differentBetween_5 G d Qr Qx a (nI from') (nI to') (nI (ow_df s.2.2.1 from' i)) (nI i) M := by
    refine ow_loop to' ?_ ?_
    · intro _
      exact rX6_differentBetween_5 (ow_y (nI_le (Nat.le_refl _) (by omega)) q)
    · intro i hi ih hfi
      have ih := ih (by omega)
      refine rX6_differentBetween_5 (ow_n (nI_ge hi (by omega)) ⟨hobj, c_isNewAt h hfi (by omega) hn ⟨_, rfl, ?_⟩⟩)
      rw [nI_1]
      by_cases hc : ow_tm s.2.2.1 (s.2.2.1 i) from' i = 0
      · rw [if_pos hc]
        refine ow_n (by decide) ?_
        rw [nI_1]
        rw [show ow_df s.2.2.1 from' (i + 1) = ow_df s.2.2.1 from' i + 1 from ow_cn_t (by simp [hfi, hc])] at ih
        exact ih
      · rw [if_neg hc]
        refine ow_y rfl ?_
        rw [show ow_df s.2.2.1 from' (i + 1) = ow_df s.2.2.1 from' i from ow_cn_f (by simp [hc])] at ih
        rw [show nI (ow_df s.2.2.1 from' i) + 0 = nI (ow_df s.2.2.1 from' i) from nI_add _ 0]
        exact ih
  have := key from' hf (Nat.le_refl _)
  rw [show ow_df s.2.2.1 from' from' = 0 from ow_cn_0 fun i hi => by simp; omega] at this
  exact this
end OWS
