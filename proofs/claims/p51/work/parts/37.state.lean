/-! Part 37: State: what only reads -/
/-- an office: day, money, writers, works, rules, names, balances, paid, the works, entries, the ledger -/
abbrev ow_O : Type := Nat × Nat × Nat × Nat × (Nat → Nat) × (Nat → Nat) × (Nat → Int32) × (Nat → Int32) × (Nat → ow_W) × Nat × (Nat → Int32)
abbrev o_dy (O : ow_O) : Nat := O.1
abbrev o_mo (O : ow_O) : Nat := O.2.1
abbrev o_nw (O : ow_O) : Nat := O.2.2.1
abbrev o_wk (O : ow_O) : Nat := O.2.2.2.1
abbrev o_ru (O : ow_O) : Nat → Nat := O.2.2.2.2.1
abbrev o_nm (O : ow_O) : Nat → Nat := O.2.2.2.2.2.1
abbrev o_ba (O : ow_O) : Nat → Int32 := O.2.2.2.2.2.2.1
abbrev o_pd (O : ow_O) : Nat → Int32 := O.2.2.2.2.2.2.2.1
abbrev o_ws (O : ow_O) : Nat → ow_W := O.2.2.2.2.2.2.2.2.1
abbrev o_ne (O : ow_O) : Nat := O.2.2.2.2.2.2.2.2.2.1
abbrev o_le (O : ow_O) : Nat → Int32 := O.2.2.2.2.2.2.2.2.2.2
/-- what the class's own walks need -/
def ow_Ok1 (O : ow_O) : Prop := (o_dy O ≤ 9999 ∧ o_mo O ≤ 99999 ∧ o_nw O ≤ 6 ∧ o_wk O ≤ 12 ∧ o_ne O ≤ 30) ∧ (∀ i, i < 10 → o_ru O i ≤ 99) ∧ (∀ i, i < o_nw O → 0 < o_nm O i ∧ o_nm O i < 2 ^ 30) ∧ ∀ i, i < o_wk O → ow_Wok (o_ws O i)
def ow_Ph (M : kz_M) (O : ow_O) (fh : Nat → Option Nat) : Prop := (∀ i, i < 12 → ∀ b, fh i = some b → ow_K ≤ b ∧ ∃ fs, M.1 b = some (.inl (9, fs))) ∧ ∀ i, i < o_wk O → ∃ b, fh i = some b ∧ ow_RW M b (o_ws O i)
theorem ow_Ph.keep {M M1 : kz_M} {O : ow_O} {fh : Nat → Option Nat} (h : ow_Ph M O fh) (g : ow_Kp M M1) : ow_Ph M1 O fh := ⟨fun i hi b hb => by
  obtain ⟨h1, fs, h2⟩ := h.1 i hi b hb
  exact ⟨h1, fs, g _ _ h1 h2⟩, fun i hi => by
  obtain ⟨b, hb, hw⟩ := h.2 i hi
  exact ⟨b, hb, hw.keep g⟩⟩
def ow_RO (M : kz_M) (s : Nat) (O : ow_O) : Prop := M.1 s = some (.inl (8, [.int (nI (o_dy O)), .int (nI (o_mo O)), .int (nI (o_nw O)), .int (nI (o_wk O)), .ref (s + 1), .ref (s + 2), .ref (s + 3), .ref (s + 4), .ref (s + 5), .ref (s + 6)])) ∧ M.1 (s + 6) = some (.inl (2, [.ref (s + 7), .int (nI (o_ne O))])) ∧ (∃ f, M.1 (s + 1) = some (.inr (.int, 10, .inl f)) ∧ ∀ i, i < 10 → f i = nI (o_ru O i)) ∧ (∃ f, M.1 (s + 2) = some (.inr (.long, 6, .inr (.inl f))) ∧ ∀ i, i < o_nw O → f i = lN (o_nm O i)) ∧ (∃ f, M.1 (s + 3) = some (.inr (.int, 6, .inl f)) ∧ ∀ i, i < o_nw O → f i = o_ba O i) ∧ (∃ f, M.1 (s + 4) = some (.inr (.int, 6, .inl f)) ∧ ∀ i, i < o_nw O → f i = o_pd O i) ∧ (∃ f, M.1 (s + 5) = some (.inr (.object "LineOffice$Work", 12, .inr (.inr (.inr (.inr f))))) ∧ ow_Ph M O f) ∧ ∃ f, M.1 (s + 7) = some (.inr (.int, 120, .inl f)) ∧ ∀ i, i < 4 * o_ne O → f i = o_le O i
theorem ow_RO.mv {M M1 : kz_M} {s : Nat} {O : ow_O} (h : ow_RO M s O) (g : ow_Kp M M1) (e : ∀ k, s ≤ k → k < s + 8 → M1.1 k = M.1 k) : ow_RO M1 s O := by
  obtain ⟨h1, h2, ⟨f3, h3, h3'⟩, ⟨f4, h4, h4'⟩, ⟨f5, h5, h5'⟩, ⟨f6, h6, h6'⟩, ⟨f7, h7, h7'⟩, f8, h8, h8'⟩ := h
  refine ⟨?_, ?_, ⟨f3, ?_, h3'⟩, ⟨f4, ?_, h4'⟩, ⟨f5, ?_, h5'⟩, ⟨f6, ?_, h6'⟩, ⟨f7, ?_, h7'.keep g⟩, f8, ?_, h8'⟩
  · rw [e _ (by omega) (by omega)]; exact h1
  · rw [e _ (by omega) (by omega)]; exact h2
  · rw [e _ (by omega) (by omega)]; exact h3
  · rw [e _ (by omega) (by omega)]; exact h4
  · rw [e _ (by omega) (by omega)]; exact h5
  · rw [e _ (by omega) (by omega)]; exact h6
  · rw [e _ (by omega) (by omega)]; exact h7
  · rw [e _ (by omega) (by omega)]; exact h8
theorem ow_RO.sm {P : Nat → Prop} {M M1 : kz_M} {s : Nat} {O : ow_O} (h : ow_RO M s O) (g : ow_Sm P M M1) (hP : ∀ k, P k → k < ow_K ∧ (k < s ∨ s + 8 ≤ k)) : ow_RO M1 s O :=
  h.mv (g.kp fun k hk => (hP k hk).1) fun k h1 h2 => g k fun hk => by have := (hP k hk).2; omega
/-- a sum of counts below n -/
def ow_sn (f : Nat → Nat) : Nat → Nat
  | 0 => 0
  | n + 1 => ow_sn f n + f n
theorem ow_sn_le {f : Nat → Nat} {b : Nat} : ∀ {n : Nat}, (∀ i, i < n → f i ≤ b) → ow_sn f n ≤ b * n
  | 0, _ => Nat.zero_le _
  | n + 1, h => by
    have h1 := ow_sn_le (n := n) fun i hi => h i (by omega)
    have h2 := h n (by omega)
    rw [ow_sn, Nat.mul_succ]; omega
theorem ow_wl_le {k : Nat} {w : ow_W} (h : w.2.2.2.1 ≤ 60) : ow_wl k w ≤ 60 := Nat.le_trans (ow_cn_le _ _) h
section OWO
variable {G : kz_G} {d : Nat} {Qr : Option Value → kz_M → Prop} {Qx : String → kz_M → Prop} {M : kz_M} {s : Nat} {O : ow_O}
theorem ow_RO.ob (h : ow_RO M s O) : ∃ fs, M.1 s = some (.inl (8, fs)) := ⟨_, h.1⟩
theorem ow_RW.ob {a : Nat} {w : ow_W} (h : ow_RW M a w) : ∃ fs, M.1 a = some (.inl (9, fs)) := by obtain ⟨sc, al, f, h1, -⟩ := h; exact ⟨_, h1⟩
theorem ow_RS.ob {a : Nat} {w : ow_S} (h : ow_RS M a w) : ∃ fs, M.1 a = some (.inl (6, fs)) := by obtain ⟨sc, al, h1, -⟩ := h; exact ⟨_, h1⟩
theorem ow_LL.ob {b : Nat} {t : ow_S} {l : ow_L} (h : ow_LL M b t l) : ∃ fs, M.1 b = some (.inl (3, fs)) := by obtain ⟨sc, h1, -⟩ := h; exact ⟨_, h1.1⟩
theorem c_rule {i : Nat} (h : ow_RO M s O) (hi : i < 10) (q : Qr (some (.int (nI (o_ru O i)))) M) : kz_C G (d + 1) 0 0 mX9_rule [.ref s, .int (nI i)] M Qr Qx := by
  obtain ⟨h1, h2, ⟨f, h3, h3'⟩, -⟩ := h
  exact rX9_rule_0 ⟨_, _, h1, rfl, c_at h3 hi (by omega) ⟨_, rfl, by rw [h3' i hi]; exact q⟩⟩
theorem c_isWriter {x : Int32} (h : ow_RO M s O) (hO : o_nw O ≤ 6) (q0 : (∀ j, j < o_nw O → x ≠ nI j) → Qr (some (.int 0)) M) (q1 : ∀ j, j < o_nw O → x = nI j → Qr (some (.int 1)) M) : kz_C G d 0 0 mX9_isWriter [.ref s, .int x] M Qr Qx := by
  rcases pk_ix x (n := o_nw O) (by omega) with hx | hx | ⟨j, hj, rfl⟩
  · exact rX9_isWriter_0 (ow_y hx (q0 fun j hj e => nI_pos (n := j) (by omega) (e ▸ hx)))
  · refine rX9_isWriter_0 ⟨fun hz => q0 fun j hj e => ?_, fun hz => ⟨_, _, h.1, rfl, ow_y hx (q0 fun j hj e => ?_)⟩⟩
    · exact nI_pos (n := j) (by omega) (e ▸ hz)
    · rw [e] at hx
      exact nI_ge hj (by omega) hx
  · exact rX9_isWriter_0 (ow_n (nI_pos (by omega)) ⟨_, _, h.1, rfl, ow_n (nI_ge hj (by omega)) (q1 j hj rfl)⟩)
theorem c_nameOf {i : Nat} (h : ow_RO M s O) (hO : o_nw O ≤ 6) (hi : i < o_nw O) (q : Qr (some (.long (lN (o_nm O i)))) M) : kz_C G d 0 0 mX9_nameOf [.ref s, .int (nI i)] M Qr Qx := by
  obtain ⟨h1, h2, -, ⟨f, h4, h4'⟩, -⟩ := h
  exact rX9_nameOf_0 (ow_n (nI_pos (by omega)) ⟨_, _, h1, rfl, _, _, h4, ow_n (nI_ge (by omega) (by omega)) ⟨_, _, h1, rfl, _, _, h4, vp_in_nI (by omega) (by omega), by rw [nI_clamp (by omega), h4' i hi]; exact q⟩⟩)
theorem c_hasWriter {x : Nat} (h : ow_RO M s O) (hO : ow_Ok1 O) (hx : x < 2 ^ 60) (q : Qr (some (.int (ow_b (ow_ex (fun i => decide (o_nm O i = x)) (o_nw O))))) M) : kz_C G (d + 1) 0 0 mX9_hasWriter [.ref s, .long (lN x)] M Qr Qx := by
  have hn := hO.1.2.2.1
  refine rX9_hasWriter_0 ?_
  have key : ∀ i, i ≤ o_nw O → (∀ j, j < i → o_nm O j ≠ x) → zX9_hasWriter_2 G d Qr Qx s (lN x) (nI i) M := by
    refine ow_loop (o_nw O) ?_ ?_
    · intro hno
      rw [ow_bf (ow_ex_f.mpr fun i hi => by simp [hno i hi])] at q
      exact rX9_hasWriter_2 ⟨_, _, h.1, rfl, ow_y (nI_le (Nat.le_refl _) (by omega)) q⟩
    · intro i hi ih hno
      have hnm := hO.2.2.1 i hi
      refine rX9_hasWriter_2 ⟨_, _, h.1, rfl, ow_n (nI_ge hi (by omega)) ⟨h.ob, c_nameOf h hn hi ⟨_, rfl, ?_⟩⟩⟩
      by_cases hc : o_nm O i = x
      · rw [ow_bt (ow_ex_iff.mpr ⟨i, hi, by simp [hc]⟩)] at q
        exact ow_nn (by rw [hc]) q
      · refine ow_yn (fun e => hc ((pk_lEQ (by omega) (by omega)).mp e)) ?_
        rw [nI_1]
        refine ih fun j hj => ?_
        rcases Nat.lt_or_ge j i with hji | hji
        · exact hno j hji
        · have : j = i := by omega
          subst this; exact hc
  exact key 0 (Nat.zero_le _) fun j hj => absurd hj (Nat.not_lt_zero j)
theorem c_balanceOf {i : Nat} (h : ow_RO M s O) (hO : o_nw O ≤ 6) (hi : i < o_nw O) (q : Qr (some (.int (o_ba O i))) M) : kz_C G (d + 1) 0 0 mX9_balanceOf [.ref s, .int (nI i)] M Qr Qx := by
  obtain ⟨h1, h2, -, -, ⟨f, h5, h5'⟩, -⟩ := h
  exact rX9_balanceOf_0 ⟨_, _, h1, rfl, c_at h5 (by omega) (by omega) ⟨_, rfl, by rw [h5' i hi]; exact q⟩⟩
theorem c_paidTo {i : Nat} (h : ow_RO M s O) (hO : o_nw O ≤ 6) (hi : i < o_nw O) (q : Qr (some (.int (o_pd O i))) M) : kz_C G (d + 1) 0 0 mX9_paidTo [.ref s, .int (nI i)] M Qr Qx := by
  obtain ⟨h1, h2, -, -, -, ⟨f, h6, h6'⟩, -⟩ := h
  exact rX9_paidTo_0 ⟨_, _, h1, rfl, c_at h6 (by omega) (by omega) ⟨_, rfl, by rw [h6' i hi]; exact q⟩⟩
def o_owed (O : ow_O) : Int32 := ow_sm (fun i => if 0 < o_ba O i then o_ba O i else 0) (o_nw O)
theorem c_owed (h : ow_RO M s O) (hO : o_nw O ≤ 6) (q : Qr (some (.int (o_owed O))) M) : kz_C G (d + 2) 0 0 mX9_owed [.ref s] M Qr Qx := by
  refine rX9_owed_0 (ow_loop (P := fun i => zX9_owed_4 G d Qr Qx s (ow_sm (fun i => if 0 < o_ba O i then o_ba O i else 0) i) (nI i) M) (o_nw O) ?_ ?_ 0 (Nat.zero_le _))
  · exact rX9_owed_4 ⟨_, _, h.1, rfl, ow_y (nI_le (Nat.le_refl _) (by omega)) q⟩
  · intro i hi ih
    refine rX9_owed_4 ⟨_, _, h.1, rfl, ow_n (nI_ge hi (by omega)) ⟨h.ob, c_balanceOf h hO hi ⟨_, rfl, ?_⟩⟩⟩
    rw [nI_1]; exact ih
theorem c_workAt {x : Int32} (h : ow_RO M s O) (hO : o_wk O ≤ 12) (qn : (∀ j, j < o_wk O → x ≠ nI j) → Qr (some (kz_rf none)) M) (qs : ∀ j b, j < o_wk O → x = nI j → ow_RW M b (o_ws O j) → Qr (some (kz_rf (some b))) M) : kz_C G d 0 0 mX9_workAt [.ref s, .int x] M Qr Qx := by
  obtain ⟨h1, h2, -, -, -, -, ⟨f, h7, h7'⟩, -⟩ := h
  rcases pk_ix x (n := o_wk O) (by omega) with hx | hx | ⟨j, hj, rfl⟩
  · exact rX9_workAt_0 (ow_y hx (qn fun j hj e => nI_pos (n := j) (by omega) (e ▸ hx)))
  · refine rX9_workAt_0 ⟨fun hz => qn fun j hj e => ?_, fun hz => ⟨_, _, h1, rfl, ow_y hx (qn fun j hj e => ?_)⟩⟩
    · exact nI_pos (n := j) (by omega) (e ▸ hz)
    · rw [e] at hx
      exact nI_ge hj (by omega) hx
  · obtain ⟨b, hb, hw⟩ := h7'.2 j hj
    refine rX9_workAt_0 (ow_n (nI_pos (by omega)) ⟨_, _, h1, rfl, ow_n (nI_ge hj (by omega)) ⟨_, _, h1, rfl, _, _, h7, ow_n (nI_ge (by omega) (by omega)) ⟨_, _, h1, rfl, _, _, h7, vp_in_nI (by omega) (by omega), fun o ho => ?_⟩⟩⟩)
    rw [nI_clamp (by omega), hb] at ho
    subst ho
    exact qs j b hj rfl hw
theorem c_workAtI {i : Nat} (h : ow_RO M s O) (hO : o_wk O ≤ 12) (hi : i < o_wk O) (qs : ∀ b, ow_RW M b (o_ws O i) → Qr (some (kz_rf (some b))) M) : kz_C G d 0 0 mX9_workAt [.ref s, .int (nI i)] M Qr Qx := by
  refine c_workAt h hO (fun hn => absurd rfl (hn i hi)) fun j b hj e hw => ?_
  have : i = j := (nI_eq (by omega) (by omega)).mp e
  subst this
  exact qs b hw
theorem c_workOf {i v : Nat} (h : ow_RO M s O) (hO : ow_Ok1 O) (hi : i < o_wk O) (hv : v < 2 ^ 31) (qn : (o_ws O i).1 ≠ v → Qr (some (kz_rf none)) M) (qs : ∀ b, (o_ws O i).1 = v → ow_RW M b (o_ws O i) → Qr (some (kz_rf (some b))) M) : kz_C G (d + 1) 0 0 mX9_workOf [.ref s, .int (nI v), .int (nI i)] M Qr Qx := by
  refine rX9_workOf_0 ⟨h.ob, c_workAtI h hO.1.2.2.2.1 hi fun b hw => ⟨_, rfl, fun hz => (by cases hz), fun y hy => ?_⟩⟩
  cases hy
  have hw0 := hw
  obtain ⟨sc, al, f, w1, -⟩ := hw
  have hwl := (hO.2.2.2 i hi).2.2.1
  refine ⟨_, _, w1, rfl, ?_⟩
  by_cases hc : (o_ws O i).1 = v
  · exact ow_nn (by rw [hc]) (qs b hc hw0)
  · exact ow_yn (fun e => hc ((nI_eq (by omega) hv).mp e)) (qn hc)
theorem c_worksOf {v : Nat} (h : ow_RO M s O) (hO : ow_Ok1 O) (hv : v < 2 ^ 31) (q : Qr (some (.int (nI (ow_cn (fun i => decide ((o_ws O i).1 = v)) (o_wk O))))) M) : kz_C G (d + 2) 0 0 mX9_worksOf [.ref s, .int (nI v)] M Qr Qx := by
  have hk := hO.1.2.2.2.1
  refine rX9_worksOf_0 (ow_loop (P := fun i => zX9_worksOf_4 G d Qr Qx s (nI v) (nI (ow_cn (fun i => decide ((o_ws O i).1 = v)) i)) (nI i) M) (o_wk O) ?_ ?_ 0 (Nat.zero_le _))
  · exact rX9_worksOf_4 ⟨_, _, h.1, rfl, ow_y (nI_le (Nat.le_refl _) (by omega)) q⟩
  · intro i hi ih
    refine rX9_worksOf_4 ⟨_, _, h.1, rfl, ow_n (nI_ge hi (by omega)) ⟨h.ob, c_workOf h hO hi hv (fun hc => ⟨_, rfl, fun _ => ?_, fun y hy => (by cases hy)⟩) (fun b hc hw => ⟨_, rfl, fun hz => (by cases hz), fun y _ => ?_⟩)⟩⟩
    · rw [nI_1, ow_add0]
      rw [ow_cn_f (by simp [hc])] at ih
      exact ih
    · rw [nI_1, nI_1]
      rw [ow_cn_t (by simp [hc])] at ih
      exact ih
/-- lines of a sort, of the works that p names -/
def o_ln (O : ow_O) (p : Nat → Bool) (k : Nat) : Nat := ow_sn (fun i => if p (o_ws O i).1 then ow_wl k (o_ws O i) else 0) (o_wk O)
theorem c_slinesOf {v k : Nat} (h : ow_RO M s O) (hO : ow_Ok1 O) (hv : v < 2 ^ 31) (hk : k ≤ 4) (q : Qr (some (.int (nI (o_ln O (fun w => decide (w = v)) k)))) M) : kz_C G (d + 3) 0 0 mX9_linesOf [.ref s, .int (nI v), .int (nI k)] M Qr Qx := by
  have hwk := hO.1.2.2.2.1
  refine rX9_linesOf_0 (ow_loop (P := fun i => zX9_linesOf_5 G d Qr Qx s (nI v) (nI k) (nI (ow_sn (fun i => if (fun w => decide (w = v)) (o_ws O i).1 then ow_wl k (o_ws O i) else 0) i)) (nI i) M) (o_wk O) ?_ ?_ 0 (Nat.zero_le _))
  · exact rX9_linesOf_5 ⟨_, _, h.1, rfl, ow_y (nI_le (Nat.le_refl _) (by omega)) q⟩
  · intro i hi ih
    have hW := hO.2.2.2 i hi
    have hwl := hW.2.2.1
    have hv1 : ¬ nI v = -1 := fun e => by
      have e2 : (nI v).toInt = (-1 : Int32).toInt := congrArg Int32.toInt e
      rw [nI_toInt hv] at e2
      have e3 : ((-1 : Int32)).toInt = -1 := by decide
      omega
    refine rX9_linesOf_5 ⟨_, _, h.1, rfl, ow_n (nI_ge hi (by omega)) ⟨h.ob, c_workAtI h hwk hi fun b hw => ⟨_, rfl, fun hz => (by cases hz), fun y hy => ?_⟩⟩⟩
    cases hy
    have hw0 := hw
    obtain ⟨sc, al, f, w1, -⟩ := hw
    refine ow_n hv1 ⟨_, _, w1, rfl, ?_⟩
    rw [ow_sn] at ih
    by_cases hc : (o_ws O i).1 = v
    · refine ow_nn (by rw [hc]) ⟨⟨_, w1⟩, c_wlinesOf hw0 hW hk ⟨_, rfl, ?_⟩⟩
      rw [nI_1, nI_add]
      rw [if_pos (by simp [hc])] at ih
      exact ih
    · refine ow_yn (fun e => hc ((nI_eq (by omega) hv).mp e)) ?_
      rw [nI_1]
      rw [if_neg (by simp [hc])] at ih
      exact ih
theorem c_slinesAll {k : Nat} (h : ow_RO M s O) (hO : ow_Ok1 O) (hk : k ≤ 4) (q : Qr (some (.int (nI (o_ln O (fun _ => true) k)))) M) : kz_C G (d + 3) 0 0 mX9_linesOf [.ref s, .int (-1), .int (nI k)] M Qr Qx := by
  have hwk := hO.1.2.2.2.1
  refine rX9_linesOf_0 (ow_loop (P := fun i => zX9_linesOf_5 G d Qr Qx s (-1) (nI k) (nI (ow_sn (fun i => if (fun w => true) (o_ws O i).1 then ow_wl k (o_ws O i) else 0) i)) (nI i) M) (o_wk O) ?_ ?_ 0 (Nat.zero_le _))
  · exact rX9_linesOf_5 ⟨_, _, h.1, rfl, ow_y (nI_le (Nat.le_refl _) (by omega)) q⟩
  · intro i hi ih
    have hW := hO.2.2.2 i hi
    refine rX9_linesOf_5 ⟨_, _, h.1, rfl, ow_n (nI_ge hi (by omega)) ⟨h.ob, c_workAtI h hwk hi fun b hw => ⟨_, rfl, fun hz => (by cases hz), fun y hy => ?_⟩⟩⟩
    cases hy
    have hw0 := hw
    obtain ⟨sc, al, f, w1, -⟩ := hw
    refine ow_y rfl ⟨⟨_, w1⟩, c_wlinesOf hw0 hW hk ⟨_, rfl, ?_⟩⟩
    rw [ow_sn] at ih
    rw [nI_1, nI_add]
    exact ih
theorem c_usedBefore {x : Int64} {v e : Nat} (h : ow_RO M s O) (hO : ow_Ok1 O) (hv : v < 2 ^ 31) (he : e ≤ o_wk O) (q : Qr (some (.int (ow_b (ow_ex (fun i => decide ((o_ws O i).1 = v) && decide (0 < ow_tm (o_ws O i).2.2.1.2.2.1 x 0 (o_ws O i).2.2.1.2.1)) e)))) M) : kz_C G (d + 2) 0 0 mX9_usedBefore [.ref s, .long x, .int (nI v), .int (nI e)] M Qr Qx := by
  have hwk := hO.1.2.2.2.1
  refine rX9_usedBefore_0 ?_
  have key : ∀ i, i ≤ e → (∀ j, j < i → (decide ((o_ws O j).1 = v) && decide (0 < ow_tm (o_ws O j).2.2.1.2.2.1 x 0 (o_ws O j).2.2.1.2.1)) = false) → zX9_usedBefore_3 G d Qr Qx s x (nI v) (nI e) (nI i) M := by
    refine ow_loop e ?_ ?_
    · intro hno
      rw [ow_bf (ow_ex_f.mpr hno)] at q
      exact rX9_usedBefore_3 (ow_y (nI_le (Nat.le_refl _) (by omega)) q)
    · intro i hi ih hno
      have hW := hO.2.2.2 i (by omega)
      have hn := hW.1.2.2.1
      have step : (decide ((o_ws O i).1 = v) && decide (0 < ow_tm (o_ws O i).2.2.1.2.2.1 x 0 (o_ws O i).2.2.1.2.1)) = false → zX9_usedBefore_3 G d Qr Qx s x (nI v) (nI e) (nI (i + 1)) M := fun hz => ih fun j hj => by
        rcases Nat.lt_or_ge j i with hji | hji
        · exact hno j hji
        · have : j = i := by omega
          subst this; exact hz
      refine rX9_usedBefore_3 (ow_n (nI_ge hi (by omega)) ⟨h.ob, c_workOf h hO (by omega) hv (fun hc => ⟨_, rfl, fun _ => ?_, fun y hy => (by cases hy)⟩) (fun b hc hw => ⟨_, rfl, fun hz => (by cases hz), fun y hy => ?_⟩)⟩)
      · rw [nI_1]
        exact step (by simp [hc])
      · cases hy
        obtain ⟨sc, al, f, w1, w2, -⟩ := hw
        have hle := ow_tm_le (o_ws O i).2.2.1.2.2.1 x 0 (o_ws O i).2.2.1.2.1
        refine ⟨_, _, w1, rfl, _, _, w1, rfl, w2.ob, c_size w2 ⟨_, rfl, w2.ob, c_times (from' := 0) w2 (Nat.zero_le _) (Nat.le_refl _) (by omega) ⟨_, rfl, pk_le (ow_tm (o_ws O i).2.2.1.2.2.1 x 0 (o_ws O i).2.2.1.2.1) 0 (fun hz => ?_) (fun hz => ?_) rfl rfl⟩⟩⟩
        · rw [nI_1]
          exact step (by simp; omega)
        · rw [ow_bt (ow_ex_iff.mpr ⟨i, hi, by simp [hc]; omega⟩)] at q
          exact q
  exact key 0 (Nat.zero_le _) fun j hj => absurd hj (Nat.not_lt_zero j)
theorem c_finesFor {a : Nat} {w : ow_W} (h : ow_RO M s O) (g : ow_RW M a w) (hw : ow_Wok w) (q : Qr (some (.int (nI (o_ru O 3) * nI (ow_wl 2 w)))) M) : kz_C G (d + 3) 0 0 mX9_finesFor [.ref s, .ref a] M Qr Qx :=
  rX9_finesFor_0 ⟨h.ob, c_rule (i := 3) h (by omega) ⟨_, rfl, g.ob, c_wlinesOf (k := 2) g hw (by omega) ⟨_, rfl, q⟩⟩⟩
def o_late (O : ow_O) (w : ow_W) : Bool := decide (w.2.1 + o_ru O 4 < o_dy O)
theorem c_isTooLateFor {a : Nat} {w : ow_W} (h : ow_RO M s O) (hO : ow_Ok1 O) (g : ow_RW M a w) (hw : ow_Wok w) (q : Qr (some (.int (ow_b (o_late O w)))) M) : kz_C G (d + 2) 0 0 mX9_isTooLateFor [.ref s, .ref a] M Qr Qx := by
  obtain ⟨sc, al, f, w1, -⟩ := g
  have h4 := hO.2.1 4 (by omega)
  have hd := hO.1.1
  have hwd := hw.2.2.2.1
  refine rX9_isTooLateFor_0 ⟨_, _, h.1, rfl, _, _, w1, rfl, h.ob, c_rule (i := 4) h (by omega) ⟨_, rfl, pk_le (o_dy O) (w.2.1 + o_ru O 4) (fun hz => ?_) (fun hz => ?_) rfl (nI_add _ _)⟩⟩
  · rw [ow_bf (by simp [o_late]; omega)] at q; exact q
  · rw [ow_bt (by simp [o_late]; omega)] at q; exact q
def o_lost (O : ow_O) (v : Nat) : Bool := decide (3 ≤ o_ln O (fun w => decide (w = v)) 4)
theorem o_ln_le (hO : ow_Ok1 O) (p : Nat → Bool) (k : Nat) : o_ln O p k ≤ 720 := by
  have := ow_sn_le (n := o_wk O) (b := 60) (f := fun i => if p (o_ws O i).1 then ow_wl k (o_ws O i) else 0) fun i hi => by
    show (if p (o_ws O i).1 then ow_wl k (o_ws O i) else 0) ≤ 60
    split
    · exact ow_wl_le (hO.2.2.2 i hi).2.1
    · omega
  have h2 := hO.1.2.2.2.1
  unfold o_ln
  omega
theorem c_hasLost {v : Nat} (h : ow_RO M s O) (hO : ow_Ok1 O) (hv : v < 2 ^ 31) (q : Qr (some (.int (ow_b (o_lost O v)))) M) : kz_C G (d + 4) 0 0 mX9_hasLostTooMany [.ref s, .int (nI v)] M Qr Qx := by
  have hle := o_ln_le hO (fun w => decide (w = v)) 4
  refine rX9_hasLostTooMany_0 ⟨h.ob, c_slinesOf (k := 4) h hO hv (by omega) ⟨_, rfl, pk_lt (o_ln O (fun w => decide (w = v)) 4) 3 (fun hz => ?_) (fun hz => ?_) rfl rfl⟩⟩
  · rw [ow_bf (by simp only [o_lost, decide_eq_false_iff_not]; omega)] at q; exact q
  · rw [ow_bt (by simp only [o_lost, decide_eq_true_iff]; omega)] at q; exact q
/-- why there can be no appeal -/
def o_obj (O : ow_O) (w : ow_W) (l : ow_L) : Nat := if l.2.2.2.2.2 = 1 then (if o_late O w then 2 else if o_lost O w.1 then 3 else 0) else 1
theorem c_objectionTo {a b : Nat} {w : ow_W} {l : ow_L} {sc : Nat} (h : ow_RO M s O) (hO : ow_Ok1 O) (g : ow_RW M a w) (hw : ow_Wok w) (gl : ow_RL M b sc l) (hl : l.2.2.2.2.2 ≤ 3) (q : Qr (some (.int (nI (o_obj O w l)))) M) : kz_C G (d + 5) 0 0 mX9_objectionTo [.ref s, .ref a, .ref b] M Qr Qx := by
  refine rX9_objectionTo_0 ⟨_, _, gl.1, rfl, pk_eq l.2.2.2.2.2 1 (fun hz => ⟨h.ob, c_isTooLateFor h hO g hw ⟨_, rfl, ow_if0 (fun e => ?_) (fun e => ?_)⟩⟩) (fun hz => ?_) rfl rfl⟩
  · obtain ⟨sc2, al, f, w1, -⟩ := g
    have hw1 := hw.2.2.1
    refine ⟨_, _, w1, rfl, h.ob, c_hasLost h hO (by omega) ⟨_, rfl, ow_if0 (fun e2 => ?_) (fun e2 => ?_)⟩⟩
    · rw [o_obj, if_pos hz, if_neg (by rw [e]; decide), if_neg (by rw [e2]; decide)] at q; exact q
    · rw [o_obj, if_pos hz, if_neg (by rw [e]; decide), if_pos e2] at q; exact q
  · rw [o_obj, if_pos hz, if_pos e] at q; exact q
  · rw [o_obj, if_neg hz] at q; exact q
end OWO
