/-! Part 34: Work: contracts of what only reads -/
def ow_Wok (w : ow_W) : Prop := ow_Sok w.2.2.1 ∧ w.2.2.2.1 ≤ 60 ∧ w.1 < 6 ∧ w.2.1 ≤ 9999 ∧ ∀ i, i < w.2.2.2.1 → ow_Lok w.2.2.1 (w.2.2.2.2 i)
/-- the first below n -/
def ow_fs (p : Nat → Bool) : Nat → Option Nat
  | 0 => none
  | n + 1 => match ow_fs p n with
    | some i => some i
    | none => if p n then some n else none
theorem ow_fs_none {p : Nat → Bool} : ∀ {n : Nat}, (∀ j, j < n → p j = false) → ow_fs p n = none
  | 0, _ => rfl
  | n + 1, h => by rw [ow_fs, ow_fs_none (fun j hj => h j (by omega)), h n (by omega)]; rfl
theorem ow_fs_some {p : Nat → Bool} {i : Nat} (hp : p i = true) (hn : ∀ j, j < i → p j = false) : ∀ {n : Nat}, i < n → ow_fs p n = some i
  | 0, h => by omega
  | n + 1, h => by
    rcases Nat.lt_or_ge i n with h2 | h2
    · rw [ow_fs, ow_fs_some hp hn h2]
    · have : i = n := by omega
      subst this
      rw [ow_fs, ow_fs_none hn]
      simp [hp]
def ow_oi (o : Option Nat) : Int32 := match o with
  | none => -1
  | some i => nI i
/-- lines of a sort; pay of what counts; lines that could be granted; a like line; lines that stand in another -/
def ow_wl (k : Nat) (w : ow_W) : Nat := ow_cn (fun i => ow_of k (w.2.2.2.2 i)) w.2.2.2.1
def ow_wp (w : ow_W) : Int32 := ow_sm (fun i => if ow_cts (w.2.2.2.2 i) then (w.2.2.2.2 i).2.2.2.1 else 0) w.2.2.2.1
def ow_wc (w : ow_W) (dd : Nat) : Nat := ow_cn (fun i => decide ((w.2.2.2.2 i).2.2.2.2.2 = 1) && decide (dd ≤ ow_df w.2.2.1.2.2.1 (w.2.2.2.2 i).1 (w.2.2.2.2 i).2.1)) w.2.2.2.1
def ow_wf (w : ow_W) (t : ow_S) (o : ow_L) : Option Nat := ow_fs (fun i => ow_lk w.2.2.1 (w.2.2.2.2 i) t o) w.2.2.2.1
def ow_ws (w v : ow_W) : Nat := ow_cn (fun i => (ow_wf v w.2.2.1 (w.2.2.2.2 i)).isSome) w.2.2.2.1
theorem ow_df_le (w : Nat → Int64) (a b : Nat) : ow_df w a b ≤ b := ow_cn_le _ _
theorem ow_add0 (n : Nat) : nI n + 0 = nI n := nI_add n 0
section OWW
variable {G : kz_G} {d : Nat} {Qr : Option Value → kz_M → Prop} {Qx : String → kz_M → Prop} {M : kz_M}
theorem c_wsize {a : Nat} {w : ow_W} (h : ow_RW M a w) (q : Qr (some (.int (nI w.2.2.2.1))) M) : kz_C G d 0 0 mX10_size [.ref a] M Qr Qx := by
  obtain ⟨sc, al, f, h1, h2, h3, -⟩ := h
  exact rX10_size_0 ⟨_, _, h1, rfl, _, _, h3, q⟩
theorem c_lineAt {a : Nat} {x : Int32} {w : ow_W} (h : ow_RW M a w) (hm : w.2.2.2.1 ≤ 60) (qn : (∀ j, j < w.2.2.2.1 → x ≠ nI j) → Qr (some (kz_rf none)) M) (qs : ∀ j b sc, j < w.2.2.2.1 → x = nI j → ow_RL M b sc (w.2.2.2.2 j) → ow_RS M sc w.2.2.1 → Qr (some (kz_rf (some b))) M) : kz_C G d 0 0 mX10_lineAt [.ref a, .int x] M Qr Qx := by
  obtain ⟨sc, al, f, h1, h2, h3, h4, h5, h6⟩ := h
  rcases pk_ix x (n := w.2.2.2.1) (by omega) with hx | hx | ⟨j, hj, rfl⟩
  · exact rX10_lineAt_0 (ow_y hx (qn fun j hj e => nI_pos (n := j) (by omega) (e ▸ hx)))
  · refine rX10_lineAt_0 ⟨fun hz => qn fun j hj e => ?_, fun hz => ⟨_, _, h1, rfl, _, _, h3, ow_y hx (qn fun j hj e => ?_)⟩⟩
    · exact nI_pos (n := j) (by omega) (e ▸ hz)
    · rw [e] at hx
      exact nI_ge hj (by omega) hx
  · obtain ⟨b, hb, hl⟩ := h6 j hj
    refine rX10_lineAt_0 (ow_n (nI_pos (by omega)) ⟨_, _, h1, rfl, _, _, h3, ow_n (nI_ge hj (by omega)) ⟨_, _, h1, rfl, _, _, h3, vp_in_nI hj (by omega), fun o ho => ?_⟩⟩)
    rw [nI_clamp (by omega), hb] at ho
    subst ho
    exact qs j b sc hj rfl hl h2
theorem c_wlinesOf {a k : Nat} {w : ow_W} (h : ow_RW M a w) (hw : ow_Wok w) (hk : k ≤ 4) (q : Qr (some (.int (nI (ow_wl k w)))) M) : kz_C G (d + 2) 0 0 mX10_linesOf [.ref a, .int (nI k)] M Qr Qx := by
  obtain ⟨sc, al, f, h1, h2, h3, h4, h5, h6⟩ := h
  have hm := hw.2.1
  refine rX10_linesOf_0 ⟨_, _, h1, rfl, _, _, h3, ow_loop (P := fun i => zX10_linesOf_14 G d Qr Qx (nI k) (nI (ow_cn (fun i => ow_of k (w.2.2.2.2 i)) i)) al (nI w.2.2.2.1) (nI i) M) w.2.2.2.1 ?_ ?_ 0 (Nat.zero_le _)⟩
  · exact rX10_linesOf_14 (ow_y (nI_le (Nat.le_refl _) (by omega)) q)
  · intro i hi ih
    obtain ⟨b, hb, hl⟩ := h6 i hi
    have ho := hw.2.2.2.2 i hi
    refine rX10_linesOf_14 (ow_n (nI_ge hi (by omega)) ⟨_, _, h3, vp_in_nI hi (by omega), fun o hoo => ?_⟩)
    rw [nI_clamp (by omega), hb] at hoo
    subst hoo
    refine ⟨fun h => (by cases h), fun y hy => ?_⟩
    cases hy
    refine ⟨⟨_, hl.1⟩, c_isOf hl ho.2.2.2 ho.2.2.1 hk ⟨_, rfl, ow_if0 (fun e => ?_) (fun e => ?_)⟩⟩
    · rw [nI_1, ow_add0]
      rw [show ow_cn (fun i => ow_of k (w.2.2.2.2 i)) (i + 1) = ow_cn (fun i => ow_of k (w.2.2.2.2 i)) i from ow_cn_f e] at ih
      exact ih
    · rw [nI_1, nI_1]
      rw [show ow_cn (fun i => ow_of k (w.2.2.2.2 i)) (i + 1) = ow_cn (fun i => ow_of k (w.2.2.2.2 i)) i + 1 from ow_cn_t e] at ih
      exact ih
theorem c_payOfCounting {a : Nat} {w : ow_W} (h : ow_RW M a w) (hw : ow_Wok w) (q : Qr (some (.int (ow_wp w))) M) : kz_C G (d + 1) 0 0 mX10_payOfCounting [.ref a] M Qr Qx := by
  obtain ⟨sc, al, f, h1, h2, h3, h4, h5, h6⟩ := h
  have hm := hw.2.1
  refine rX10_payOfCounting_0 ⟨_, _, h1, rfl, _, _, h3, ow_loop (P := fun i => zX10_payOfCounting_13 G d Qr Qx (ow_sm (fun i => if ow_cts (w.2.2.2.2 i) then (w.2.2.2.2 i).2.2.2.1 else 0) i) al (nI w.2.2.2.1) (nI i) M) w.2.2.2.1 ?_ ?_ 0 (Nat.zero_le _)⟩
  · exact rX10_payOfCounting_13 (ow_y (nI_le (Nat.le_refl _) (by omega)) q)
  · intro i hi ih
    obtain ⟨b, hb, hl⟩ := h6 i hi
    have ho := hw.2.2.2.2 i hi
    refine rX10_payOfCounting_13 (ow_n (nI_ge hi (by omega)) ⟨_, _, h3, vp_in_nI hi (by omega), fun o hoo => ?_⟩)
    rw [nI_clamp (by omega), hb] at hoo
    subst hoo
    refine ⟨fun h => (by cases h), fun y hy => ?_⟩
    cases hy
    rw [ow_sm] at ih
    refine ⟨⟨_, hl.1⟩, c_counts hl ho.2.2.2 ⟨_, rfl, ow_if0 (fun e => ?_) (fun e => ?_)⟩⟩
    · rw [nI_1]
      rw [if_neg (by rw [e]; decide)] at ih
      exact ih
    · rw [if_pos e] at ih
      rw [nI_1]
      exact ⟨_, _, hl.1, rfl, ih⟩
theorem ow_wf_lt {w : ow_W} {t : ow_S} {o : ow_L} {i : Nat} (h : ow_wf w t o = some i) : i < w.2.2.2.1 := by
  unfold ow_wf at h
  have : ∀ (p : Nat → Bool) n i, ow_fs p n = some i → i < n := by
    intro p n
    induction n with
    | zero => intro i h; cases h
    | succ n ih =>
      intro i h
      rw [ow_fs] at h
      cases hf : ow_fs p n with
      | some k =>
        rw [hf] at h
        cases h
        have := ih _ hf; omega
      | none =>
        rw [hf] at h
        by_cases hp : p n = true
        · simp [hp] at h; omega
        · simp [hp] at h
  exact this _ _ _ h
end OWW
