/-! Part 39h: a script is read -/
def rd_L (c : Nat) : Bool := decide (97 ≤ c) && decide (c ≤ 122)
/-- how many letters stand right ahead of a place -/
def rd_run (b : Nat → Nat) : Nat → Nat
  | 0 => 0
  | i + 1 => if rd_L (b i) then rd_run b i + 1 else 0
/-- how many words begin ahead of a place -/
def rd_wc (b : Nat → Nat) : Nat → Nat
  | 0 => 0
  | i + 1 => rd_wc b i + (if rd_L (b i) && decide (rd_run b i = 0) then 1 else 0)
/-- can the bytes ahead of a place be read? -/
def rd_ok (kd : Nat) (b : Nat → Nat) : Nat → Bool
  | 0 => true
  | i + 1 => rd_ok kd b i && (if rd_L (b i) then decide (rd_run b i + 1 ≤ 12) else (decide (b i = 32) || decide (b i = 10)) || (decide (b i = 47) && decide (kd = 1)))
/-- how many slashes stand ahead of a place -/
def rd_sl (b : Nat → Nat) : Nat → Nat
  | 0 => 0
  | i + 1 => rd_sl b i + (if b i = 47 then 1 else 0)
theorem rd_run_pos (b : Nat → Nat) : ∀ i, 0 < rd_run b i → 0 < rd_wc b i
  | 0, h => absurd h (Nat.lt_irrefl 0)
  | i + 1, h => by
    rw [rd_run] at h
    split at h
    · rename_i hl
      rw [rd_wc]
      by_cases h0 : rd_run b i = 0
      · rw [if_pos (by simp [hl, h0])]; omega
      · have := rd_run_pos b i (by omega); omega
    · omega
/-- the words ahead of a place -/
def rd_w (b : Nat → Nat) : Nat → Nat → Nat
  | 0 => fun _ => 0
  | i + 1 => if rd_L (b i) then (fun j => if j = rd_wc b (i + 1) - 1 then 32 * rd_w b i j + (b i - 96) else rd_w b i j) else rd_w b i
/-- the slashes ahead of each -/
def rd_s (b : Nat → Nat) : Nat → Nat → Nat
  | 0 => fun _ => 0
  | i + 1 => if rd_L (b i) then (fun j => if j = rd_wc b (i + 1) - 1 then rd_sl b i else rd_s b i j) else rd_s b i
theorem rd_s_0 {b : Nat → Nat} : ∀ i j, rd_wc b i ≤ j → rd_s b i j = 0
  | 0, _, _ => rfl
  | i + 1, j, h => by
    have h1 : rd_wc b i ≤ rd_wc b (i + 1) := by rw [rd_wc]; exact Nat.le_add_right _ _
    unfold rd_s
    split
    · rename_i hl
      have h2 : 0 < rd_wc b (i + 1) := by
        rw [rd_wc]
        by_cases h0 : rd_run b i = 0
        · rw [if_pos (by simp [hl, h0])]; omega
        · have : 0 < rd_wc b i := rd_run_pos b i (by omega)
          omega
      show (if j = rd_wc b (i + 1) - 1 then rd_sl b i else rd_s b i j) = 0
      rw [if_neg (by omega)]
      exact rd_s_0 i j (by omega)
    · exact rd_s_0 i j (by omega)
def rd_S (kd : Nat) (b : Nat → Nat) (n : Nat) : ow_S := (kd, rd_wc b n, (fun j => lN (rd_w b n j)), fun j => nI (rd_s b n j))
/-- what can be read -/
def rd_can (kd : Nat) (b : Nat → Nat) (n : Nat) : Bool := rd_ok kd b n && (decide (1 ≤ rd_wc b n) && decide (rd_wc b n ≤ 60))
theorem rd_wc_le (b : Nat → Nat) : ∀ i, rd_wc b i ≤ i
  | 0 => Nat.le_refl _
  | i + 1 => by
    have := rd_wc_le b i
    rw [rd_wc]
    split <;> omega
theorem rd_run_wc (b : Nat → Nat) : ∀ i, 0 < rd_run b i → 0 < rd_wc b i
  | 0, h => absurd h (Nat.lt_irrefl 0)
  | i + 1, h => by
    rw [rd_run] at h
    split at h
    · rename_i hl
      rw [rd_wc]
      by_cases h0 : rd_run b i = 0
      · rw [if_pos (by simp [hl, h0])]; omega
      · have := rd_run_wc b i (by omega); omega
    · omega
theorem rd_ok_le {kd : Nat} {b : Nat → Nat} : ∀ {i j : Nat}, i ≤ j → rd_ok kd b j = true → rd_ok kd b i = true
  | i, 0, h, g => by
    have : i = 0 := by omega
    subst this; exact g
  | i, j + 1, h, g => by
    rcases Nat.lt_or_ge i (j + 1) with h1 | h1
    · rw [rd_ok, Bool.and_eq_true] at g
      exact rd_ok_le (by omega) g.1
    · have : i = j + 1 := by omega
      subst this; exact g
theorem rd_sl_le (b : Nat → Nat) : ∀ i, rd_sl b i ≤ i
  | 0 => Nat.le_refl _
  | i + 1 => by
    have := rd_sl_le b i
    rw [rd_sl]
    split <;> omega
/-- words as they are read: none is empty or too long -/
theorem rd_w_ok {kd : Nat} {b : Nat → Nat} : ∀ i, rd_ok kd b i = true → rd_run b i ≤ 12 ∧ (∀ j, rd_wc b i ≤ j → rd_w b i j = 0) ∧ (∀ j, j < rd_wc b i → 0 < rd_w b i j ∧ rd_w b i j < 2 ^ 60) ∧ (0 < rd_run b i → rd_w b i (rd_wc b i - 1) < 2 ^ (5 * rd_run b i))
  | 0, _ => ⟨Nat.zero_le _, fun _ _ => rfl, fun j hj => absurd hj (Nat.not_lt_zero j), fun h => absurd h (Nat.lt_irrefl 0)⟩
  | i + 1, h => by
    have h' := h
    rw [rd_ok, Bool.and_eq_true] at h
    obtain ⟨i1, i2, i3, i4⟩ := rd_w_ok i h.1
    by_cases hl : rd_L (b i) = true
    · have hr : rd_run b i + 1 ≤ 12 := by
        have := h.2
        rw [if_pos hl] at this
        exact of_decide_eq_true this
      have hbl : 97 ≤ b i ∧ b i ≤ 122 := by
        unfold rd_L at hl
        simpa using hl
      have er : rd_run b (i + 1) = rd_run b i + 1 := by rw [rd_run, if_pos hl]
      have p60 : 2 ^ (5 * (rd_run b i + 1)) ≤ 2 ^ 60 := Nat.pow_le_pow_right (by omega) (by omega)
      have p5 : 2 ^ (5 * (rd_run b i + 1)) = 2 ^ (5 * rd_run b i) * 32 := by rw [show 5 * (rd_run b i + 1) = 5 * rd_run b i + 5 by omega, Nat.pow_add]
      have ew : ∀ j, rd_w b (i + 1) j = if j = rd_wc b (i + 1) - 1 then 32 * rd_w b i j + (b i - 96) else rd_w b i j := fun j => by rw [rd_w, if_pos hl]
      have old : rd_w b i (rd_wc b (i + 1) - 1) < 2 ^ (5 * rd_run b i) ∧ rd_wc b i ≤ rd_wc b (i + 1) ∧ rd_wc b (i + 1) ≤ rd_wc b i + 1 ∧ 0 < rd_wc b (i + 1) := by
        by_cases h0 : rd_run b i = 0
        · have e : rd_wc b (i + 1) = rd_wc b i + 1 := by rw [rd_wc, if_pos (by simp [hl, h0])]
          rw [e, show rd_wc b i + 1 - 1 = rd_wc b i by omega, i2 _ (Nat.le_refl _)]
          exact ⟨Nat.pow_pos (by omega), by omega, by omega, by omega⟩
        · have e : rd_wc b (i + 1) = rd_wc b i := by rw [rd_wc, if_neg (by simp [h0])]; omega
          have := rd_run_wc b i (by omega)
          rw [e]
          exact ⟨i4 (by omega), by omega, by omega, by omega⟩
      obtain ⟨o1, o2, o3, o4⟩ := old
      refine ⟨by omega, fun j hj => ?_, fun j hj => ?_, fun _ => ?_⟩
      · rw [ew, if_neg (by omega)]
        exact i2 j (by omega)
      · rw [ew]
        by_cases hjw : j = rd_wc b (i + 1) - 1
        · rw [if_pos hjw, hjw]
          omega
        · rw [if_neg hjw]
          exact i3 j (by omega)
      · rw [ew, if_pos rfl, er]
        omega
    · have hl2 : rd_L (b i) = false := by simpa using hl
      have er : rd_run b (i + 1) = 0 := by rw [rd_run, if_neg hl]
      have ewc : rd_wc b (i + 1) = rd_wc b i := by rw [rd_wc, if_neg (by simp [hl2])]; omega
      have ew : rd_w b (i + 1) = rd_w b i := by rw [rd_w, if_neg hl]
      rw [er, ewc, ew]
      exact ⟨Nat.zero_le _, i2, i3, fun h => absurd h (Nat.lt_irrefl 0)⟩
theorem rd_S_ok {kd : Nat} {b : Nat → Nat} {n : Nat} (hk : kd ≤ 2) (h : rd_can kd b n = true) : ow_Sok (rd_S kd b n) := by
  rw [rd_can, Bool.and_eq_true, Bool.and_eq_true] at h
  obtain ⟨h1, h2, h3⟩ := h
  refine ⟨hk, of_decide_eq_true h2, of_decide_eq_true h3, fun i hi => ?_⟩
  obtain ⟨h4, h5⟩ := (rd_w_ok n h1).2.2.1 i hi
  exact ⟨_, h4, h5, rfl⟩
theorem rd_L_isl {c : Nat} (h : c < 256) : ow_isl (nI c) = rd_L c := ow_islN c h
section OWD
variable {G : kz_G} {d : Nat} {Qr : Option Value → kz_M → Prop} {Qx : String → kz_M → Prop} {M : kz_M} {n : Nat} {b : Nat → Nat}
theorem c_wordsIn {kd len : Nat} (h : ow_RI M n b) (hl : len ≤ n) (hk : kd ≤ 2) (q : Qr (some (.int (if rd_ok kd b len then nI (rd_wc b len) else -1))) M) : kz_C G (d + 1) 0 0 mX6_wordsIn [.ref 1, .int (nI kd), .int (nI len)] M Qr Qx := by
  have h2 := h.2.1
  refine rX6_wordsIn_0 ?_
  have bad : ∀ i, i ≤ len → rd_ok kd b i = false → Qr (some (.int (-1))) M := fun i hi e => by
    have : rd_ok kd b len = false := by
      cases hh : rd_ok kd b len with
      | false => rfl
      | true => rw [rd_ok_le hi hh] at e; cases e
    rw [this] at q
    exact q
  have key : ∀ i, i ≤ len → rd_ok kd b i = true → zX6_wordsIn_8 G d Qr Qx 1 (nI kd) (nI len) (nI (rd_wc b i)) (nI (rd_run b i)) (nI i) M := by
    refine ow_loop len ?_ ?_
    · intro hok
      rw [if_pos hok] at q
      exact rX6_wordsIn_8 (ow_y (nI_le (Nat.le_refl _) (by omega)) q)
    · intro i hi ih hok
      obtain ⟨f, h3, h4⟩ := h.2.2
      have hb := (h4 i (by omega)).2
      have hs : ow_sg n b i = nI (b i) := if_pos (by omega)
      have hw := rd_wc_le b i
      have hrun := (rd_w_ok i hok).1
      refine rX6_wordsIn_8 (ow_n (nI_ge hi (by omega)) ⟨h.ob, c_signAt h (by omega) ⟨_, rfl, ?_⟩⟩)
      rw [hs]
      refine c_isLetter ⟨_, rfl, ?_⟩
      rw [rd_L_isl hb]
      refine ow_if0 (fun hl => c_isBlank ⟨_, rfl, ?_⟩) (fun hl => ?_)
      · rw [ow_isbN _ hb]
        have er : rd_run b (i + 1) = 0 := by rw [rd_run, hl]; rfl
        have ew : rd_wc b (i + 1) = rd_wc b i := by rw [rd_wc, hl]; rfl
        have eo : rd_ok kd b (i + 1) = ((decide (b i = 32) || decide (b i = 10)) || (decide (b i = 47) && decide (kd = 1))) := by rw [rd_ok, hok, hl]; rfl
        rw [er, ew, eo] at ih
        refine ow_ifn (fun hz => ?_) (fun hz => ⟨fun h47 => bad (i + 1) (by omega) ?_, fun h47 => ⟨fun hk1 => bad (i + 1) (by omega) ?_, fun hk1 => ?_⟩⟩)
        · rw [nI_1]
          exact ih (by rw [hz]; rfl)
        · rw [eo, hz]
          have : ¬ b i = 47 := fun e => h47 (by rw [e]; rfl)
          simp [this]
        · rw [eo, hz]
          have : ¬ kd = 1 := fun e => hk1 (by rw [e]; rfl)
          simp [this]
        · have e47 : b i = 47 := (nI_eq (b := 47) (by omega) (by omega)).mp h47
          have ek : kd = 1 := (nI_eq (b := 1) (by omega) (by omega)).mp hk1
          rw [nI_1]
          exact ih (by rw [hz, e47, ek]; rfl)
      · have er : rd_run b (i + 1) = rd_run b i + 1 := by rw [rd_run, hl]; rfl
        have eo : rd_ok kd b (i + 1) = decide (rd_run b i + 1 ≤ 12) := by rw [rd_ok, hok, hl]; rfl
        rw [er, eo] at ih
        refine ⟨fun hr0 => ?_, fun hr0 => ?_⟩
        · have hr : ¬ rd_run b i = 0 := fun e => hr0 (by rw [e]; rfl)
          have ew : rd_wc b (i + 1) = rd_wc b i := by rw [rd_wc, hl]; simp [hr]
          rw [ew] at ih
          rw [nI_1, nI_1, ow_add0]
          exact pk_le (rd_run b i + 1) 12 (fun hz => ih (decide_eq_true hz)) (fun hz => bad (i + 1) (by omega) (by rw [eo]; simp; omega)) rfl rfl
        · have hr : rd_run b i = 0 := (nI_eq (b := 0) (by omega) (by omega)).mp hr0
          have ew : rd_wc b (i + 1) = rd_wc b i + 1 := by rw [rd_wc, hl]; simp [hr]
          rw [ew] at ih
          rw [nI_1, nI_1, nI_1]
          exact pk_le (rd_run b i + 1) 12 (fun hz => ih (decide_eq_true hz)) (fun hz => bad (i + 1) (by omega) (by rw [eo]; simp; omega)) rfl rfl
  exact key 0 (Nat.zero_le _) rfl
theorem c_addLetter {a aw as sz i c : Nat} {kd : Int32} {fw : Nat → Nat} {fs : Nat → Nat} {x : Nat} (h1 : M.1 a = some (.inl (6, [.int kd, .ref aw, .ref as]))) (h2 : M.1 aw = some (.inr (.long, sz, .inr (.inl fun j => lN (fw j))))) (h3 : M.1 as = some (.inr (.int, sz, .inl fun j => nI (fs j)))) (hi : i < sz) (hsz : sz ≤ 60) (hw : fw i < 2 ^ 55) (hc : rd_L c = true) (q : ∀ M1, ow_Sm (fun k => k = aw ∨ k = as) M M1 → M1.2 = M.2 → M1.1 aw = some (.inr (.long, sz, .inr (.inl fun j => lN (if j = i then 32 * fw j + (c - 96) else fw j)))) → M1.1 as = some (.inr (.int, sz, .inl fun j => nI (if j = i then x else fs j))) → Qr none M1) : kz_C G (d + 1) 0 0 mX6_addLetter [.ref a, .int (nI i), .int (nI c), .int (nI x)] M Qr Qx := by
  have n1 : a ≠ aw := fun e => by rw [e, h2] at h1; cases h1
  have n2 : as ≠ aw := fun e => by rw [e, h2] at h3; cases h3
  have hcc : 97 ≤ c ∧ c ≤ 122 := by unfold rd_L at hc; simpa using hc
  refine rX6_addLetter_0 (ow_n (nI_pos (by omega)) ⟨_, _, h1, rfl, _, _, h2, ow_n (nI_ge hi (by omega)) ⟨_, _, h1, rfl, _, _, h1, rfl, _, _, h2, vp_in_nI hi (by omega), ?_⟩⟩)
  rw [nI_clamp (by omega)]
  refine c_withLetter hw hcc.1 hcc.2 ⟨_, rfl, _, _, h2, vp_in_nI hi (by omega), _, _, (kz_up_ne n1).trans h1, rfl, c_put ((kz_up_ne n2).trans h3) hi (by omega) ⟨rfl, ?_⟩⟩
  refine q _ (((ow_Sm.rfl' _ M).up (Or.inl rfl)).up (Or.inr rfl)) rfl ?_ ?_
  · rw [kz_up_ne n2.symm, kz_up_same]
    have : vp_updL (fun j => lN (fw j)) i (lN (32 * fw i + (c - 96))) = fun j => lN (if j = i then 32 * fw j + (c - 96) else fw j) := by
      funext j
      unfold vp_updL
      by_cases hj : j = i
      · rw [if_pos hj, if_pos hj, hj]
      · rw [if_neg hj, if_neg hj]
    rw [this]
  · rw [kz_up_same]
    have : upd (fun j => nI (fs j)) i (nI x) = fun j => nI (if j = i then x else fs j) := by
      funext j
      unfold upd
      by_cases hj : j = i
      · rw [if_pos hj, if_pos hj]
      · rw [if_neg hj, if_neg hj]
    rw [this]
theorem c_read {kd len mc ms : Nat} (h : ow_RI M n b) (hl : len ≤ n) (hk : kd ≤ 2) (hK : ow_K ≤ M.2) (hmc : 3 ≤ mc) (hms : 123 ≤ ms) (q0 : rd_can kd b len = false → Qr (some (kz_rf none)) M) (q1 : rd_can kd b len = true → ∀ M1 a, ow_Nw (fun _ => False) M M1 → ow_RS M1 a (rd_S kd b len) → Qr (some (kz_rf (some a))) M1) : kz_C G (d + 2) mc ms mX6_read [.ref 1, .int (nI kd), .int (nI len)] M Qr Qx := by
  refine kz_Cfr fun hf => ?_
  have h2 := h.2.1
  have hwle := rd_wc_le b len
  have hKv : ow_K = 99 := rfl
  refine rX6_read_0 (c_wordsIn h hl hk ⟨_, rfl, ?_⟩)
  by_cases hok : rd_ok kd b len = true
  · rw [if_pos hok]
    refine pk_lt (rd_wc b len) 1 (fun hz => q0 (by simp [rd_can]; omega)) (fun hz => pk_le (rd_wc b len) 60 (fun hz2 => ?_) (fun hz2 => q0 (by simp [rd_can]; omega)) rfl rfl) rfl rfl
    have q := q1 (by simp [rd_can, hok]; omega)
    refine ⟨by omega, by omega, _, nI_pos (by omega), rfl, by rw [nI_clamp (by omega)]; omega, by omega, by rw [nI_clamp (by omega)]; omega, _, nI_pos (by omega), rfl, by rw [nI_clamp (by omega)]; omega, by omega, by rw [nI_clamp (by omega)]; omega, ?_⟩
    rw [nI_clamp (by omega)]
    obtain ⟨m, nx⟩ := M
    have e0 : ((kz_nw (kz_nw (kz_nw (m, nx) (.inl (6, [.int 0, .null, .null]))) (.inr (.long, rd_wc b len, .inr (.inl (fun _ => 0))))) (.inr (.int, rd_wc b len, .inl (fun _ => 0))))).1 nx = some (.inl (6, [.int 0, .null, .null])) := (kz_nw_ne (show nx ≠ nx + 1 + 1 by omega)).trans ((kz_nw_ne (show nx ≠ nx + 1 by omega)).trans (kz_nw_same _ _))
    have e1 : ((kz_nw (kz_nw (kz_nw (m, nx) (.inl (6, [.int 0, .null, .null]))) (.inr (.long, rd_wc b len, .inr (.inl (fun _ => 0))))) (.inr (.int, rd_wc b len, .inl (fun _ => 0))))).1 (nx + 1) = some (.inr (.long, rd_wc b len, .inr (.inl fun j => lN (rd_w b 0 j)))) := (kz_nw_ne (show nx + 1 ≠ nx + 1 + 1 by omega)).trans (kz_nw_same (kz_nw (m, nx) (.inl (6, [.int 0, .null, .null]))) _)
    have e2 : ((kz_nw (kz_nw (kz_nw (m, nx) (.inl (6, [.int 0, .null, .null]))) (.inr (.long, rd_wc b len, .inr (.inl (fun _ => 0))))) (.inr (.int, rd_wc b len, .inl (fun _ => 0))))).1 (nx + 1 + 1) = some (.inr (.int, rd_wc b len, .inl fun j => nI (rd_s b 0 j))) := kz_nw_same (kz_nw (kz_nw (m, nx) (.inl (6, [.int 0, .null, .null]))) (.inr (.long, rd_wc b len, .inr (.inl (fun _ => 0))))) _
    have e3 : ow_Nw (fun _ => False) (m, nx) (kz_nw (kz_nw (kz_nw (m, nx) (.inl (6, [.int 0, .null, .null]))) (.inr (.long, rd_wc b len, .inr (.inl (fun _ => 0))))) (.inr (.int, rd_wc b len, .inl (fun _ => 0)))) := ((ow_Nw.nw _ _).trans (ow_Nw.nw _ _)).trans (ow_Nw.nw _ _)
    have e4 : (kz_nw (kz_nw (kz_nw (m, nx) (.inl (6, [.int 0, .null, .null]))) (.inr (.long, rd_wc b len, .inr (.inl (fun _ => 0))))) (.inr (.int, rd_wc b len, .inl (fun _ => 0)))).2 = nx + 3 := rfl
    revert e0 e1 e2 e3 e4
    show _ → _ → _ → _ → _ → kz_C G (d + 1) 0 0 mX6_init [.ref nx, .int (nI kd), .ref (nx + 1), .ref (nx + 1 + 1)] (kz_nw (kz_nw (kz_nw (m, nx) (.inl (6, [.int 0, .null, .null]))) (.inr (.long, rd_wc b len, .inr (.inl (fun _ => 0))))) (.inr (.int, rd_wc b len, .inl (fun _ => 0)))) _ _
    generalize kz_nw (kz_nw (kz_nw (m, nx) (.inl (6, [.int 0, .null, .null]))) (.inr (.long, rd_wc b len, .inr (.inl (fun _ => 0))))) (.inr (.int, rd_wc b len, .inl (fun _ => 0))) = MA
    intro e0 e1 e2 e3 e4
    refine rX6_init_0 ⟨_, e0, ow_l rfl, _, kz_up_same _ _ _, ow_l rfl, _, kz_up_same _ _ _, ow_l rfl, rfl, ?_⟩
    have key : ∀ i, i ≤ len → ∀ M1, ow_Nw (fun _ => False) (m, nx) M1 → M1.2 = nx + 3 → M1.1 nx = some (.inl (6, [.int (nI kd), .ref (nx + 1), .ref (nx + 1 + 1)])) → M1.1 (nx + 1) = some (.inr (.long, rd_wc b len, .inr (.inl fun j => lN (rd_w b i j)))) → M1.1 (nx + 1 + 1) = some (.inr (.int, rd_wc b len, .inl fun j => nI (rd_s b i j))) → ∀ ix, ix = (if 0 < rd_run b i ∧ rd_L (b i) = true then rd_wc b i - 1 else rd_wc b i) ∨ i = len → zX6_read_45 G d mc ms Qr Qx 1 (nI len) nx (nI ix) (nI (rd_sl b i)) (nI i) M1 (0 + 1 + 1 + 1) (0 + 3 + rd_wc b len + rd_wc b len) := by
      refine ow_loop len ?_ ?_
      · intro M1 g1 g2 g3 g4 g5 ix _
        refine rX6_read_45 (by omega) (by omega) (ow_y (nI_le (Nat.le_refl _) (by omega)) (q M1 nx g1 ⟨_, _, g3, g4, g5, hK, by have : ow_K ≤ nx := hK; omega, by have : ow_K ≤ nx := hK; omega, congrArg nI (rd_s_0 len 100000 (by omega))⟩))
      · intro i hi ih M1 g1 g2 g3 g4 g5 ix hix
        have hix : ix = (if 0 < rd_run b i ∧ rd_L (b i) = true then rd_wc b i - 1 else rd_wc b i) := by
          rcases hix with h | h
          · exact h
          · omega
        have hRI : ow_RI M1 n b := h.mv (g1.1 1 (by show 1 < nx; have : ow_K ≤ nx := hK; omega) id) (g1.1 2 (by show 2 < nx; have : ow_K ≤ nx := hK; omega) id)
        have hoki : rd_ok kd b i = true := rd_ok_le (by omega) hok
        obtain ⟨f, h3, h4⟩ := h.2.2
        have hb := (h4 i (by omega)).2
        have hs : ow_sg n b i = nI (b i) := if_pos (by omega)
        have hsl := rd_sl_le b i
        refine rX6_read_45 (by omega) (by omega) (ow_n (nI_ge hi (by omega)) ⟨hRI.ob, c_signAt hRI (by omega) ⟨_, rfl, ?_⟩⟩)
        rw [hs]
        refine c_isLetter ⟨_, rfl, ?_⟩
        rw [rd_L_isl hb]
        refine ow_if0 (fun hL => ?_) (fun hL => ?_)
        · have er : rd_run b (i + 1) = 0 := by rw [rd_run, hL]; rfl
          have ew : rd_wc b (i + 1) = rd_wc b i := by rw [rd_wc, hL]; rfl
          have e1 : rd_w b (i + 1) = rd_w b i := by rw [rd_w, hL]; rfl
          have e2 : rd_s b (i + 1) = rd_s b i := by rw [rd_s, hL]; rfl
          rw [if_neg (by rw [hL]; simp)] at hix
          have nx' : ix = (if 0 < rd_run b (i + 1) ∧ rd_L (b (i + 1)) = true then rd_wc b (i + 1) - 1 else rd_wc b (i + 1)) ∨ i + 1 = len := Or.inl (by rw [if_neg (by omega), ew]; exact hix)
          rw [e1, e2] at ih
          refine ⟨fun h47 => ?_, fun h47 => ?_⟩
          · rw [nI_1]
            have := ih M1 g1 g2 g3 g4 g5 ix nx'
            rw [rd_sl, if_neg (fun e => h47 (by rw [e]; rfl))] at this
            exact this
          · rw [nI_1, nI_1]
            have := ih M1 g1 g2 g3 g4 g5 ix nx'
            rw [rd_sl, if_pos ((nI_eq (b := 47) (by omega) (by omega)).mp h47)] at this
            exact this
        · have er : rd_run b (i + 1) = rd_run b i + 1 := by rw [rd_run, hL]; rfl
          have hrw := rd_run_wc b i
          have ew : rd_wc b (i + 1) - 1 = ix ∧ 0 < rd_wc b (i + 1) := by
            rw [hix, rd_wc, hL]
            by_cases h0 : rd_run b i = 0
            · rw [if_pos (by simp [h0]), if_neg (by omega)]; omega
            · rw [if_neg (by simp [h0]), if_pos ⟨by omega, rfl⟩]
              have := hrw (by omega)
              omega
          have hixw : ix < rd_wc b len := by
            have mono : ∀ j, i + 1 + j ≤ len → rd_wc b (i + 1) ≤ rd_wc b (i + 1 + j) := by
              intro j
              induction j with
              | zero => intro _; exact Nat.le_refl _
              | succ j ihj =>
                intro hj
                have := ihj (by omega)
                have e : rd_wc b (i + 1 + (j + 1)) = rd_wc b (i + 1 + j) + (if rd_L (b (i + 1 + j)) && decide (rd_run b (i + 1 + j) = 0) then 1 else 0) := rfl
                rw [e]
                exact Nat.le_trans this (Nat.le_add_right _ _)
            have := mono (len - (i + 1)) (by omega)
            rw [show i + 1 + (len - (i + 1)) = len by omega] at this
            omega
          have hwo : rd_w b i ix < 2 ^ 55 := by
            obtain ⟨w1, w2, w3, w4⟩ := rd_w_ok i hoki
            have hoki1 : rd_ok kd b (i + 1) = true := rd_ok_le (by omega) hok
            have hr1 := (rd_w_ok (i + 1) hoki1).1
            by_cases h0 : rd_run b i = 0
            · rw [if_neg (by omega)] at hix
              rw [w2 ix (by omega)]
              exact Nat.pow_pos (by omega)
            · rw [if_pos ⟨by omega, hL⟩] at hix
              have := w4 (by omega)
              rw [← hix] at this
              exact Nat.lt_of_lt_of_le this (Nat.pow_le_pow_right (by omega) (by omega))
          refine ⟨⟨_, g3⟩, c_addLetter g3 g4 g5 hixw hz2 hwo hL fun M2 k1 k2 k3 k4 => ⟨rfl, ?_⟩⟩
          have n1 : ∀ k, k < nx → M2.1 k = M1.1 k := fun k hk => k1 k (by omega)
          have hK2 : 99 ≤ nx := hK
          have hRI2 : ow_RI M2 n b := hRI.mv (n1 1 (by omega)) (n1 2 (by omega))
          have hN2 : ow_Nw (fun _ => False) (m, nx) M2 := ⟨fun k hk _ => (n1 k hk).trans (g1.1 k hk id), by rw [k2, g2]; show nx ≤ nx + 3; omega⟩
          have hg3 := (k1 nx (by omega)).trans g3
          refine ⟨hRI2.ob, ?_⟩
          rw [nI_1]
          refine c_signAt hRI2 (by omega) ⟨_, rfl, c_isLetter ⟨_, rfl, ?_⟩⟩
          have e1 : rd_w b (i + 1) = fun j => if j = ix then 32 * rd_w b i j + (b i - 96) else rd_w b i j := by rw [rd_w, if_pos hL, ew.1]
          have e2 : rd_s b (i + 1) = fun j => if j = ix then rd_sl b i else rd_s b i j := by rw [rd_s, if_pos hL, ew.1]
          have e3 : rd_sl b (i + 1) = rd_sl b i := by
            have h47 : ¬ b i = 47 := fun e => by rw [e] at hL; exact absurd hL (by decide)
            rw [rd_sl, if_neg h47, Nat.add_zero]
          have next := fun ix' hx => ih M2 hN2 (k2.trans g2) hg3 (by rw [e1]; exact k3) (by rw [e2]; exact k4) ix' hx
          rw [e3] at next
          by_cases hlast : i + 1 = len
          · refine ⟨fun _ => ?_, fun _ => ?_⟩
            · exact next _ (Or.inr hlast)
            · rw [ow_add0]
              exact next _ (Or.inr hlast)
          · have hb1 := (h4 (i + 1) (by omega)).2
            rw [show ow_sg n b (i + 1) = nI (b (i + 1)) from if_pos (by omega), rd_L_isl hb1]
            refine ow_if0 (fun hL1 => ?_) (fun hL1 => ?_)
            · rw [nI_1]
              exact next _ (Or.inl (by rw [if_neg (by rw [hL1]; simp)]; omega))
            · rw [ow_add0]
              exact next _ (Or.inl (by rw [if_pos ⟨by omega, hL1⟩]; omega))
    have hr2 : (if 0 < rd_run b 0 ∧ rd_L (b 0) = true then rd_wc b 0 - 1 else rd_wc b 0) = 0 := if_neg (fun h => absurd h.1 (Nat.lt_irrefl 0))
    have S : ow_Sm (· = nx) MA (kz_up (kz_up (kz_up MA nx (.inl (6, [.int (nI kd), .null, .null]))) nx (.inl (6, [.int (nI kd), .ref (nx + 1), .null]))) nx (.inl (6, [.int (nI kd), .ref (nx + 1), .ref (nx + 1 + 1)]))) := fun k hk => (kz_up_ne hk).trans ((kz_up_ne hk).trans (kz_up_ne hk))
    exact key 0 (Nat.zero_le _) _ ⟨fun k hk _ => (S k (by have : k < nx := hk; omega)).trans (e3.1 k hk id), by rw [kz_up_2, kz_up_2, kz_up_2, e4]; show nx ≤ nx + 3; omega⟩ e4 (kz_up_same _ _ _) ((S (nx + 1) (by omega)).trans e1) ((S (nx + 1 + 1) (by omega)).trans e2) 0 (Or.inl hr2.symm)
  · rw [if_neg hok]
    refine ow_y (by decide) (q0 (by simp [rd_can, hok]))
end OWD
