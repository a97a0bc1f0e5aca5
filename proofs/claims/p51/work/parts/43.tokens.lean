/-! Part 43: SetupReader: its tokens -/
/-- on from a place while p holds -/
def sp_skip (p : Nat → Bool) (n : Nat) : Nat → Nat → Nat
  | 0, i => i
  | f + 1, i => if i < n ∧ p i = true then sp_skip p n f (i + 1) else i
def sp_end (p : Nat → Bool) (n i : Nat) : Nat := sp_skip p n (n - i) i
theorem sp_end_y {p : Nat → Bool} {n i : Nat} (h : i < n) (hp : p i = true) : sp_end p n i = sp_end p n (i + 1) := by
  unfold sp_end
  rw [show n - i = (n - (i + 1)) + 1 by omega, sp_skip, if_pos ⟨h, hp⟩]
theorem sp_end_n {p : Nat → Bool} {n i : Nat} (h : i < n → p i = false) : sp_end p n i = i := by
  unfold sp_end
  cases hn : n - i with
  | zero => rfl
  | succ f =>
    rw [sp_skip, if_neg]
    rintro ⟨h1, h2⟩
    rw [h h1] at h2; cases h2
theorem sp_skip_ge (p : Nat → Bool) (n : Nat) : ∀ f i, i ≤ sp_skip p n f i
  | 0, _ => Nat.le_refl _
  | f + 1, i => by
    rw [sp_skip]
    split
    · have := sp_skip_ge p n f (i + 1); omega
    · exact Nat.le_refl _
theorem sp_end_ge (p : Nat → Bool) (n i : Nat) : i ≤ sp_end p n i := sp_skip_ge p n _ i
theorem sp_skip_le (p : Nat → Bool) (n : Nat) : ∀ f i, i ≤ n → sp_skip p n f i ≤ n
  | 0, _, h => h
  | f + 1, i, h => by
    rw [sp_skip]
    split
    · exact sp_skip_le p n f (i + 1) (by omega)
    · exact h
theorem sp_end_le {p : Nat → Bool} {n i : Nat} (h : i ≤ n) : sp_end p n i ≤ n := sp_skip_le p n _ i h
theorem sp_skip_all (p : Nat → Bool) (n : Nat) : ∀ f i j, i ≤ j → j < sp_skip p n f i → p j = true
  | 0, i, j, h1, h2 => by rw [sp_skip] at h2; omega
  | f + 1, i, j, h1, h2 => by
    rw [sp_skip] at h2
    split at h2
    · rename_i hc
      by_cases hj : j = i
      · rw [hj]; exact hc.2
      · exact sp_skip_all p n f (i + 1) j (by omega) h2
    · omega
theorem sp_end_all {p : Nat → Bool} {n i j : Nat} (h1 : i ≤ j) (h2 : j < sp_end p n i) : p j = true := sp_skip_all p n _ i j h1 h2
def sp_bl (b : Nat → Nat) (k : Nat) : Bool := decide (b k = 32) || decide (b k = 10)
def sp_le (b : Nat → Nat) (k : Nat) : Bool := rd_L (b k)
def sp_dg (b : Nat → Nat) (k : Nat) : Bool := decide (48 ≤ b k) && decide (b k ≤ 57)
/-- where the token begins that comes behind a place -/
def sp_st (n : Nat) (b : Nat → Nat) (i : Nat) : Nat := sp_end (sp_bl b) n i
/-- where the token ends that begins at a place -/
def sp_e0 (n : Nat) (b : Nat → Nat) (s : Nat) : Nat := if s < n then (if sp_le b s then sp_end (sp_le b) n s else if sp_dg b s then sp_end (sp_dg b) n s else s + 1) else s
def sp_k0 (n : Nat) (b : Nat → Nat) (s : Nat) : Nat := if s < n then (if sp_le b s then 1 else if sp_dg b s then (if sp_end (sp_dg b) n s - s ≤ 5 then 2 else 4) else if b s = 59 then 3 else 4) else 0
def sp_en (n : Nat) (b : Nat → Nat) (i : Nat) : Nat := sp_e0 n b (sp_st n b i)
def sp_tk (n : Nat) (b : Nat → Nat) (i : Nat) : Nat := sp_k0 n b (sp_st n b i)
def sp_w0 (n : Nat) (b : Nat → Nat) (s : Nat) : Nat := if sp_end (sp_le b) n s - s ≤ 12 then ow_nm (fun k => b (s + k)) 0 (sp_end (sp_le b) n s - s) else 0
def sp_wd (n : Nat) (b : Nat → Nat) (i : Nat) : Nat := sp_w0 n b (sp_st n b i)
def sp_nv (b : Nat → Nat) (s : Nat) : Nat → Nat
  | 0 => 0
  | k + 1 => 10 * sp_nv b s k + (b (s + k) - 48)
def sp_v0 (n : Nat) (b : Nat → Nat) (s : Nat) : Nat := sp_nv b s (sp_end (sp_dg b) n s - s)
def sp_vl (n : Nat) (b : Nat → Nat) (i : Nat) : Nat := sp_v0 n b (sp_st n b i)
theorem sp_nv_lt {b : Nat → Nat} {s : Nat} : ∀ {k : Nat}, (∀ i, i < k → b (s + i) ≤ 57) → sp_nv b s k < 10 ^ k
  | 0, _ => Nat.one_pos
  | k + 1, h => by
    have h1 := sp_nv_lt (b := b) (s := s) (k := k) fun i hi => h i (by omega)
    have h2 := h k (by omega)
    rw [sp_nv, Nat.pow_succ]
    omega
theorem sp_w0_lt {n : Nat} {b : Nat → Nat} (s : Nat) : sp_w0 n b s < 2 ^ 60 := by
  unfold sp_w0
  split
  · rename_i h
    refine Nat.lt_of_lt_of_le (ow_nm_lt fun i hi => ?_) (Nat.pow_le_pow_right (by omega) (show 5 * (sp_end (sp_le b) n s - s) ≤ 60 by omega))
    have := sp_end_all (p := sp_le b) (n := n) (i := s) (j := s + i) (by omega) (by omega)
    unfold sp_le rd_L at this
    simp at this
    exact this.2
  · exact Nat.pow_pos (by omega)
/-- the reader -/
def ow_R8 (M : kz_M) (tk st en : Nat) (w : Int64) (v er ea : Int32) : Prop := M.1 87 = some (.inl (7, [.ref 88, .ref 96, .int (nI tk), .int (nI st), .int (nI en), .long w, .int v, .int er, .int ea]))
section OWZ
variable {G : kz_G} {d : Nat} {Qr : Option Value → kz_M → Prop} {Qx : String → kz_M → Prop} {M : kz_M} {n : Nat} {b : Nat → Nat} {tk st en : Nat} {w : Int64} {v er ea : Int32}
theorem ow_R8.ob (h : ow_R8 M tk st en w v er ea) : ∃ fs, M.1 87 = some (.inl (7, fs)) := ⟨_, h⟩
theorem ow_RI.s87 {M1 : kz_M} (h : ow_RI M n b) (g : ow_Sm (· = 87) M M1) : ow_RI M1 n b := h.mv (g 1 (by omega)) (g 2 (by omega))
theorem ow_RI.lt (h : ow_RI M n b) : ∀ i, i < n → b i < 256 := by
  obtain ⟨h1, h2, f, h3, h4⟩ := h
  exact fun i hi => (h4 i hi).2
theorem c_fail {c : Nat} (h : ow_R8 M tk st en w v er ea) (q : ∀ M1, ow_Sm (· = 87) M M1 → M1.2 = M.2 → ow_R8 M1 tk st en w v (nI c) (nI st) → Qr (some (.int 0)) M1) : kz_C G d 0 0 mX8_fail [.ref 87, .int (nI c)] M Qr Qx := by
  refine rX8_fail_0 ⟨_, h, ow_l rfl, _, _, kz_up_same _ _ _, rfl, _, kz_up_same _ _ _, ow_l rfl, ?_⟩
  refine q _ (fun k hk => ?_) rfl (kz_up_same _ _ _)
  rw [kz_up_ne hk, kz_up_ne hk]
theorem c_takeWord (hI : ow_RI M n b) (h : ow_R8 M tk st en w v er ea) (hs : st < n) (hL : sp_le b st = true) (q : ∀ M1, ow_Sm (· = 87) M M1 → M1.2 = M.2 → ow_R8 M1 1 st (sp_end (sp_le b) n st) (lN (sp_w0 n b st)) v er ea → Qr none M1) : kz_C G (d + 1) 0 0 mX8_takeWord [.ref 87, .ref 1] M Qr Qx := by
  have hn := hI.2.1
  refine rX8_takeWord_0 ⟨_, _, h, rfl, _, h, ow_l rfl, _, kz_up_same _ _ _, ow_l rfl, ?_⟩
  have fin : ∀ M1 w1, ow_Sm (· = 87) M M1 → M1.2 = M.2 → ow_R8 M1 tk st (sp_end (sp_le b) n st) w1 v er ea → (sp_end (sp_le b) n st - st ≤ 12 → w1 = lN (ow_nm (fun k => b (st + k)) 0 (sp_end (sp_le b) n st - st))) → zX8_takeWord_70 G d Qr Qx 87 M1 := by
    intro M1 w1 g1 g2 g3 g4
    have hge := sp_end_ge (sp_le b) n st
    have hle := sp_end_le (p := sp_le b) (n := n) (i := st) (by omega)
    refine rX8_takeWord_70 ⟨_, _, g3, rfl, _, _, g3, rfl, ?_⟩
    rw [pk_sub hge]
    refine pk_le (sp_end (sp_le b) n st - st) 12 (fun hz => ⟨_, _, g3, rfl, _, g3, ow_l rfl, _, kz_up_same _ _ _, ow_l rfl, q _ (fun k hk => ?_) g2 ?_⟩) (fun hz => ⟨_, g3, ow_l rfl, _, kz_up_same _ _ _, ow_l rfl, q _ (fun k hk => ?_) g2 ?_⟩) rfl rfl
    · rw [kz_up_ne hk, kz_up_ne hk]; exact g1 k hk
    · rw [sp_w0, if_pos hz, ← g4 hz]
      exact kz_up_same _ _ _
    · rw [kz_up_ne hk, kz_up_ne hk]; exact g1 k hk
    · rw [sp_w0, if_neg (by omega)]
      exact kz_up_same _ _ _
  have key : ∀ f i, n ≤ i + f → st ≤ i → i ≤ n → sp_end (sp_le b) n i = sp_end (sp_le b) n st → ∀ M1 w1, ow_Sm (· = 87) M M1 → M1.2 = M.2 → ow_R8 M1 tk st i w1 v er ea → (i - st ≤ 12 → w1 = lN (ow_nm (fun k => b (st + k)) 0 (i - st))) → zX8_takeWord_13 G d Qr Qx 87 1 M1 := by
    intro f
    induction f with
    | zero =>
      intro i hf hsi hin he M1 w1 g1 g2 g3 g4
      have hI1 := hI.s87 g1
      have hi : sp_end (sp_le b) n i = i := sp_end_n fun z => by omega
      rw [hi] at he
      refine rX8_takeWord_13 ⟨_, _, g3, rfl, _, _, hI1.1, rfl, ow_y (nI_le (by omega) (by omega)) (fin M1 w1 g1 g2 (he ▸ g3) (he ▸ g4))⟩
    | succ f ih =>
      intro i hf hsi hin he M1 w1 g1 g2 g3 g4
      have hI1 := hI.s87 g1
      refine rX8_takeWord_13 ⟨_, _, g3, rfl, _, _, hI1.1, rfl, pk_le n i (fun hz => ?_) (fun hz => ⟨_, _, g3, rfl, hI1.ob, c_signAt hI1 (by omega) ⟨_, rfl, ?_⟩⟩) rfl rfl⟩
      · have hi : sp_end (sp_le b) n i = i := sp_end_n fun z => by omega
        rw [hi] at he
        exact fin M1 w1 g1 g2 (he ▸ g3) (he ▸ g4)
      · have hsg : ow_sg n b i = nI (b i) := if_pos hz
        rw [hsg]
        refine c_isLetter ⟨_, rfl, ?_⟩
        rw [rd_L_isl (hI.lt i hz)]
        refine ow_if0 (fun hl => ?_) (fun hl => ?_)
        · have hi : sp_end (sp_le b) n i = i := sp_end_n fun z => hl
          rw [hi] at he
          exact fin M1 w1 g1 g2 (he ▸ g3) (he ▸ g4)
        · refine ⟨_, _, g3, rfl, _, _, g3, rfl, hI1.ob, c_signAt hI1 (by omega) ⟨_, rfl, ?_⟩⟩
          rw [hsg]
          have hcc : 97 ≤ b i ∧ b i ≤ 122 := by unfold rd_L at hl; simpa using hl
          have hst : sp_end (sp_le b) n (i + 1) = sp_end (sp_le b) n st := by rw [← he]; exact (sp_end_y hz hl).symm
          have go : ∀ r, (i + 1 - st ≤ 12 → r = lN (ow_nm (fun k => b (st + k)) 0 (i + 1 - st))) → ∀ M2, M2 = M1 → ∃ r21 : Int64, some (Value.long r) = some (.long r21) ∧ (∃ fs23, (M2).1 87 = some (.inl (7, fs23)) ∧ 5 < fs23.length ∧ (∃ fs24 v25, ((kz_up M2 87 (.inl (7, fs23.set 5 (.long r21))))).1 87 = some (.inl (7, fs24)) ∧ fs24[4]? = some (.int v25) ∧ (∃ fs26, ((kz_up M2 87 (.inl (7, fs23.set 5 (.long r21))))).1 87 = some (.inl (7, fs26)) ∧ 4 < fs26.length ∧ (zX8_takeWord_13 G d Qr Qx 87 1 (kz_up (kz_up M2 87 (.inl (7, fs23.set 5 (.long r21)))) 87 (.inl (7, fs26.set 4 (.int (v25 + 1))))))))) := by
            intro r hr M2 e2
            subst e2
            refine ⟨r, rfl, _, g3, ow_l rfl, _, _, kz_up_same _ _ _, rfl, _, kz_up_same _ _ _, ow_l rfl, ?_⟩
            refine ih (i + 1) (by omega) (by omega) (by omega) hst _ r (fun k hk => ?_) g2 ?_ hr
            · rw [kz_up_ne hk, kz_up_ne hk]; exact g1 k hk
            · have : nI i + 1 = nI (i + 1) := nI_1 i
              show (kz_up _ _ _).1 87 = _
              rw [kz_up_same, this]
              rfl
          by_cases h12 : i - st ≤ 12
          · have hw1 := g4 h12
            by_cases h11 : i - st ≤ 11
            · rw [hw1]
              have hlt := ow_nm_lt (b := fun k => b (st + k)) (k := i - st) fun j hj => by
                have := sp_end_all (p := sp_le b) (n := n) (i := st) (j := st + j) (by omega) (by have := sp_end_ge (sp_le b) n (i + 1); omega)
                unfold sp_le rd_L at this
                simp at this
                exact this.2
              have h55 : ow_nm (fun k => b (st + k)) 0 (i - st) < 2 ^ 55 := Nat.lt_of_lt_of_le hlt (Nat.pow_le_pow_right (by omega) (by omega))
              refine c_withLetter h55 hcc.1 hcc.2 (go _ (fun _ => ?_) M1 rfl)
              rw [show i + 1 - st = (i - st) + 1 by omega, ow_nm, show st + (i - st) = i by omega]
            · exact rX11_withLetter_0 (go _ (fun z => by omega) M1 rfl)
          · exact rX11_withLetter_0 (go _ (fun z => by omega) M1 rfl)
  refine key (n - st) st (by omega) (Nat.le_refl _) (by omega) rfl _ 0 (fun k hk => ?_) rfl (kz_up_same _ _ _) (fun _ => ?_)
  · rw [kz_up_ne hk, kz_up_ne hk]
  · rw [Nat.sub_self]; rfl
theorem c_takeNumber (hI : ow_RI M n b) (h : ow_R8 M tk st en w v er ea) (hs : st < n) (q : ∀ M1 v1, ow_Sm (· = 87) M M1 → M1.2 = M.2 → ow_R8 M1 (if sp_end (sp_dg b) n st - st ≤ 5 then 2 else 4) st (sp_end (sp_dg b) n st) w v1 er ea → (sp_end (sp_dg b) n st - st ≤ 5 → v1 = nI (sp_v0 n b st)) → Qr none M1) : kz_C G (d + 1) 0 0 mX8_takeNumber [.ref 87, .ref 1] M Qr Qx := by
  have hn := hI.2.1
  refine rX8_takeNumber_0 ⟨_, _, h, rfl, _, h, ow_l rfl, _, kz_up_same _ _ _, ow_l rfl, ?_⟩
  have fin : ∀ M1 v1, ow_Sm (· = 87) M M1 → M1.2 = M.2 → ow_R8 M1 tk st (sp_end (sp_dg b) n st) w v1 er ea → (sp_end (sp_dg b) n st - st ≤ 5 → v1 = nI (sp_nv b st (sp_end (sp_dg b) n st - st))) → zX8_takeNumber_74 G d Qr Qx 87 M1 := by
    intro M1 v1 g1 g2 g3 g4
    have hge := sp_end_ge (sp_dg b) n st
    have hle := sp_end_le (p := sp_dg b) (n := n) (i := st) (by omega)
    refine rX8_takeNumber_74 ⟨_, _, g3, rfl, _, _, g3, rfl, ?_⟩
    rw [pk_sub hge]
    refine pk_le (sp_end (sp_dg b) n st - st) 5 (fun hz => ⟨_, g3, ow_l rfl, ?_⟩) (fun hz => ⟨_, g3, ow_l rfl, ?_⟩) rfl rfl
    · rw [if_pos hz] at q
      exact q _ v1 (fun k hk => (kz_up_ne hk).trans (g1 k hk)) g2 (kz_up_same _ _ _) g4
    · rw [if_neg (by omega)] at q
      exact q _ v1 (fun k hk => (kz_up_ne hk).trans (g1 k hk)) g2 (kz_up_same _ _ _) g4
  have key : ∀ f i, n ≤ i + f → st ≤ i → i ≤ n → sp_end (sp_dg b) n i = sp_end (sp_dg b) n st → ∀ M1 v1, ow_Sm (· = 87) M M1 → M1.2 = M.2 → ow_R8 M1 tk st i w v1 er ea → (i - st ≤ 5 → v1 = nI (sp_nv b st (i - st))) → zX8_takeNumber_13 G d Qr Qx 87 1 M1 := by
    intro f
    induction f with
    | zero =>
      intro i hf hsi hin he M1 v1 g1 g2 g3 g4
      have hI1 := hI.s87 g1
      have hi : sp_end (sp_dg b) n i = i := sp_end_n fun z => by omega
      rw [hi] at he
      refine rX8_takeNumber_13 ⟨_, _, g3, rfl, _, _, hI1.1, rfl, ow_y (nI_le (by omega) (by omega)) (fin M1 v1 g1 g2 (he ▸ g3) (he ▸ g4))⟩
    | succ f ih =>
      intro i hf hsi hin he M1 v1 g1 g2 g3 g4
      have hI1 := hI.s87 g1
      refine rX8_takeNumber_13 ⟨_, _, g3, rfl, _, _, hI1.1, rfl, pk_le n i (fun hz => ?_) (fun hz => ⟨_, _, g3, rfl, hI1.ob, c_signAt hI1 (by omega) ⟨_, rfl, ?_⟩⟩) rfl rfl⟩
      · have hi : sp_end (sp_dg b) n i = i := sp_end_n fun z => by omega
        rw [hi] at he
        exact fin M1 v1 g1 g2 (he ▸ g3) (he ▸ g4)
      · have hsg : ow_sg n b i = nI (b i) := if_pos hz
        rw [hsg]
        refine c_isDigit ⟨_, rfl, ?_⟩
        rw [ow_isdN _ (hI.lt i hz)]
        refine ow_if0 (fun hl => ?_) (fun hl => ?_)
        · have hi : sp_end (sp_dg b) n i = i := sp_end_n fun z => hl
          rw [hi] at he
          exact fin M1 v1 g1 g2 (he ▸ g3) (he ▸ g4)
        · refine ⟨_, _, g3, rfl, _, _, g3, rfl, hI1.ob, c_signAt hI1 (by omega) ⟨_, rfl, ?_⟩⟩
          rw [hsg]
          have hcc : 48 ≤ b i ∧ b i ≤ 57 := by simpa using hl
          have hst : sp_end (sp_dg b) n (i + 1) = sp_end (sp_dg b) n st := by rw [← he]; exact (sp_end_y hz hl).symm
          refine ⟨_, g3, ow_l rfl, _, _, kz_up_same _ _ _, rfl, _, kz_up_same _ _ _, ow_l rfl, ?_⟩
          refine ih (i + 1) (by omega) (by omega) (by omega) hst _ (((10 * v1) + nI (b i)) - 48) (fun k hk => ?_) g2 ?_ (fun h5 => ?_)
          · rw [kz_up_ne hk, kz_up_ne hk]; exact g1 k hk
          · have : nI i + 1 = nI (i + 1) := nI_1 i
            show (kz_up _ _ _).1 87 = _
            rw [kz_up_same, this]
            rfl
          · rw [g4 (by omega), show (10 : Int32) * nI (sp_nv b st (i - st)) = nI (10 * sp_nv b st (i - st)) from pk_mul 10 _, nI_add, show nI (10 * sp_nv b st (i - st) + b i) - 48 = nI (10 * sp_nv b st (i - st) + b i - 48) from pk_sub (b := 48) (by omega), show i + 1 - st = (i - st) + 1 by omega, sp_nv, show st + (i - st) = i by omega, show 10 * sp_nv b st (i - st) + b i - 48 = 10 * sp_nv b st (i - st) + (b i - 48) by omega]
  refine key (n - st) st (by omega) (Nat.le_refl _) (by omega) rfl _ 0 (fun k hk => ?_) rfl (kz_up_same _ _ _) (fun _ => ?_)
  · rw [kz_up_ne hk, kz_up_ne hk]
  · rw [Nat.sub_self]; rfl
theorem c_next (hI : ow_RI M n b) (h : ow_R8 M tk st en w v er ea) (hs : en ≤ n) (q : ∀ M1 w1 v1, ow_Sm (· = 87) M M1 → M1.2 = M.2 → ow_R8 M1 (sp_tk n b en) (sp_st n b en) (sp_en n b en) w1 v1 er ea → (sp_tk n b en = 1 → w1 = lN (sp_wd n b en)) → (sp_tk n b en = 2 → v1 = nI (sp_vl n b en)) → Qr none M1) : kz_C G (d + 2) 0 0 mX8_next [.ref 87, .ref 1] M Qr Qx := by
  have hn := hI.2.1
  refine rX8_next_0 ⟨_, _, h, rfl, _, h, ow_l rfl, ?_⟩
  have hle := sp_end_le (p := sp_bl b) (n := n) (i := en) hs
  have fin : ∀ M1, ow_Sm (· = 87) M M1 → M1.2 = M.2 → ow_R8 M1 tk (sp_st n b en) en w v er ea → zX8_next_46 G d Qr Qx 87 1 M1 := by
    intro M1 g1 g2 g3
    have hI1 := hI.s87 g1
    have tail : ∀ t, sp_tk n b en = t → t ≠ 1 → t ≠ 2 → ∀ x : Int32, (x = -1 → sp_en n b en = sp_st n b en) → (¬ x = -1 → sp_en n b en = sp_st n b en + 1) → zX8_next_106 G d Qr Qx 87 x (nI t) 87 M1 := by
      intro t ht h1 h2 x hx hx2
      refine rX8_next_106 ⟨_, g3, ow_l rfl, fun hne => ⟨_, _, kz_up_same _ _ _, rfl, _, kz_up_same _ _ _, ow_l rfl, ?_⟩, fun he => ⟨_, _, kz_up_same _ _ _, rfl, _, kz_up_same _ _ _, ow_l rfl, ?_⟩⟩
      · rw [nI_1]
        refine q _ w v (fun k hk => ?_) g2 ?_ (fun z => absurd (ht.symm.trans z) h1) (fun z => absurd (ht.symm.trans z) h2)
        · rw [kz_up_ne hk, kz_up_ne hk]; exact g1 k hk
        · rw [ht, hx2 hne]
          exact kz_up_same _ _ _
      · refine q _ w v (fun k hk => ?_) g2 ?_ (fun z => absurd (ht.symm.trans z) h1) (fun z => absurd (ht.symm.trans z) h2)
        · rw [kz_up_ne hk, kz_up_ne hk]; exact g1 k hk
        · rw [ht, hx he]
          exact kz_up_same _ _ _
    refine rX8_next_46 ⟨_, _, g3, rfl, hI1.ob, c_signAt hI1 (by show sp_end _ _ _ < _; omega) ⟨_, rfl, c_isLetter ⟨_, rfl, ?_⟩⟩⟩
    by_cases hin : sp_st n b en < n
    · have hb := hI.lt _ hin
      rw [show ow_sg n b (sp_st n b en) = nI (b (sp_st n b en)) from if_pos hin, rd_L_isl hb]
      refine ow_if0 (fun hl => c_isDigit ⟨_, rfl, ?_⟩) (fun hl => ?_)
      · rw [ow_isdN _ hb]
        have hl' : sp_le b (sp_st n b en) = false := hl
        refine ow_if0 (fun hd => ?_) (fun hd => ?_)
        · have hd' : sp_dg b (sp_st n b en) = false := hd
          have em1 : ∀ c, c < 256 → ¬ nI c = -1 := by decide +kernel
          have ee : sp_en n b en = sp_st n b en + 1 := by rw [sp_en, sp_e0, if_pos hin, hl', hd']; rfl
          refine ⟨fun hm1 => ⟨fun h59 => ?_, fun h59 => ?_⟩, fun hm1 => absurd hm1 (em1 _ hb)⟩
          · refine tail 4 ?_ (by omega) (by omega) _ (fun z => absurd z (em1 _ hb)) (fun _ => ee)
            rw [sp_tk, sp_k0, if_pos hin, hl', hd', if_neg (by decide), if_neg (by decide), if_neg (fun e => h59 (by rw [e]; rfl))]
          · refine tail 3 ?_ (by omega) (by omega) _ (fun z => absurd z (em1 _ hb)) (fun _ => ee)
            rw [sp_tk, sp_k0, if_pos hin, hl', hd', if_neg (by decide), if_neg (by decide), if_pos ((nI_eq (b := 59) (by omega) (by omega)).mp h59)]
        · have hd' : sp_dg b (sp_st n b en) = true := hd
          have ee : sp_en n b en = sp_end (sp_dg b) n (sp_st n b en) := by rw [sp_en, sp_e0, if_pos hin, hl', hd']; rfl
          have et : sp_tk n b en = (if sp_end (sp_dg b) n (sp_st n b en) - sp_st n b en ≤ 5 then 2 else 4) := by rw [sp_tk, sp_k0, if_pos hin, hl', hd']; rfl
          refine ⟨g3.ob, c_takeNumber hI1 g3 hin fun M2 v2 k1 k2 k3 k4 => ⟨rfl, ?_⟩⟩
          rw [← et, ← ee] at k3
          refine q M2 w v2 (g1.trans k1) (k2.trans g2) k3 (fun z => ?_) (fun z => ?_)
          · rw [et] at z
            split at z <;> omega
          · rw [et] at z
            by_cases h5 : sp_end (sp_dg b) n (sp_st n b en) - sp_st n b en ≤ 5
            · exact k4 h5
            · rw [if_neg h5] at z; omega
      · have hl' : sp_le b (sp_st n b en) = true := hl
        have ee : sp_en n b en = sp_end (sp_le b) n (sp_st n b en) := by rw [sp_en, sp_e0, if_pos hin, hl']; rfl
        have et : sp_tk n b en = 1 := by rw [sp_tk, sp_k0, if_pos hin, hl']; rfl
        refine ⟨g3.ob, c_takeWord hI1 g3 hin hl' fun M2 k1 k2 k3 => ⟨rfl, ?_⟩⟩
        rw [← ee] at k3
        refine q M2 _ v (g1.trans k1) (k2.trans g2) (by rw [et]; exact k3) (fun _ => rfl) (fun z => by rw [et] at z; omega)
    · rw [show ow_sg n b (sp_st n b en) = -1 from if_neg hin, ow_isl_1]
      refine ow_y rfl (c_isDigit ⟨_, rfl, ?_⟩)
      rw [ow_isd_1]
      have ee : sp_en n b en = sp_st n b en := by rw [sp_en, sp_e0, if_neg hin]
      refine ow_y rfl (ow_nn rfl (tail 0 ?_ (by omega) (by omega) _ (fun _ => ee) (fun z => absurd rfl z)))
      rw [sp_tk, sp_k0, if_neg hin]
  have key : ∀ f i, n ≤ i + f → i ≤ n → sp_end (sp_bl b) n i = sp_st n b en → ∀ M1, ow_Sm (· = 87) M M1 → M1.2 = M.2 → ow_R8 M1 tk i en w v er ea → zX8_next_8 G d Qr Qx 87 1 M1 := by
    intro f
    induction f with
    | zero =>
      intro i hf hin he M1 g1 g2 g3
      have hI1 := hI.s87 g1
      have hi : sp_end (sp_bl b) n i = i := sp_end_n fun z => by omega
      rw [hi] at he
      exact rX8_next_8 ⟨_, _, g3, rfl, _, _, hI1.1, rfl, ow_y (nI_le (by omega) (by omega)) (fin M1 g1 g2 (he ▸ g3))⟩
    | succ f ih =>
      intro i hf hin he M1 g1 g2 g3
      have hI1 := hI.s87 g1
      refine rX8_next_8 ⟨_, _, g3, rfl, _, _, hI1.1, rfl, pk_le n i (fun hz => ?_) (fun hz => ⟨_, _, g3, rfl, hI1.ob, c_signAt hI1 (by omega) ⟨_, rfl, c_isBlank ⟨_, rfl, ?_⟩⟩⟩) rfl rfl⟩
      · have hi : sp_end (sp_bl b) n i = i := sp_end_n fun z => by omega
        rw [hi] at he
        exact fin M1 g1 g2 (he ▸ g3)
      · rw [show ow_sg n b i = nI (b i) from if_pos hz, ow_isbN _ (hI.lt i hz)]
        refine ow_if0 (fun hl => ?_) (fun hl => ?_)
        · have hi : sp_end (sp_bl b) n i = i := sp_end_n fun z => hl
          rw [hi] at he
          exact fin M1 g1 g2 (he ▸ g3)
        · refine ⟨_, _, g3, rfl, _, g3, ow_l rfl, ?_⟩
          rw [nI_1]
          refine ih (i + 1) (by omega) (by omega) ?_ _ (fun k hk => (kz_up_ne hk).trans (g1 k hk)) g2 (kz_up_same _ _ _)
          rw [← he]
          exact (sp_end_y hz hl).symm
  exact key (n - en) en (by omega) hs rfl _ (fun k hk => kz_up_ne hk) rfl (kz_up_same _ _ _)
end OWZ
