/-! Part 82: the reference: names -/
theorem mo_cd_set : ∀ k, k < 10 → kz_cd (1036 + k) = kz_cd (kz_wd k) := by decide +kernel
theorem mo_cd_of : kz_cd 1046 = kz_cd 1022 := by decide +kernel
theorem mo_cd_wr : kz_cd 1047 = kz_cd 1023 := by decide +kernel
theorem mo_rd_set : ∀ k, k < 10 → 1036 + k ∈ kz_read := by decide
/-- are the first k bytes letters? -/
def mo_lt (b : Nat → Nat) (k : Nat) : Prop := ∀ t, t < k → 97 ≤ b t ∧ b t ≤ 122
theorem mo_lt.le {b : Nat → Nat} {k j : Nat} (h : mo_lt b k) (hj : j ≤ k) : mo_lt b j := fun t ht => h t (by omega)
theorem mo_al {b : Nat → Nat} {k : Nat} : ow_al b k = true ↔ mo_lt b k := by
  unfold ow_al
  rw [Bool.not_eq_true', ow_ex_f]
  exact ⟨fun h t ht => by
    have := h t ht
    simpa using this, fun h t ht => by
    have := h t ht
    simp [this.1, this.2]⟩
theorem ow_nm_pos {b : Nat → Nat} {k : Nat} (h : mo_lt b (k + 1)) : 0 < ow_nm b 0 (k + 1) := by
  have := h k (by omega)
  rw [ow_nm]
  omega
theorem ow_nm_inj {b c : Nat → Nat} : ∀ {k j : Nat}, mo_lt b k → mo_lt c j → ow_nm b 0 k = ow_nm c 0 j → k = j ∧ ∀ t, t < k → b t = c t
  | 0, 0, _, _, _ => ⟨rfl, fun t ht => absurd ht (Nat.not_lt_zero t)⟩
  | 0, j + 1, _, hc, e => by
    have := ow_nm_pos hc
    rw [← e] at this
    exact absurd this (Nat.lt_irrefl 0)
  | k + 1, 0, hb, _, e => by
    have := ow_nm_pos hb
    rw [e] at this
    exact absurd this (Nat.lt_irrefl 0)
  | k + 1, j + 1, hb, hc, e => by
    have h1 := hb k (by omega)
    have h2 := hc j (by omega)
    rw [ow_nm, ow_nm] at e
    obtain ⟨e1, e2⟩ := ow_nm_inj (hb.le (j := k) (by omega)) (hc.le (j := j) (by omega)) (by omega)
    subst e1
    refine ⟨rfl, fun t ht => ?_⟩
    rcases Nat.lt_or_ge t k with h | h
    · exact e2 t h
    · have : t = k := by omega
      subst this
      omega
theorem ow_nm_eq {b c : Nat → Nat} : ∀ {k : Nat}, (∀ t, t < k → b t = c t) → ow_nm b 0 k = ow_nm c 0 k
  | 0, _ => rfl
  | k + 1, h => by rw [ow_nm, ow_nm, ow_nm_eq fun t ht => h t (by omega), h k (by omega)]
theorem ow_lnF_nm {b : Nat → Nat} : ∀ {k F : Nat}, k ≤ F → mo_lt b k → ow_lnF F (ow_nm b 0 k) = k
  | 0, 0, _, _ => rfl
  | 0, F + 1, _, _ => by
    unfold ow_lnF
    exact if_pos rfl
  | k + 1, 0, h, _ => absurd h (Nat.not_succ_le_zero k)
  | k + 1, F + 1, h, hb => by
    have h1 := hb k (by omega)
    have h2 := ow_nm_pos hb
    unfold ow_lnF
    rw [if_neg (by omega), ow_nm, show (32 * ow_nm b 0 k + (b k - 96)) / 32 = ow_nm b 0 k by omega, ow_lnF_nm (by omega) (hb.le (by omega))]
theorem ow_ln_nm {b : Nat → Nat} {k : Nat} (h : k ≤ 12) (hb : mo_lt b k) : ow_ln (ow_nm b 0 k) = k := ow_lnF_nm h hb
/-- letters by 27 -/
def mo_p27 (b : Nat → Nat) : Nat → Nat
  | 0 => 0
  | k + 1 => 27 * mo_p27 b k + (b k - 96)
theorem mo_p27_lt {b : Nat → Nat} : ∀ {k : Nat}, mo_lt b k → mo_p27 b k < 27 ^ k
  | 0, _ => Nat.one_pos
  | k + 1, h => by
    have h1 := mo_p27_lt (h.le (j := k) (by omega))
    have h2 := h k (by omega)
    rw [mo_p27, Nat.pow_succ]
    omega
theorem mo_nmF_nm {b : Nat → Nat} : ∀ {k F : Nat}, k ≤ F → mo_lt b k → mo_nmF F (ow_nm b 0 k) = mo_p27 b k
  | 0, 0, _, _ => rfl
  | 0, F + 1, _, _ => by
    unfold mo_nmF
    exact if_pos rfl
  | k + 1, 0, h, _ => absurd h (Nat.not_succ_le_zero k)
  | k + 1, F + 1, h, hb => by
    have h1 := hb k (by omega)
    have h2 := ow_nm_pos hb
    unfold mo_nmF
    rw [if_neg (by omega), ow_nm, show (32 * ow_nm b 0 k + (b k - 96)) / 32 = ow_nm b 0 k by omega, show (32 * ow_nm b 0 k + (b k - 96)) % 32 = b k - 96 by omega, mo_nmF_nm (by omega) (hb.le (by omega)), mo_p27]
theorem mo_nm_nm {b : Nat → Nat} {k : Nat} (h : k ≤ 12) (hb : mo_lt b k) : mo_nm (ow_nm b 0 k) = mo_p27 b k := mo_nmF_nm h hb
theorem mo_p27_inj {b c : Nat → Nat} : ∀ {k j : Nat}, mo_lt b k → mo_lt c j → mo_p27 b k = mo_p27 c j → ow_nm b 0 k = ow_nm c 0 j
  | 0, 0, _, _, _ => rfl
  | 0, j + 1, _, hc, e => by
    have := hc j (by omega)
    rw [mo_p27, mo_p27] at e
    omega
  | k + 1, 0, hb, _, e => by
    have := hb k (by omega)
    rw [mo_p27, mo_p27] at e
    omega
  | k + 1, j + 1, hb, hc, e => by
    have h1 := hb k (by omega)
    have h2 := hc j (by omega)
    rw [mo_p27, mo_p27] at e
    rw [ow_nm, ow_nm, mo_p27_inj (hb.le (j := k) (by omega)) (hc.le (j := j) (by omega)) (by omega)]
    omega
/-- the number of a name -/
def ow_Nm (c : Nat) : Prop := ∃ b k, 1 ≤ k ∧ k ≤ 6 ∧ mo_lt b k ∧ c = ow_nm b 0 k
theorem ow_Nm.lt {c : Nat} (h : ow_Nm c) : mo_nm c < 2 ^ 31 := by
  obtain ⟨b, k, h1, h2, h3, rfl⟩ := h
  rw [mo_nm_nm (by omega) h3]
  have := mo_p27_lt h3
  have h4 : 27 ^ k ≤ 27 ^ 6 := Nat.pow_le_pow_right (by omega) h2
  have h5 : (27 : Nat) ^ 6 < 2 ^ 31 := by decide
  omega
theorem ow_Nm.inj {c e : Nat} (h : ow_Nm c) (g : ow_Nm e) : nI (mo_nm c) = nI (mo_nm e) ↔ c = e := by
  refine ⟨fun z => ?_, fun z => by rw [z]⟩
  have z := (nI_eq h.lt g.lt).mp z
  obtain ⟨b, k, h1, h2, h3, rfl⟩ := h
  obtain ⟨c, j, g1, g2, g3, rfl⟩ := g
  rw [mo_nm_nm (by omega) h3, mo_nm_nm (by omega) g3] at z
  exact mo_p27_inj h3 g3 z
def ow_Nms (O : ow_O) : Prop := ∀ i, i < o_nw O → ow_Nm (o_nm O i)
/-- is what stands at a place a name? -/
def mo_isn (b : Nat → Nat) (k : Nat) : Bool := decide (1 ≤ k) && (decide (k ≤ 6) && (ow_al b k && sp_name (ow_nm b 0 k)))
theorem mo_isn_ww (n : Nat) (b : Nat → Nat) : sp_name (ow_ww n b) = mo_isn b n := by
  have s0 : sp_name 0 = false := by unfold sp_name; simp
  unfold ow_ww mo_isn
  by_cases h12 : n ≤ 12
  · rw [if_pos h12]
    by_cases hal : ow_al b n = true
    · rw [if_pos hal, hal]
      have hl := mo_al.mp hal
      rcases Nat.eq_zero_or_pos n with h0 | h0
      · subst h0
        rw [show ow_nm b 0 0 = 0 from rfl, s0]
        rfl
      · by_cases h6 : n ≤ 6
        · rw [decide_eq_true (p := 1 ≤ n) h0, decide_eq_true h6]
          simp
        · rw [decide_eq_false h6]
          unfold sp_name
          rw [ow_ln_nm h12 hl, decide_eq_false h6]
          simp
    · rw [if_neg hal, s0, Bool.eq_false_iff.mpr hal]
      simp
  · rw [if_neg h12, s0, decide_eq_false (p := n ≤ 6) (by omega)]
    simp
theorem mo_W.enrol {O : ow_O} {x : Nat} {f f1 : Nat → Int32} {g : Nat → Int64} (W : mo_W O f g 0 0) (hO : ow_Ok1 O) (hn : o_nw O < 6) (e : ∀ j, f1 j = if j = 0 then nI (o_nw O + 1) else if j = 27 + o_nw O then 0 else if j = 21 + o_nw O then 0 else if j = 15 + o_nw O then nI (mo_nm x) else f j) : mo_W (o_enrol O x) f1 g 0 0 := by
  have u : ∀ j, j ≠ 0 → j ≠ 27 + o_nw O → j ≠ 21 + o_nw O → j ≠ 15 + o_nw O → f1 j = f j := fun j h0 h1 h2 h3 => by rw [e, if_neg h0, if_neg h1, if_neg h2, if_neg h3]
  refine W.sc hO rfl rfl (fun j h1 h2 => u j (by omega) (by omega) (by omega) (by omega)) ?_ ((u 1 (by omega) (by omega) (by omega) (by omega)).trans W.1.2.1) ((u 2 (by omega) (by omega) (by omega) (by omega)).trans W.1.2.2.1) ((u 3 (by omega) (by omega) (by omega) (by omega)).trans W.1.2.2.2.1) ((u 4 (by omega) (by omega) (by omega) (by omega)).trans W.1.2.2.2.2) (fun i hi => (u _ (by omega) (by omega) (by omega) (by omega)).trans (W.ru hi)) (fun i hi => ?_) fun i hi => (u _ (by omega) (by omega) (by omega) (by omega)).trans (W.le hi)
  · rw [e, if_pos rfl]; rfl
  · have hi : i < o_nw O + 1 := hi
    show _ = nI (mo_nm (if i = o_nw O then x else o_nm O i)) ∧ _ = (if i = o_nw O then (0 : Int32) else o_ba O i) ∧ _ = (if i = o_nw O then (0 : Int32) else o_pd O i)
    by_cases hz : i = o_nw O
    · rw [if_pos hz, if_pos hz, if_pos hz, hz, e, e, e]
      refine ⟨?_, ?_, ?_⟩
      · rw [if_neg (by omega), if_neg (by omega), if_neg (by omega), if_pos rfl]
      · rw [if_neg (by omega), if_neg (by omega), if_pos rfl]
      · rw [if_neg (by omega), if_pos rfl]
    · rw [if_neg hz, if_neg hz, if_neg hz]
      have hi' : i < o_nw O := by omega
      exact ⟨(u _ (by omega) (by omega) (by omega) (by omega)).trans (W.nm hi'), (u _ (by omega) (by omega) (by omega) (by omega)).trans (W.ba hi'), (u _ (by omega) (by omega) (by omega) (by omega)).trans (W.pd hi')⟩
section MOA
variable {G : kz_G} {d : Nat} {Qr : Option Value → kz_M → Prop} {Qx : String → kz_M → Prop} {M : kz_M} {O : ow_O} {s : Nat → Int32} {rb : Int64} {hn : Nat} {h : Nat → ow_O} {sv : ow_O} {isS : Bool} {er : Nat} {ea : Int32} {n : Nat} {b : Nat → Nat} {l : List Nat} {f : Nat → Int32} {g : Nat → Int64}
/-- the input's bytes, as the row holds them -/
def mo_in (M : kz_M) (s : Nat → Int32) (rb : Int64) (n : Nat) (b : Nat → Nat) : Prop := M.1 99 = some (.inl (11, mo_fs s rb)) ∧ n ≤ 600 ∧ ∃ f, M.1 112 = some (.inr (.int, 600, .inl f)) ∧ ∀ i, i < n → f i = nI (b i) ∧ b i < 256
theorem mo_in.ob (B : mo_in M s rb n b) : ∃ fs, M.1 99 = some (.inl (11, fs)) := ⟨_, B.1⟩
theorem m_isWordAt {j i k : Nat} (hG : kz_stat G) (hj : j ∈ kz_read) (B : mo_in M s rb n b) (hik : i + k ≤ n) (hl : mo_lt (fun t => b (i + t)) k) (q : Qr (some (.int (ow_b (decide (ow_nm (fun t => b (i + t)) 0 k = kz_cd j))))) M) : kz_C G (d + 4) 0 0 mX12_isWordAt [.ref 99, .retAddr j, .int (nI i), .int (nI (i + k))] M Qr Qx := by
  obtain ⟨h99, hn6, f, c1, c2⟩ := B
  have hL := tx_len j hj
  have htl : mo_lt (tx_b j) (kz_txt j).length := fun t ht => (tx_ok j hj t ht).2
  refine rX12_isWordAt_0 hG ⟨hj, ?_⟩
  rw [show nI (i + k) - nI i = nI k by rw [pk_sub (show i ≤ i + k by omega), show i + k - i = k by omega]]
  refine pk_eq k (kz_txt j).length (fun hk => ?_) (fun hk => ?_) rfl rfl
  · have key : ∀ t, t ≤ (kz_txt j).length → (∀ u, u < t → b (i + u) = tx_b j u) → zX12_isWordAt_15 G d Qr Qx 99 j (nI i) (nI t) M := by
      refine ow_loop (kz_txt j).length ?_ ?_
      · intro hall
        rw [decide_eq_true (show ow_nm (fun t => b (i + t)) 0 k = kz_cd j by rw [hk]; exact ow_nm_eq hall)] at q
        exact rX12_isWordAt_15 hG ⟨hj, ow_y (nI_le (Nat.le_refl _) (by omega)) q⟩
      · intro t ht ih hall
        obtain ⟨t1, t2, t3⟩ := tx_ok j hj t ht
        obtain ⟨d1, d2⟩ := c2 (i + t) (by omega)
        refine rX12_isWordAt_15 hG ⟨hj, ow_n (nI_ge ht (by omega)) ⟨_, _, h99, rfl, _, _, c1, ?_, hj, vp_in_nI ht (by omega), ?_⟩⟩
        · rw [nI_add]; exact vp_in_nI (by omega) (by omega)
        rw [nI_add, nI_clamp (n := i + t) (by omega), nI_clamp (n := t) (by omega), d1, t1, nI_1]
        refine pk_eq (b (i + t)) (tx_b j t) (fun hz => ih fun u hu => ?_) (fun hz => ?_) rfl rfl
        · rcases Nat.lt_or_ge u t with h | h
          · exact hall u h
          · have : u = t := by omega
            subst this; exact hz
        · rw [decide_eq_false (p := ow_nm (fun t => b (i + t)) 0 k = kz_cd j) (fun z => hz ((ow_nm_inj hl htl z).2 t (by omega)))] at q
          exact q
    exact key 0 (Nat.zero_le _) fun u hu => absurd hu (Nat.not_lt_zero u)
  · rw [decide_eq_false (p := ow_nm (fun t => b (i + t)) 0 k = kz_cd j) (fun z => hk (ow_nm_inj hl htl z).1)] at q
    exact q
theorem m_settingName {k : Nat} (hk : k < 10) (q : Qr (some (.retAddr (1036 + k))) M) : kz_C G d 0 0 mX12_settingName [.int (nI k)] M Qr Qx := by
  have ne : ∀ i, i < 9 → k ≠ i → ¬ nI k = nI i := fun i hi h z => h ((nI_eq (by omega) (by omega)).mp z)
  have yes : ∀ i, i < 9 → (nI k = nI i → Qr (some (.retAddr (1036 + i))) M) := fun i hi z => by
    have := (nI_eq (by omega) (by omega)).mp z
    subst this; exact q
  refine rX12_settingName_0 ⟨yes 0 (by omega), yes 1 (by omega), yes 2 (by omega), yes 3 (by omega), yes 4 (by omega), yes 5 (by omega), yes 6 (by omega), yes 7 (by omega), yes 8 (by omega), fun z0 z1 z2 z3 z4 z5 z6 z7 z8 => ?_⟩
  have : k = 9 := by
    have a0 : k ≠ 0 := fun e => z0 (by rw [e]; rfl)
    have a1 : k ≠ 1 := fun e => z1 (by rw [e]; rfl)
    have a2 : k ≠ 2 := fun e => z2 (by rw [e]; rfl)
    have a3 : k ≠ 3 := fun e => z3 (by rw [e]; rfl)
    have a4 : k ≠ 4 := fun e => z4 (by rw [e]; rfl)
    have a5 : k ≠ 5 := fun e => z5 (by rw [e]; rfl)
    have a6 : k ≠ 6 := fun e => z6 (by rw [e]; rfl)
    have a7 : k ≠ 7 := fun e => z7 (by rw [e]; rfl)
    have a8 : k ≠ 8 := fun e => z8 (by rw [e]; rfl)
    omega
  subst this
  exact q
theorem m_settingAt {i k : Nat} (hG : kz_stat G) (B : mo_in M s rb n b) (hik : i + k ≤ n) (hl : mo_lt (fun t => b (i + t)) k) (q : Qr (some (.int (ow_oi (sp_set (ow_nm (fun t => b (i + t)) 0 k))))) M) : kz_C G (d + 5) 0 0 mX12_settingAt [.ref 99, .int (nI i), .int (nI (i + k))] M Qr Qx := by
  refine rX12_settingAt_0 ?_
  have key : ∀ j, j ≤ 10 → (∀ u, u < j → (fun u => decide (kz_cd (kz_wd u) = ow_nm (fun t => b (i + t)) 0 k)) u = false) → zX12_settingAt_2 G d Qr Qx 99 (nI i) (nI (i + k)) (nI j) M := by
    refine ow_loop 10 ?_ ?_
    · intro hno
      rw [show sp_set (ow_nm (fun t => b (i + t)) 0 k) = none from ow_fs_none hno] at q
      exact rX12_settingAt_2 (ow_y (by decide) q)
    · intro j hj ih hno
      refine rX12_settingAt_2 (ow_n (nI_ge (b := 10) hj (by omega)) (m_settingName hj ⟨_, rfl, B.ob, m_isWordAt hG (mo_rd_set j hj) B hik hl ⟨_, rfl, ow_if0 (fun hz => ?_) (fun hz => ?_)⟩⟩))
      · rw [nI_1]
        refine ih fun u hu => ?_
        rcases Nat.lt_or_ge u j with h | h
        · exact hno u h
        · have : u = j := by omega
          subst this
          rw [mo_cd_set u hj] at hz
          exact decide_eq_false fun z => of_decide_eq_false hz z.symm
      · rw [mo_cd_set j hj] at hz
        have hz' : kz_cd (kz_wd j) = ow_nm (fun t => b (i + t)) 0 k := (of_decide_eq_true hz).symm
        have hs : sp_set (ow_nm (fun t => b (i + t)) 0 k) = some j := ow_fs_some (p := fun u => decide (kz_cd (kz_wd u) = ow_nm (fun t => b (i + t)) 0 k)) (decide_eq_true (p := kz_cd (kz_wd j) = ow_nm (fun t => b (i + t)) 0 k) hz') hno hj
        rw [hs] at q
        exact q
  exact key 0 (Nat.zero_le _) fun u hu => absurd hu (Nat.not_lt_zero u)
theorem m_isName {i k : Nat} (hG : kz_stat G) (B : mo_in M s rb n b) (hik : i + k ≤ n) (q : Qr (some (.int (ow_b (mo_isn (fun t => b (i + t)) k)))) M) : kz_C G (d + 6) 0 0 mX12_isName [.ref 99, .int (nI i), .int (nI (i + k))] M Qr Qx := by
  have B0 := B
  obtain ⟨h99, hn6, f, c1, c2⟩ := B
  refine rX12_isName_0 ?_
  rw [show nI (i + k) - nI i = nI k by rw [pk_sub (show i ≤ i + k by omega), show i + k - i = k by omega]]
  refine m_in rfl ⟨_, rfl, ow_ifn (fun e => ?_) (fun e => ?_)⟩
  · obtain ⟨m, h1, h2, e'⟩ := mo_rgT (a := 1) (b := 6) (by omega) (by omega) e
    have : k = m := (nI_eq (by omega) (by omega)).mp e'
    subst this
    have key : ∀ t, t ≤ k → mo_lt (fun t => b (i + t)) t → zX12_isName_16 G d Qr Qx 99 (nI i) (nI (i + k)) (nI (i + t)) M := by
      refine ow_loop k ?_ ?_
      · intro hl
        unfold mo_isn at q
        rw [decide_eq_true h1, decide_eq_true h2, mo_al.mpr hl, Bool.true_and, Bool.true_and, Bool.true_and] at q
        have hp := ow_nm_pos (b := fun t => b (i + t)) (k := k - 1) (by rw [show k - 1 + 1 = k by omega]; exact hl)
        rw [show k - 1 + 1 = k by omega] at hp
        unfold sp_name at q
        rw [decide_eq_false (p := ow_nm (fun t => b (i + t)) 0 k = 0) (by omega), ow_ln_nm (by omega) hl, decide_eq_true h2, ← mo_cd_of, ← mo_cd_wr] at q
        simp only [Bool.not_false, Bool.true_and] at q
        refine rX12_isName_16 (ow_y (nI_le (Nat.le_refl _) (by omega)) ⟨B0.ob, m_settingAt hG B0 hik hl ⟨_, rfl, fun hz => ?_, fun hz => ⟨B0.ob, m_isWordAt hG (by decide) B0 hik hl ⟨_, rfl, ow_ifn (fun ho => ?_) (fun ho => ⟨B0.ob, m_isWordAt hG (by decide) B0 hik hl ⟨_, rfl, ow_ifn (fun hw => ?_) (fun hw => ?_)⟩⟩)⟩⟩⟩⟩)
        · cases hs : sp_set (ow_nm (fun t => b (i + t)) 0 k) with
          | none => rw [hs] at hz; exact absurd rfl hz
          | some j =>
            rw [hs] at q
            simp only [Option.isNone_some, Bool.and_false] at q
            exact q
        · rw [ho] at q; simp only [Bool.not_true, Bool.false_and] at q; exact q
        · rw [hw] at q; simp only [Bool.not_true, Bool.false_and, Bool.and_false] at q; exact q
        · have hs := (ow_oi_m1 (fun j hj => by have := sp_set_lt hj; omega)).mp hz
          rw [ho, hw, hs] at q
          exact q
      · intro t ht ih hl
        obtain ⟨d1, d2⟩ := c2 (i + t) (by omega)
        refine rX12_isName_16 (ow_n (nI_ge (by omega) (by omega)) ⟨_, _, h99, rfl, _, _, c1, vp_in_nI (by omega) (by omega), ?_⟩)
        rw [nI_clamp (n := i + t) (by omega), d1]
        refine m_isLetter d2 ⟨_, rfl, ow_ifn (fun hz => ?_) (fun hz => ?_)⟩
        · rw [nI_1]
          refine ih fun u hu => ?_
          rcases Nat.lt_or_ge u t with h | h
          · exact hl u h
          · have : u = t := by omega
            subst this
            unfold rd_L at hz
            simpa using hz
        · have hal : ow_al (fun t => b (i + t)) k = false := by
            refine Bool.eq_false_iff.mpr fun z => ?_
            have := mo_al.mp z t ht
            unfold rd_L at hz
            simp at hz
            omega
          unfold mo_isn at q
          rw [hal] at q
          simp only [Bool.false_and, Bool.and_false] at q
          exact q
    exact key 0 (Nat.zero_le _) fun u hu => absurd hu (Nat.not_lt_zero u)
  · have hk : ¬ (1 ≤ k ∧ k ≤ 6) := fun z => mo_rgF (a := 1) (b := 6) (by omega) e k z.1 z.2 rfl
    unfold mo_isn at q
    rcases Nat.lt_or_ge k 1 with h | h
    · rw [decide_eq_false (p := 1 ≤ k) (by omega)] at q
      exact q
    · rw [decide_eq_false (p := k ≤ 6) (by omega)] at q
      simp only [Bool.false_and, Bool.and_false] at q
      exact q
theorem m_packed {i k : Nat} (B : mo_in M s rb n b) (hik : i + k ≤ n) (hk : k ≤ 6) (hl : mo_lt (fun t => b (i + t)) k) (q : Qr (some (.int (nI (mo_nm (ow_nm (fun t => b (i + t)) 0 k))))) M) : kz_C G d 0 0 mX12_packed [.ref 99, .int (nI i), .int (nI (i + k))] M Qr Qx := by
  obtain ⟨h99, hn6, f, c1, c2⟩ := B
  refine rX12_packed_0 ?_
  rw [mo_nm_nm (by omega) hl] at q
  refine ow_loop (P := fun t => zX12_packed_5 G d Qr Qx 99 (nI (i + k)) (nI (mo_p27 (fun t => b (i + t)) t)) (nI (i + t)) M) k ?_ ?_ 0 (Nat.zero_le _)
  · exact rX12_packed_5 (ow_y (nI_le (Nat.le_refl _) (by omega)) q)
  · intro t ht ih
    obtain ⟨d1, d2⟩ := c2 (i + t) (by omega)
    have h1 : 97 ≤ b (i + t) := (hl t ht).1
    refine rX12_packed_5 (ow_n (nI_ge (by omega) (by omega)) ⟨_, _, h99, rfl, _, _, c1, vp_in_nI (by omega) (by omega), ?_⟩)
    rw [nI_clamp (n := i + t) (by omega), d1, nI_1, show (27 : Int32) * nI (mo_p27 (fun t => b (i + t)) t) = nI (27 * mo_p27 (fun t => b (i + t)) t) from pk_mul 27 _, nI_add, show nI (27 * mo_p27 (fun t => b (i + t)) t + b (i + t)) - 96 = nI (27 * mo_p27 (fun t => b (i + t)) t + b (i + t) - 96) from pk_sub (show 96 ≤ 27 * mo_p27 (fun t => b (i + t)) t + b (i + t) by omega), show 27 * mo_p27 (fun t => b (i + t)) t + b (i + t) - 96 = mo_p27 (fun t => b (i + t)) (t + 1) by
      show _ = 27 * mo_p27 (fun t => b (i + t)) t + (b (i + t) - 96)
      omega]
    exact ih
theorem m_isTaken {x : Nat} (D : mo_D M s rb f g) (W : mo_W O f g 0 0) (hO : ow_Ok1 O) (hN : ow_Nms O) (hx : ow_Nm x) (q : Qr (some (.int (ow_b (sp_taken O x)))) M) : kz_C G d 0 0 mX12_isTaken [.ref 99, .int (nI (mo_nm x))] M Qr Qx := by
  have hnw := hO.1.2.2.1
  refine rX12_isTaken_0 ?_
  have key : ∀ i, i ≤ o_nw O → (∀ u, u < i → (fun u => decide (o_nm O u = x)) u = false) → zX12_isTaken_2 G d Qr Qx 99 (nI (mo_nm x)) (nI i) M := by
    refine ow_loop (o_nw O) ?_ ?_
    · intro hno
      rw [show sp_taken O x = false from ow_ex_f.mpr hno] at q
      refine rX12_isTaken_2 ⟨_, _, D.1, rfl, _, _, D.2.1, mo_in0, ?_⟩
      rw [W.at0]
      exact ow_y (nI_le (Nat.le_refl _) (by omega)) q
    · intro i hi ih hno
      refine rX12_isTaken_2 ⟨_, _, D.1, rfl, _, _, D.2.1, mo_in0, ?_⟩
      rw [W.at0, show (15 : Int32) + nI i = nI (15 + i) from nI_add 15 i]
      refine ow_n (nI_ge hi (by omega)) ⟨_, _, D.1, rfl, _, _, D.2.1, vp_in_nI (by omega) (by omega), ?_⟩
      rw [nI_clamp (n := 15 + i) (by omega), W.nm hi, nI_1]
      have ij := (hN i hi).inj hx
      refine ⟨fun z => ih fun u hu => ?_, fun z => ?_⟩
      · rcases Nat.lt_or_ge u i with h | h
        · exact hno u h
        · have : u = i := by omega
          subst this
          exact decide_eq_false fun e => z (ij.mpr e)
      · rw [show sp_taken O x = true from ow_ex_iff.mpr ⟨i, hi, decide_eq_true (ij.mp z)⟩] at q
        exact q
  exact key 0 (Nat.zero_le _) fun u hu => absurd hu (Nat.not_lt_zero u)
theorem m_joins {x : Nat} (D : mo_D M s rb f g) (W : mo_W O f g 0 0) (hO : ow_Ok1 O) (hn : o_nw O < 6) (q : ∀ M1 f1, ow_Sm (· = 100) M M1 → M1.2 = M.2 → mo_D M1 s rb f1 g → mo_W (o_enrol O x) f1 g 0 0 → Qr (some (.int (nI (o_nw O)))) M1) : kz_C G d 0 0 mX12_joins [.ref 99, .int (nI (mo_nm x))] M Qr Qx := by
  have i15 : (15 : Int32) + nI (o_nw O) = nI (15 + o_nw O) := nI_add 15 _
  have i21 : (21 : Int32) + nI (o_nw O) = nI (21 + o_nw O) := nI_add 21 _
  have i27 : (27 : Int32) + nI (o_nw O) = nI (27 + o_nw O) := nI_add 27 _
  refine rX12_joins_0 ⟨_, _, D.1, rfl, _, _, D.1, rfl, _, _, D.2.1, mo_in0, _, _, D.2.1, ?_, ?_⟩
  · rw [W.at0, i15]; exact vp_in_nI (by omega) (by omega)
  rw [W.at0, i15, nI_clamp (n := 15 + o_nw O) (by omega)]
  have F1 : upd f (15 + o_nw O) (nI (mo_nm x)) (0 : Int32).toNatClampNeg = nI (o_nw O) := (if_neg (show ¬ 0 = 15 + o_nw O by omega)).trans W.at0
  refine ⟨_, _, D.w.1, rfl, _, _, D.w.1, rfl, _, _, D.w.2.1, mo_in0, _, _, D.w.2.1, ?_, fun M1 e1 => ?_⟩
  · rw [F1, i21]; exact vp_in_nI (by omega) (by omega)
  rw [F1, i21, nI_clamp (n := 21 + o_nw O) (by omega)] at e1
  have D1 : mo_D M1 s rb (upd (upd f (15 + o_nw O) (nI (mo_nm x))) (21 + o_nw O) 0) g := e1 ▸ D.w.w
  have F2 : upd (upd f (15 + o_nw O) (nI (mo_nm x))) (21 + o_nw O) 0 (0 : Int32).toNatClampNeg = nI (o_nw O) := (if_neg (show ¬ 0 = 21 + o_nw O by omega)).trans F1
  refine ⟨_, _, D1.1, rfl, _, _, D1.1, rfl, _, _, D1.2.1, mo_in0, _, _, D1.2.1, ?_, ?_⟩
  · rw [F2, i27]; exact vp_in_nI (by omega) (by omega)
  rw [F2, i27, nI_clamp (n := 27 + o_nw O) (by omega)]
  have F3 : upd (upd (upd f (15 + o_nw O) (nI (mo_nm x))) (21 + o_nw O) 0) (27 + o_nw O) 0 (0 : Int32).toNatClampNeg = nI (o_nw O) := (if_neg (show ¬ 0 = 27 + o_nw O by omega)).trans F2
  refine ⟨_, _, D1.w.1, rfl, _, _, D1.w.2.1, mo_in0, _, _, D1.w.2.1, mo_in0, fun M2 e2 => ?_⟩
  rw [F3, nI_1] at e2
  have D2 : mo_D M2 s rb (upd (upd (upd (upd f (15 + o_nw O) (nI (mo_nm x))) (21 + o_nw O) 0) (27 + o_nw O) 0) 0 (nI (o_nw O + 1))) g := e2 ▸ D1.w.w
  refine ⟨_, _, D2.1, rfl, _, _, D2.2.1, mo_in0, ?_⟩
  rw [show upd (upd (upd (upd f (15 + o_nw O) (nI (mo_nm x))) (21 + o_nw O) 0) (27 + o_nw O) 0) 0 (nI (o_nw O + 1)) (0 : Int32).toNatClampNeg = nI (o_nw O + 1) from if_pos rfl, show nI (o_nw O + 1) - 1 = nI (o_nw O) from nI_pred _]
  exact q M2 _ (fun z hz => by rw [e2, kz_up_ne hz, kz_up_ne hz, e1, kz_up_ne hz, kz_up_ne hz]) (by rw [e2, kz_up_2, kz_up_2, e1]; rfl) D2 (W.enrol hO hn fun j => rfl)

theorem m_addWriter (hG : kz_stat G) (I : mo_I M O hn h sv isS er ea n b l s rb) (hO : ow_Ok2 O) (hh : ∀ i, i < hn → ow_Ok1 (h i)) (hN : ow_Nms O) (q0 : (sp_name (ow_ww n b) && !sp_taken O (ow_ww n b)) = false → mo_K M O hn h sv isS er ea 0 b l 0 (Qr (some (.int (-2))))) (q1 : sp_name (ow_ww n b) = true → sp_taken O (ow_ww n b) = false → 6 ≤ o_nw O → mo_K M O hn h sv isS er ea 0 b l 0 (Qr (some (.int (-3))))) (q2 : sp_name (ow_ww n b) = true → sp_taken O (ow_ww n b) = false → o_nw O < 6 → mo_K M (o_enrol O (ow_ww n b)) (o_keep hn h O).1 (o_keep hn h O).2 sv isS er ea 0 b l 0 (Qr (some (.int (nI (o_nw O)))))) : kz_C G (d + 7) 0 0 mX12_addWriter [.ref 99] M Qr Qx := by
  have I0 := I.th' 0
  have C0 := I.cf 0
  have h9 : upd s 9 0 9 = nI 0 := rfl
  refine rX12_addWriter_0 ⟨_, I.1, ow_l rfl, ?_⟩
  generalize kz_up M 99 (.inl (11, (mo_fs s rb).set 9 (.int 0))) = M0 at I0 C0 ⊢
  generalize upd s 9 0 = s0 at I0 h9
  obtain ⟨f, g, D, W⟩ := I0.D
  have hwk := hO.1.1.2.2.2.1
  have hnw := hO.1.1.2.2.1
  have hO1 := hO.1
  obtain ⟨hn6, fi, c1, c2⟩ := I0.inp
  refine ⟨_, _, D.1, rfl, _, D.1, ow_l rfl, ?_⟩
  rw [I0.2.1.2.2.1]
  have J : mo_I (kz_up M0 99 (.inl (11, (mo_fs s0 rb).set 19 (.int 0)))) O hn h sv isS er ea 0 b l (upd s0 19 (nI 0)) rb := I0.n0 0 (Nat.zero_le _)
  have D1 : mo_D (kz_up M0 99 (.inl (11, (mo_fs s0 rb).set 19 (.int 0)))) (upd s0 19 (nI 0)) rb f g := D.up (s' := upd s0 19 (nI 0)) (rb' := rb)
  have B : mo_in (kz_up M0 99 (.inl (11, (mo_fs s0 rb).set 19 (.int 0)))) (upd s0 19 (nI 0)) rb n b := ⟨D1.1, hn6, fi, (kz_up_ne (by omega)).trans c1, c2⟩
  have C1 : mo_Cf M (kz_up M0 99 (.inl (11, (mo_fs s0 rb).set 19 (.int 0)))) := C0.up (a := 99) (by omega) (by omega)
  have h91 : upd s0 19 (nI 0) 9 = nI 0 := h9
  generalize kz_up M0 99 (.inl (11, (mo_fs s0 rb).set 19 (.int 0))) = M1 at J D1 B C1 ⊢
  generalize upd s0 19 (nI 0) = s1 at J D1 B h91
  have hb0 : (fun t => b (0 + t)) = b := funext fun t => by rw [Nat.zero_add]
  have hisn := mo_isn_ww n b
  have isn : ∀ {M2 : kz_M} {s2 : Nat → Int32} {Q2 : Option Value → kz_M → Prop}, mo_in M2 s2 rb n b → Q2 (some (.int (ow_b (mo_isn b n)))) M2 → kz_C G (d + 6) 0 0 mX12_isName [.ref 99, .int 0, .int (nI n)] M2 Q2 Qx := fun B2 h => by
    have := m_isName (G := G) (d := d) (Qx := Qx) (i := 0) (k := n) hG B2 (by omega) (by rw [hb0]; exact h)
    rw [Nat.zero_add] at this
    exact this
  refine ⟨B.ob, isn B ?_⟩
  rw [← hisn]
  refine ⟨_, rfl, ow_if0 (fun hz => (q0 (by rw [hz]; rfl)).go C1 J h91) (fun hz => ?_)⟩
  rw [hisn] at hz
  unfold mo_isn at hz
  simp only [Bool.and_eq_true, decide_eq_true_eq] at hz
  obtain ⟨h1, h6, hal, hsn⟩ := hz
  have hl := mo_al.mp hal
  have hww : ow_ww n b = ow_nm b 0 n := by
    unfold ow_ww
    rw [if_pos (by omega), if_pos hal]
  rw [hww] at q0 q1 q2
  rw [hsn, Bool.true_and] at q0
  have hx : ow_Nm (ow_nm b 0 n) := ⟨b, n, h1, h6, hl, rfl⟩
  have pkd : ∀ {M2 : kz_M} {s2 : Nat → Int32} {Q2 : Option Value → kz_M → Prop}, mo_in M2 s2 rb n b → Q2 (some (.int (nI (mo_nm (ow_nm b 0 n))))) M2 → kz_C G (d + 6) 0 0 mX12_packed [.ref 99, .int 0, .int (nI n)] M2 Q2 Qx := fun B2 h => by
    have := m_packed (G := G) (d := d + 6) (Qx := Qx) (i := 0) (k := n) B2 (by omega) h6 (by rw [hb0]; exact hl) (by rw [hb0]; exact h)
    rw [Nat.zero_add] at this
    exact this
  refine ⟨B.ob, pkd B ⟨_, rfl, B.ob, m_isTaken D1 W hO1 hN hx ⟨_, rfl, ow_if0 (fun ht => ?_) (fun ht => (q0 (by rw [ht]; rfl)).go C1 J h91)⟩⟩⟩
  refine ⟨_, _, D1.1, rfl, _, _, D1.2.1, mo_in0, ?_⟩
  rw [W.at0]
  refine ⟨fun z => ?_, fun z => ?_⟩
  · have hlt : o_nw O < 6 := by
      have : o_nw O ≠ 6 := fun e => z (by rw [e]; rfl)
      omega
    refine ⟨D1.ob, m_remembers J D1 W hO1 hh fun M2 s2 S2 t2 e2 I2 D2 => ⟨rfl, D2.ob, pkd (s2 := s2) ⟨D2.1, hn6, ?_⟩ ⟨_, rfl, D2.ob, m_joins D2 W hO1 hlt fun M3 f3 S3 t3 D3 W3 => ⟨_, rfl, ?_⟩⟩⟩⟩
    · obtain ⟨-, -, f', x1, x2⟩ := B
      exact ⟨f', (S2 112 (by omega)).trans x1, x2⟩
    · exact (q2 hsn ht hlt).chg C1 S2 t2 I2 ((e2 9 (by omega)).trans h91) (fun z hz => S3 z (by omega)) t3 D3 W3
  · have h6' : o_nw O = 6 := (nI_eq (b := 6) (by omega) (by omega)).mp z
    exact (q1 hsn ht (by omega)).go C1 J h91
end MOA
