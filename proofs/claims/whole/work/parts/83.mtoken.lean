/-! Part 83: the reference: its tokens -/
def mo_k0 (n : Nat) (b : Nat → Nat) (s : Nat) : Nat := if s < n then (if sp_le b s then 1 else if sp_dg b s then 2 else if b s = 59 then 3 else 4) else 0
theorem mo_k0_1 {n : Nat} {b : Nat → Nat} {i : Nat} : mo_k0 n b (sp_st n b i) = 1 ↔ sp_tk n b i = 1 := by
  unfold sp_tk mo_k0 sp_k0
  split
  · split
    · exact Iff.rfl
    · split
      · split <;> exact ⟨fun z => by omega, fun z => by omega⟩
      · exact Iff.rfl
  · exact Iff.rfl
theorem mo_k0_0 {n : Nat} {b : Nat → Nat} {i : Nat} : mo_k0 n b (sp_st n b i) = 0 ↔ sp_tk n b i = 0 := by
  unfold sp_tk mo_k0 sp_k0
  split
  · split
    · exact Iff.rfl
    · split
      · split <;> exact ⟨fun z => by omega, fun z => by omega⟩
      · exact Iff.rfl
  · exact Iff.rfl
theorem mo_k0_3 {n : Nat} {b : Nat → Nat} {i : Nat} : mo_k0 n b (sp_st n b i) = 3 ↔ sp_tk n b i = 3 := by
  unfold sp_tk mo_k0 sp_k0
  split
  · split
    · exact Iff.rfl
    · split
      · split <;> exact ⟨fun z => by omega, fun z => by omega⟩
      · exact Iff.rfl
  · exact Iff.rfl
theorem mo_k0_2 {n : Nat} {b : Nat → Nat} {i : Nat} : (mo_k0 n b (sp_st n b i) = 2 ∧ sp_en n b i - sp_st n b i ≤ 5) ↔ sp_tk n b i = 2 := by
  unfold sp_tk mo_k0 sp_k0 sp_en sp_e0
  split
  · split
    · exact ⟨fun z => by omega, fun z => by omega⟩
    · split
      · split
        · rename_i h
          exact ⟨fun _ => rfl, fun _ => ⟨rfl, h⟩⟩
        · rename_i h
          exact ⟨fun z => absurd z.2 h, fun z => by omega⟩
      · split <;> exact ⟨fun z => by omega, fun z => by omega⟩
  · exact ⟨fun z => by omega, fun z => by omega⟩
theorem mo_k0_le (n : Nat) (b : Nat → Nat) (s : Nat) : mo_k0 n b s ≤ 4 := by
  unfold mo_k0
  split
  · split
    · omega
    · split
      · omega
      · split <;> omega
  · omega
/-- the token behind a place, as its fields hold it -/
def mo_T (n : Nat) (b : Nat → Nat) (s : Nat → Int32) (i : Nat) : Prop := s 25 = nI (sp_st n b i) ∧ s 24 = nI (sp_en n b i) ∧ s 27 = nI (mo_k0 n b (sp_st n b i)) ∧ (sp_tk n b i = 2 → s 26 = nI (sp_vl n b i))
/-- what reading a token leaves as it was -/
def mo_TS (M0 : kz_M) (s0 : Nat → Int32) (rb : Int64) (M : kz_M) (s : Nat → Int32) : Prop := ow_Sm (· = 99) M0 M ∧ M.2 = M0.2 ∧ M.1 99 = some (.inl (11, mo_fs s rb)) ∧ ∀ j, j < 24 ∨ 27 < j → s j = s0 j
section MOA
variable {G : kz_G} {d : Nat} {Qr : Option Value → kz_M → Prop} {Qx : String → kz_M → Prop} {M : kz_M} {O : ow_O} {s : Nat → Int32} {rb : Int64} {hn : Nat} {h : Nat → ow_O} {sv : ow_O} {isS : Bool} {er : Nat} {ea : Int32} {n : Nat} {b : Nat → Nat} {l : List Nat} {f : Nat → Int32} {g : Nat → Int64}
variable {M0 : kz_M} {s0 : Nat → Int32}
theorem mo_TS.ob (T : mo_TS M0 s0 rb M s) : ∃ fs, M.1 99 = some (.inl (11, fs)) := ⟨_, T.2.2.1⟩
theorem mo_TS.u24 (T : mo_TS M0 s0 rb M s) (v : Int32) : mo_TS M0 s0 rb (kz_up M 99 (.inl (11, (mo_fs s rb).set 24 (.int v)))) (upd s 24 v) := ⟨fun z hz => (kz_up_ne hz).trans (T.1 z hz), T.2.1, kz_up_same _ _ _, fun j hj => (if_neg (by omega)).trans (T.2.2.2 j hj)⟩
theorem mo_TS.u25 (T : mo_TS M0 s0 rb M s) (v : Int32) : mo_TS M0 s0 rb (kz_up M 99 (.inl (11, (mo_fs s rb).set 25 (.int v)))) (upd s 25 v) := ⟨fun z hz => (kz_up_ne hz).trans (T.1 z hz), T.2.1, kz_up_same _ _ _, fun j hj => (if_neg (by omega)).trans (T.2.2.2 j hj)⟩
theorem mo_TS.u26 (T : mo_TS M0 s0 rb M s) (v : Int32) : mo_TS M0 s0 rb (kz_up M 99 (.inl (11, (mo_fs s rb).set 26 (.int v)))) (upd s 26 v) := ⟨fun z hz => (kz_up_ne hz).trans (T.1 z hz), T.2.1, kz_up_same _ _ _, fun j hj => (if_neg (by omega)).trans (T.2.2.2 j hj)⟩
theorem mo_TS.u27 (T : mo_TS M0 s0 rb M s) (v : Int32) : mo_TS M0 s0 rb (kz_up M 99 (.inl (11, (mo_fs s rb).set 27 (.int v)))) (upd s 27 v) := ⟨fun z hz => (kz_up_ne hz).trans (T.1 z hz), T.2.1, kz_up_same _ _ _, fun j hj => (if_neg (by omega)).trans (T.2.2.2 j hj)⟩
theorem mo_TS.inp (T : mo_TS M0 s0 rb M s) (B : mo_in M0 s0 rb n b) : mo_in M s rb n b := by
  obtain ⟨-, h1, f, h2, h3⟩ := B
  exact ⟨T.2.2.1, h1, f, (T.1 112 (by omega)).trans h2, h3⟩
theorem mo_in.lt (B : mo_in M s rb n b) : ∀ i, i < n → b i < 256 := by
  obtain ⟨-, h1, f, h2, h3⟩ := B
  exact fun i hi => (h3 i hi).2
theorem m_byteAt {k : Nat} (B : mo_in M s rb n b) (h19 : s 19 = nI n) (hk : k < 2 ^ 31) (q : Qr (some (.int (ow_sg n b k))) M) : kz_C G d 0 0 mX12_byteAt [.ref 99, .int (nI k)] M Qr Qx := by
  obtain ⟨h99, h1, f, h2, h3⟩ := B
  refine rX12_byteAt_0 ⟨_, _, h99, rfl, ?_⟩
  rw [h19]
  refine pk_le n k (fun hz => ?_) (fun hz => ⟨_, _, h99, rfl, _, _, h2, vp_in_nI (by omega) (by omega), ?_⟩) rfl rfl
  · rw [ow_sg, if_neg (by omega)] at q; exact q
  · rw [ow_sg, if_pos hz] at q
    rw [nI_clamp (by omega), (h3 k hz).1]
    exact q
theorem m_isL {x : Int32} (q : Qr (some (.int (ow_b (ow_isl x)))) M) : kz_C G (d + 1) 0 0 mX12_isLetter [.int x] M Qr Qx := rX12_isLetter_0 (m_in (v := ow_isl x) rfl ⟨_, rfl, ow_nar _, q⟩)
theorem ow_sg_1 {k : Nat} (h : ¬ k < n) : ow_sg n b k = -1 := if_neg h
theorem m_words (B : mo_in M0 s0 rb n b) (h19 : s0 19 = nI n) : ∀ f i, n ≤ i + f → i ≤ n → ∀ M s, mo_TS M0 s0 rb M s → s 24 = nI i → (∀ M1 s1, mo_TS M0 s0 rb M1 s1 → s1 24 = nI (sp_end (sp_le b) n i) → s1 25 = s 25 → s1 27 = s 27 → Qr none M1) → zX12_advanceToken_86 G d Qr Qx 99 M := by
  have hn6 := B.2.1
  intro f
  induction f with
  | zero =>
    intro i hf hi M s T h24 q
    have B1 := T.inp B
    have h19' : s 19 = nI n := (T.2.2.2 19 (by omega)).trans h19
    rw [sp_end_n (fun z => by omega)] at q
    refine rX12_advanceToken_86 ⟨_, _, T.2.2.1, rfl, T.ob, ?_⟩
    rw [h24]
    refine m_byteAt B1 h19' (by omega) ⟨_, rfl, m_isL ⟨_, rfl, ?_⟩⟩
    rw [ow_sg_1 (by omega)]
    exact ow_y (by decide) (q M s T h24 rfl rfl)
  | succ f ih =>
    intro i hf hi M s T h24 q
    have B1 := T.inp B
    have h19' : s 19 = nI n := (T.2.2.2 19 (by omega)).trans h19
    refine rX12_advanceToken_86 ⟨_, _, T.2.2.1, rfl, T.ob, ?_⟩
    rw [h24]
    refine m_byteAt B1 h19' (by omega) ⟨_, rfl, m_isL ⟨_, rfl, ?_⟩⟩
    by_cases hin : i < n
    · rw [show ow_sg n b i = nI (b i) from if_pos hin, rd_L_isl (B.lt i hin)]
      refine ow_if0 (fun hl => ?_) (fun hl => ⟨_, _, T.2.2.1, rfl, _, T.2.2.1, ow_l rfl, ?_⟩)
      · rw [sp_end_n (p := sp_le b) (fun _ => hl)] at q
        exact q M s T h24 rfl rfl
      · rw [sp_end_y hin hl] at q
        rw [h24, nI_1]
        exact ih (i + 1) (by omega) (by omega) _ _ (T.u24 (nI (i + 1))) rfl q
    · rw [sp_end_n (fun z => absurd z hin)] at q
      rw [ow_sg_1 hin]
      exact ow_y (by decide) (q M s T h24 rfl rfl)
theorem m_digits {st : Nat} (B : mo_in M0 s0 rb n b) (h19 : s0 19 = nI n) : ∀ f i, n ≤ i + f → st ≤ i → i ≤ n → ∀ M s, mo_TS M0 s0 rb M s → s 24 = nI i → s 25 = nI st → (i - st ≤ 5 → s 26 = nI (sp_nv b st (i - st))) → (∀ M1 s1, mo_TS M0 s0 rb M1 s1 → s1 24 = nI (sp_end (sp_dg b) n i) → s1 25 = nI st → s1 27 = s 27 → (sp_end (sp_dg b) n i - st ≤ 5 → s1 26 = nI (sp_nv b st (sp_end (sp_dg b) n i - st))) → Qr none M1) → zX12_advanceToken_129 G d Qr Qx 99 M := by
  have hn6 := B.2.1
  intro f
  induction f with
  | zero =>
    intro i hf hsi hi M s T h24 h25 h26 q
    have B1 := T.inp B
    have h19' : s 19 = nI n := (T.2.2.2 19 (by omega)).trans h19
    rw [sp_end_n (fun z => by omega)] at q
    refine rX12_advanceToken_129 ⟨_, _, T.2.2.1, rfl, T.ob, ?_⟩
    rw [h24]
    refine m_byteAt B1 h19' (by omega) ⟨_, rfl, m_in (v := false) ?_ ⟨_, rfl, ?_⟩⟩
    · rw [ow_sg_1 (by omega)]; decide
    · exact ow_y (by decide) (q M s T h24 h25 rfl h26)
  | succ f ih =>
    intro i hf hsi hi M s T h24 h25 h26 q
    have B1 := T.inp B
    have h19' : s 19 = nI n := (T.2.2.2 19 (by omega)).trans h19
    refine rX12_advanceToken_129 ⟨_, _, T.2.2.1, rfl, T.ob, ?_⟩
    rw [h24]
    refine m_byteAt B1 h19' (by omega) ⟨_, rfl, ?_⟩
    by_cases hin : i < n
    · have hsg : ow_sg n b i = nI (b i) := if_pos hin
      rw [hsg]
      refine m_in (v := sp_dg b i) (ow_isdN _ (B.lt i hin)).symm ⟨_, rfl, ow_if0 (fun hl => ?_) (fun hl => ⟨_, _, T.2.2.1, rfl, _, _, T.2.2.1, rfl, ?_⟩)⟩
      · rw [sp_end_n (fun _ => hl)] at q
        exact q M s T h24 h25 rfl h26
      · rw [sp_end_y hin hl] at q
        have hcc : 48 ≤ b i ∧ b i ≤ 57 := by
          unfold sp_dg at hl
          simpa using hl
        rw [h24, h25, pk_sub hsi]
        refine pk_le 5 (i - st) (fun h5 => ⟨_, _, T.2.2.1, rfl, _, T.2.2.1, ow_l rfl, ?_⟩) (fun h5 => ⟨_, _, T.2.2.1, rfl, _, _, T.2.2.1, rfl, T.ob, ?_⟩) rfl rfl
        · rw [h24, nI_1]
          exact ih (i + 1) (by omega) (by omega) (by omega) _ _ (T.u24 (nI (i + 1))) rfl h25 (fun z => absurd z (by omega)) q
        · rw [h24]
          refine m_byteAt B1 h19' (by omega) ⟨_, rfl, _, T.2.2.1, ow_l rfl, ?_⟩
          rw [hsg, h26 (by omega), show (10 : Int32) * nI (sp_nv b st (i - st)) = nI (10 * sp_nv b st (i - st)) from pk_mul 10 _, nI_add, show nI (10 * sp_nv b st (i - st) + b i) - 48 = nI (10 * sp_nv b st (i - st) + b i - 48) from pk_sub (b := 48) (by omega)]
          have T1 := T.u26 (nI (10 * sp_nv b st (i - st) + b i - 48))
          refine ⟨_, _, T1.2.2.1, rfl, _, T1.2.2.1, ow_l rfl, ?_⟩
          have e24 : upd s 26 (nI (10 * sp_nv b st (i - st) + b i - 48)) 24 = nI i := h24
          rw [e24, nI_1]
          refine ih (i + 1) (by omega) (by omega) (by omega) _ _ (T1.u24 (nI (i + 1))) rfl h25 (fun z => ?_) q
          rw [show i + 1 - st = (i - st) + 1 by omega, sp_nv, show st + (i - st) = i by omega]
          show nI (10 * sp_nv b st (i - st) + b i - 48) = _
          rw [show 10 * sp_nv b st (i - st) + b i - 48 = 10 * sp_nv b st (i - st) + (b i - 48) by omega]
    · rw [sp_end_n (fun z => absurd z hin)] at q
      refine m_in (v := false) ?_ ⟨_, rfl, ?_⟩
      · rw [ow_sg_1 hin]; decide
      · exact ow_y (by decide) (q M s T h24 h25 rfl h26)
theorem m_classify {e : Nat} (B : mo_in M0 s0 rb n b) (h19 : s0 19 = nI n) (he : e ≤ n) (hnb : e < n → sp_bl b e = false) (T : mo_TS M0 s0 rb M s) (h24 : s 24 = nI e) (q : ∀ M1 s1, mo_TS M0 s0 rb M1 s1 → s1 25 = nI e → s1 24 = nI (sp_e0 n b e) → s1 27 = nI (mo_k0 n b e) → (mo_k0 n b e = 2 → sp_e0 n b e - e ≤ 5 → s1 26 = nI (sp_v0 n b e)) → Qr none M1) : zX12_advanceToken_0 G d Qr Qx 99 M := by
  have hn6 := B.2.1
  have B1 := T.inp B
  have h19' : s 19 = nI n := (T.2.2.2 19 (by omega)).trans h19
  have nsg : ∀ c : Nat, c < 256 → (c = 32 ∨ c = 10) → ¬ ow_sg n b e = nI c := fun c hc hcc z => by
    by_cases hin : e < n
    · rw [show ow_sg n b e = nI (b e) from if_pos hin] at z
      have hb := B.lt e hin
      have := (nI_eq (by omega) (by omega)).mp z
      have h0 := hnb hin
      unfold sp_bl at h0
      rw [this] at h0
      rcases hcc with rfl | rfl <;> simp at h0
    · rw [ow_sg_1 hin] at z
      exact absurd z (by rcases hcc with rfl | rfl <;> decide)
  refine rX12_advanceToken_0 ⟨_, _, T.2.2.1, rfl, T.ob, ?_⟩
  rw [h24]
  refine m_byteAt B1 h19' (by omega) ⟨_, rfl, fun z => absurd z (nsg 32 (by omega) (Or.inl rfl)), fun _ => ⟨_, _, T.2.2.1, rfl, T.ob, ?_⟩⟩
  rw [h24]
  refine m_byteAt B1 h19' (by omega) ⟨_, rfl, fun _ => ⟨_, _, T.2.2.1, rfl, _, T.2.2.1, ow_l rfl, ?_⟩, fun z => absurd z (nsg 10 (by omega) (Or.inr rfl))⟩
  rw [h24]
  have T1 := T.u25 (nI e)
  refine ⟨_, _, T1.2.2.1, rfl, T1.ob, ?_⟩
  have f24 : upd s 25 (nI e) 24 = nI e := h24
  rw [f24]
  refine m_byteAt (T1.inp B) h19' (by omega) ⟨_, rfl, _, T1.2.2.1, ow_l rfl, ?_⟩
  have T2 := T1.u26 0
  have g24 : upd (upd s 25 (nI e)) 26 0 24 = nI e := h24
  have g25 : upd (upd s 25 (nI e)) 26 0 25 = nI e := rfl
  have g26 : upd (upd s 25 (nI e)) 26 0 26 = 0 := rfl
  generalize kz_up (kz_up M 99 (.inl (11, (mo_fs s rb).set 25 (.int (nI e))))) 99 (.inl (11, (mo_fs (upd s 25 (nI e)) rb).set 26 (.int 0))) = M2 at T2 ⊢
  generalize upd (upd s 25 (nI e)) 26 0 = s2 at T2 g24 g25 g26
  by_cases hin : e < n
  · have hb := B.lt e hin
    have hsg : ow_sg n b e = nI (b e) := if_pos hin
    have em1 : ∀ c, c < 256 → ¬ nI c = -1 := by decide +kernel
    rw [hsg]
    refine ⟨fun _ => m_isL ⟨_, rfl, ?_⟩, fun z => absurd z (em1 _ hb)⟩
    rw [rd_L_isl hb]
    refine ow_if0 (fun hl => m_in (v := sp_dg b e) (ow_isdN _ hb).symm ⟨_, rfl, ow_if0 (fun hd => ?_) (fun hd => ⟨_, T2.2.2.1, ow_l rfl, ?_⟩)⟩) (fun hl => ⟨_, T2.2.2.1, ow_l rfl, ?_⟩)
    · have hl' : sp_le b e = false := hl
      have ee : sp_e0 n b e = e + 1 := by unfold sp_e0; rw [if_pos hin, hl', hd]; rfl
      refine ⟨fun h59 => ⟨_, T2.2.2.1, ow_l rfl, ?_⟩, fun h59 => ⟨_, T2.2.2.1, ow_l rfl, ?_⟩⟩
      · have T3 := T2.u27 4
        have k24 : upd s2 27 4 24 = nI e := g24
        have ek : mo_k0 n b e = 4 := by
          unfold mo_k0
          rw [if_pos hin, hl', hd, if_neg (by decide), if_neg (by decide), if_neg (fun z => h59 (by rw [z]; rfl))]
        refine ⟨_, _, T3.2.2.1, rfl, _, T3.2.2.1, ow_l rfl, ?_⟩
        rw [k24, nI_1]
        exact q _ _ (T3.u24 (nI (e + 1))) g25 (by rw [ee]; rfl) (by rw [ek]; rfl) (fun z => by omega)
      · have T3 := T2.u27 3
        have k24 : upd s2 27 3 24 = nI e := g24
        have ek : mo_k0 n b e = 3 := by
          unfold mo_k0
          rw [if_pos hin, hl', hd, if_neg (by decide), if_neg (by decide), if_pos ((nI_eq (b := 59) (by omega) (by omega)).mp h59)]
        refine ⟨_, _, T3.2.2.1, rfl, _, T3.2.2.1, ow_l rfl, ?_⟩
        rw [k24, nI_1]
        exact q _ _ (T3.u24 (nI (e + 1))) g25 (by rw [ee]; rfl) (by rw [ek]; rfl) (fun z => by omega)
    · have hl' : sp_le b e = false := hl
      have ee : sp_e0 n b e = sp_end (sp_dg b) n e := by unfold sp_e0; rw [if_pos hin, hl', hd]; rfl
      have ek : mo_k0 n b e = 2 := by unfold mo_k0; rw [if_pos hin, hl', hd]; rfl
      have T3 := T2.u27 2
      refine m_digits (st := e) B h19 (n - e) e (by omega) (Nat.le_refl _) he _ _ T3 g24 g25 (fun _ => ?_) fun M3 s3 T4 a24 a25 a27 a26 => q M3 s3 T4 a25 (by rw [ee]; exact a24) (by rw [ek]; exact a27) (fun _ z => ?_)
      · rw [Nat.sub_self]; exact g26
      · rw [ee] at z
        exact a26 z
    · have hl' : sp_le b e = true := hl
      have ee : sp_e0 n b e = sp_end (sp_le b) n e := by unfold sp_e0; rw [if_pos hin, hl']; rfl
      have ek : mo_k0 n b e = 1 := by unfold mo_k0; rw [if_pos hin, hl']; rfl
      have T3 := T2.u27 1
      exact m_words B h19 (n - e) e (by omega) he _ _ T3 g24 fun M3 s3 T4 a24 a25 a27 => q M3 s3 T4 (a25.trans g25) (by rw [ee]; exact a24) (by rw [ek]; exact a27) (fun z => by omega)
  · rw [ow_sg_1 hin]
    have ee : sp_e0 n b e = e := by unfold sp_e0; rw [if_neg hin]
    have ek : mo_k0 n b e = 0 := by unfold mo_k0; rw [if_neg hin]
    refine ⟨fun z => absurd rfl z, fun _ => ⟨_, T2.2.2.1, ow_l rfl, ?_⟩⟩
    exact q _ _ (T2.u27 0) g25 (by rw [ee]; exact g24) (by rw [ek]; rfl) (fun z => by omega)
theorem m_token {i : Nat} (B : mo_in M0 s0 rb n b) (h19 : s0 19 = nI n) (hi : i ≤ n) (h24 : s0 24 = nI i) (q : ∀ M1 s1, mo_TS M0 s0 rb M1 s1 → mo_T n b s1 i → Qr none M1) : kz_C G (d + 2) 0 0 mX12_advanceToken [.ref 99] M0 Qr Qx := by
  have hn6 := B.2.1
  have fin : ∀ M s, mo_TS M0 s0 rb M s → s 24 = nI (sp_st n b i) → zX12_advanceToken_0 G d Qr Qx 99 M := fun M s T h24 => m_classify B h19 (sp_end_le hi) (fun hlt => by
    by_cases hb : sp_bl b (sp_st n b i) = true
    · exfalso
      have h1 : sp_end (sp_bl b) n (sp_st n b i) = sp_st n b i := by
        have key : ∀ f j, n ≤ j + f → sp_end (sp_bl b) n (sp_end (sp_bl b) n j) = sp_end (sp_bl b) n j := by
          intro f
          induction f with
          | zero =>
            intro j hj
            have e : sp_end (sp_bl b) n j = j := sp_end_n fun z => by omega
            rw [e, e]
          | succ f ih =>
            intro j hj
            by_cases hin : j < n
            · cases hz : sp_bl b j with
              | true => rw [sp_end_y hin hz]; exact ih (j + 1) (by omega)
              | false =>
                have e : sp_end (sp_bl b) n j = j := sp_end_n fun _ => hz
                rw [e, e]
            · have e : sp_end (sp_bl b) n j = j := sp_end_n fun z => absurd z hin
              rw [e, e]
        exact key n i (by omega)
      rw [sp_end_y (i := sp_st n b i) hlt hb] at h1
      have := sp_end_ge (sp_bl b) n (sp_st n b i + 1)
      omega
    · exact Bool.eq_false_iff.mpr hb) T h24 fun M1 s1 T1 a25 a24 a27 a26 => q M1 s1 T1 ⟨a25, a24, a27, fun z => by
      obtain ⟨z1, z2⟩ := mo_k0_2.mpr z
      exact a26 z1 z2⟩
  have key : ∀ f j, n ≤ j + f → j ≤ n → sp_end (sp_bl b) n j = sp_st n b i → ∀ M s, mo_TS M0 s0 rb M s → s 24 = nI j → zX12_advanceToken_0 G d Qr Qx 99 M := by
    intro f
    induction f with
    | zero =>
      intro j hf hj he M s T h24
      rw [sp_end_n (fun z => by omega)] at he
      exact fin M s T (by rw [← he]; exact h24)
    | succ f ih =>
      intro j hf hj he M s T h24
      by_cases hin : j < n
      · cases hz : sp_bl b j with
        | false =>
          rw [sp_end_n (fun _ => hz)] at he
          exact fin M s T (by rw [← he]; exact h24)
        | true =>
          rw [sp_end_y hin hz] at he
          have hb := B.lt j hin
          have hsg : ow_sg n b j = nI (b j) := if_pos hin
          have B1 := T.inp B
          have h19' : s 19 = nI n := (T.2.2.2 19 (by omega)).trans h19
          have nx := ih (j + 1) (by omega) (by omega) he _ _ (T.u24 (nI (j + 1))) rfl
          refine rX12_advanceToken_0 ⟨_, _, T.2.2.1, rfl, T.ob, ?_⟩
          rw [h24]
          refine m_byteAt B1 h19' (by omega) ⟨_, rfl, fun _ => ⟨_, _, T.2.2.1, rfl, _, T.2.2.1, ow_l rfl, ?_⟩, fun h32 => ⟨_, _, T.2.2.1, rfl, T.ob, ?_⟩⟩
          · rw [h24, nI_1]; exact nx
          · rw [h24]
            refine m_byteAt B1 h19' (by omega) ⟨_, rfl, fun h10 => ?_, fun _ => ⟨_, _, T.2.2.1, rfl, _, T.2.2.1, ow_l rfl, ?_⟩⟩
            · exfalso
              rw [hsg] at h32 h10
              unfold sp_bl at hz
              simp only [Bool.or_eq_true, decide_eq_true_eq] at hz
              rcases hz with z | z
              · exact h32 (by rw [z]; rfl)
              · exact h10 (by rw [z]; rfl)
            · rw [h24, nI_1]; exact nx
      · rw [sp_end_n (fun z => absurd z hin)] at he
        exact fin M s T (by rw [← he]; exact h24)
  exact rX12_advanceToken_e (key n i (by omega) hi rfl M0 s0 ⟨fun _ _ => rfl, rfl, B.1, fun _ _ => rfl⟩ h24)
end MOA
