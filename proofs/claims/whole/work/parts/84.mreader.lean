/-! Part 84: the reference reads a setup text -/
theorem mo_sm31 : ∀ k, k < 31 → (((nI k &&& 31) : Int32).toBitVec.smod 32).toNat = k := by decide +kernel
theorem mo_one32 (x : Int32) : (x &&& 1 = 1) ↔ x.toBitVec.getLsbD 0 = true := by
  have h1 : ∀ i : Fin 32, (1 : Int32).toBitVec.getLsbD i.val = decide (i.val = 0) := by decide
  constructor
  · intro h
    have h2 : (x &&& 1 : Int32).toBitVec.getLsbD 0 = (1 : Int32).toBitVec.getLsbD 0 := congrArg (fun z : Int32 => z.toBitVec.getLsbD 0) h
    have h3 : (x &&& 1 : Int32).toBitVec.getLsbD 0 = (x.toBitVec.getLsbD 0 && (1 : Int32).toBitVec.getLsbD 0) := by
      show (x.toBitVec &&& (1 : Int32).toBitVec).getLsbD 0 = _
      rw [BitVec.getLsbD_and]
    have h4 : (1 : Int32).toBitVec.getLsbD 0 = true := h1 ⟨0, by omega⟩
    rw [h3, h4, Bool.and_true] at h2
    exact h2
  · intro h
    apply Int32.toBitVec_inj.1
    apply BitVec.eq_of_getLsbD_eq
    intro i hi
    show (x.toBitVec &&& (1 : Int32).toBitVec).getLsbD i = _
    rw [BitVec.getLsbD_and, h1 ⟨i, hi⟩]
    by_cases h0 : i = 0
    · subst h0
      rw [h]; rfl
    · rw [decide_eq_false h0, Bool.and_false]
def mo_b32 (x : Int32) (k : Nat) : Bool := decide ((x >>> (nI k &&& 31)) &&& 1 = 1)
theorem mo_b32_bit {br : Int32} {k : Nat} (hk : k < 31) : mo_b32 br k = br.toBitVec.getLsbD k := by
  have hD := mo_sm31 k hk
  have e : (br >>> (nI k &&& 31)).toBitVec.getLsbD 0 = br.toBitVec.getLsbD k := by
    have e2 : (br >>> (nI k &&& 31)).toBitVec = br.toBitVec.sshiftRight k := by
      show br.toBitVec.sshiftRight ((((nI k &&& 31) : Int32).toBitVec.smod 32).toNat) = _
      rw [hD]
    rw [e2, BitVec.getLsbD_sshiftRight]
    simp
    omega
  unfold mo_b32
  cases h : br.toBitVec.getLsbD k with
  | true => exact decide_eq_true ((mo_one32 _).mpr (e.trans h))
  | false =>
    refine decide_eq_false fun z => ?_
    have := (mo_one32 _).mp z
    rw [e, h] at this
    cases this
theorem mo_shl32 : ∀ j, j < 10 → ∀ k, k < 10 → ((1 : Int32) <<< (nI j &&& 31)).toBitVec.getLsbD k = decide (k = j) := by decide +kernel
theorem mo_b32_or {br : Int32} {j k : Nat} (hj : j < 10) (hk : k < 10) : mo_b32 (br ||| ((1 : Int32) <<< (nI j &&& 31))) k = (mo_b32 br k || decide (k = j)) := by
  rw [mo_b32_bit (by omega), mo_b32_bit (by omega)]
  show (br.toBitVec ||| ((1 : Int32) <<< (nI j &&& 31)).toBitVec).getLsbD k = _
  rw [BitVec.getLsbD_or, mo_shl32 j hj k hk]
theorem mo_b32_0 {k : Nat} (hk : k < 10) : mo_b32 0 k = false := by
  rw [mo_b32_bit (by omega)]
  show (0#32).getLsbD k = false
  simp
theorem mo_cd_w2 : kz_cd 1047 = kz_cd 1034 := by decide +kernel
theorem mo_cd_o2 : kz_cd 1046 = kz_cd 1035 := by decide +kernel
theorem kz_cd_pos : ∀ j ∈ kz_read, 0 < kz_cd j := by decide +kernel
theorem ow_ww_nm {b : Nat → Nat} {k : Nat} (hl : mo_lt b k) : ow_ww k b = if k ≤ 12 then ow_nm b 0 k else 0 := by
  unfold ow_ww
  rw [mo_al.mpr hl]
  rfl
theorem ow_cd_eq {b : Nat → Nat} {k j : Nat} (hl : mo_lt b k) (hj : j ∈ kz_read) : ow_nm b 0 k = kz_cd j ↔ ow_ww k b = kz_cd j := by
  rw [ow_ww_nm hl]
  by_cases h : k ≤ 12
  · rw [if_pos h]
  · rw [if_neg h]
    have hp := kz_cd_pos j hj
    have h8 := tx_len j hj
    have htl : mo_lt (tx_b j) (kz_txt j).length := fun t ht => (tx_ok j hj t ht).2
    exact ⟨fun z => absurd (ow_nm_inj hl htl z).1 (by omega), fun z => by omega⟩
theorem ow_set_eq {b : Nat → Nat} {k : Nat} (hl : mo_lt b k) : sp_set (ow_nm b 0 k) = sp_set (ow_ww k b) := by
  by_cases h : k ≤ 12
  · rw [ow_ww_nm hl, if_pos h]
  · have h1 : ∀ w : Nat, (∀ j, j < 10 → kz_cd (kz_wd j) ≠ w) → sp_set w = none := fun w hw => ow_fs_none (p := fun i => decide (kz_cd (kz_wd i) = w)) fun j hj => decide_eq_false (hw j hj)
    rw [h1 _ fun j hj z => ?_, h1 _ fun j hj z => ?_]
    · have hr := kz_wd_in j hj
      have hp := kz_cd_pos _ hr
      rw [ow_ww_nm hl, if_neg h] at z
      omega
    · have hr := kz_wd_in j hj
      have := (ow_cd_eq hl hr).mp z.symm
      have hp := kz_cd_pos _ hr
      rw [ow_ww_nm hl, if_neg h] at this
      omega
theorem sp_wd_ww {n : Nat} {b : Nat → Nat} {i : Nat} (hi : i ≤ n) (h : sp_tk n b i = 1) : mo_lt (fun k => b (sp_st n b i + k)) (sp_en n b i - sp_st n b i) ∧ sp_st n b i + (sp_en n b i - sp_st n b i) = sp_en n b i ∧ sp_wd n b i = ow_ww (sp_en n b i - sp_st n b i) (fun k => b (sp_st n b i + k)) := by
  have hL : sp_st n b i < n ∧ sp_le b (sp_st n b i) = true := by
    unfold sp_tk sp_k0 at h
    split at h
    · rename_i h1
      refine ⟨h1, ?_⟩
      split at h
      · assumption
      · split at h
        · split at h <;> omega
        · split at h <;> omega
    · omega
  have ee : sp_en n b i = sp_end (sp_le b) n (sp_st n b i) := by
    unfold sp_en sp_e0
    rw [if_pos hL.1, if_pos hL.2]
  have hge := sp_end_ge (sp_le b) n (sp_st n b i)
  have hl : mo_lt (fun k => b (sp_st n b i + k)) (sp_en n b i - sp_st n b i) := fun k hk => by
    have := sp_end_all (p := sp_le b) (n := n) (i := sp_st n b i) (j := sp_st n b i + k) (by omega) (by omega)
    unfold sp_le rd_L at this
    simpa using this
  refine ⟨hl, by omega, ?_⟩
  rw [ow_ww_nm hl, ee]
  rfl
/-- the base, but for the office and what a reader keeps -/
def mo_RS (Mb : kz_M) (sb : Nat → Int32) (rb : Int64) (M : kz_M) (s : Nat → Int32) : Prop := ow_Sm (fun z => z = 99 ∨ z = 100) Mb M ∧ M.2 = Mb.2 ∧ M.1 99 = some (.inl (11, mo_fs s rb)) ∧ (∀ j, j < 22 ∨ 29 < j → s j = sb j) ∧ ∃ f, M.1 100 = some (.inr (.int, 3813, .inl f))
/-- what holds of an office that is being read -/
def mo_inv (O : ow_O) : Prop := ow_Ok1 O ∧ ow_Nms O ∧ o_wk O = 0 ∧ ∀ i, i < o_nw O → o_ba O i = 0
def mo_td (s : Nat → Int32) (t : Nat → Bool) : Prop := ∀ j, j < 10 → mo_b32 (s 29) j = t j
def mo_SR (Mb : kz_M) (sb : Nat → Int32) (rb : Int64) (g : Nat → Int64) (n : Nat) (b : Nat → Nat) (M : kz_M) (s : Nat → Int32) (i : Nat) (O : ow_O) (t : Nat → Bool) : Prop := mo_RS Mb sb rb M s ∧ (∃ f, mo_D M s rb f g ∧ mo_W O f g 0 0) ∧ (s 22 = 0 ∧ s 23 = -1) ∧ mo_T n b s i ∧ mo_td s t ∧ mo_inv O ∧ i ≤ n
def mo_FX (Mb : kz_M) (sb : Nat → Int32) (rb : Int64) (M : kz_M) (s : Nat → Int32) (c o : Nat) : Prop := mo_RS Mb sb rb M s ∧ s 22 = nI c ∧ s 23 = nI o
def mo_ib (Mb : kz_M) (sb : Nat → Int32) (n : Nat) (b : Nat → Nat) : Prop := sb 19 = nI n ∧ n ≤ 600 ∧ ∃ f, Mb.1 112 = some (.inr (.int, 600, .inl f)) ∧ ∀ i, i < n → f i = nI (b i) ∧ b i < 256
theorem mo_inv.money {O : ow_O} {m : Nat} (h : mo_inv O) (hm : m ≤ 99999) : mo_inv (o_money O m) := ⟨h.1.money hm, h.2.1, h.2.2⟩
theorem mo_inv.rule {O : ow_O} {j m : Nat} (h : mo_inv O) (hm : m ≤ 99) : mo_inv (o_rule O j m) := ⟨h.1.rule hm, h.2.1, h.2.2⟩
theorem ow_Nm.ok {c : Nat} (h : ow_Nm c) : 0 < c ∧ c < 2 ^ 30 := by
  obtain ⟨b, k, h1, h2, h3, rfl⟩ := h
  obtain ⟨k, rfl⟩ : ∃ m, k = m + 1 := ⟨k - 1, by omega⟩
  exact ⟨ow_nm_pos h3, Nat.lt_of_lt_of_le (ow_nm_lt fun i hi => (h3 i hi).2) (Nat.pow_le_pow_right (by omega) (by omega))⟩
theorem ow_Nms.enrol {O : ow_O} {x : Nat} (h : ow_Nms O) (hx : ow_Nm x) : ow_Nms (o_enrol O x) := fun i hi => by
  have hi : i < o_nw O + 1 := hi
  show ow_Nm (if i = o_nw O then x else o_nm O i)
  split
  · exact hx
  · exact h i (by omega)
theorem mo_inv.enrol {O : ow_O} {x : Nat} (h : mo_inv O) (hn : o_nw O < 6) (hx : ow_Nm x) : mo_inv (o_enrol O x) := ⟨h.1.enrol hn hx.ok, h.2.1.enrol hx, h.2.2.1, fun i hi => by
  have hi : i < o_nw O + 1 := hi
  show (if i = o_nw O then (0 : Int32) else o_ba O i) = 0
  split
  · rfl
  · exact h.2.2.2 i (by omega)⟩
section MOA
variable {G : kz_G} {d : Nat} {Qr : Option Value → kz_M → Prop} {Qx : String → kz_M → Prop} {M : kz_M} {O : ow_O} {s : Nat → Int32} {rb : Int64} {hn : Nat} {h : Nat → ow_O} {sv : ow_O} {isS : Bool} {er : Nat} {ea : Int32} {n : Nat} {b : Nat → Nat} {l : List Nat} {f : Nat → Int32} {g : Nat → Int64}
variable {Mb : kz_M} {sb : Nat → Int32} {i : Nat} {t : Nat → Bool}
theorem mo_RS.ob (R : mo_RS Mb sb rb M s) : ∃ fs, M.1 99 = some (.inl (11, fs)) := ⟨_, R.2.2.1⟩
theorem mo_RS.inp (R : mo_RS Mb sb rb M s) (B : mo_ib Mb sb n b) : mo_in M s rb n b := by
  obtain ⟨-, h1, f, h2, h3⟩ := B
  exact ⟨R.2.2.1, h1, f, (R.1 112 (by omega)).trans h2, h3⟩
theorem mo_RS.h19 (R : mo_RS Mb sb rb M s) (B : mo_ib Mb sb n b) : s 19 = nI n := (R.2.2.2.1 19 (by omega)).trans B.1
theorem mo_RS.u22 (R : mo_RS Mb sb rb M s) (v : Int32) : mo_RS Mb sb rb (kz_up M 99 (.inl (11, (mo_fs s rb).set 22 (.int v)))) (upd s 22 v) := ⟨fun z hz => (kz_up_ne (by omega)).trans (R.1 z hz), R.2.1, kz_up_same _ _ _, fun j hj => (if_neg (by omega)).trans (R.2.2.2.1 j hj), by
  obtain ⟨f, hf⟩ := R.2.2.2.2
  exact ⟨f, (kz_up_ne (by omega)).trans hf⟩⟩
theorem mo_RS.u23 (R : mo_RS Mb sb rb M s) (v : Int32) : mo_RS Mb sb rb (kz_up M 99 (.inl (11, (mo_fs s rb).set 23 (.int v)))) (upd s 23 v) := ⟨fun z hz => (kz_up_ne (by omega)).trans (R.1 z hz), R.2.1, kz_up_same _ _ _, fun j hj => (if_neg (by omega)).trans (R.2.2.2.1 j hj), by
  obtain ⟨f, hf⟩ := R.2.2.2.2
  exact ⟨f, (kz_up_ne (by omega)).trans hf⟩⟩
theorem mo_RS.u24 (R : mo_RS Mb sb rb M s) (v : Int32) : mo_RS Mb sb rb (kz_up M 99 (.inl (11, (mo_fs s rb).set 24 (.int v)))) (upd s 24 v) := ⟨fun z hz => (kz_up_ne (by omega)).trans (R.1 z hz), R.2.1, kz_up_same _ _ _, fun j hj => (if_neg (by omega)).trans (R.2.2.2.1 j hj), by
  obtain ⟨f, hf⟩ := R.2.2.2.2
  exact ⟨f, (kz_up_ne (by omega)).trans hf⟩⟩
theorem mo_RS.u28 (R : mo_RS Mb sb rb M s) (v : Int32) : mo_RS Mb sb rb (kz_up M 99 (.inl (11, (mo_fs s rb).set 28 (.int v)))) (upd s 28 v) := ⟨fun z hz => (kz_up_ne (by omega)).trans (R.1 z hz), R.2.1, kz_up_same _ _ _, fun j hj => (if_neg (by omega)).trans (R.2.2.2.1 j hj), by
  obtain ⟨f, hf⟩ := R.2.2.2.2
  exact ⟨f, (kz_up_ne (by omega)).trans hf⟩⟩
theorem mo_RS.u29 (R : mo_RS Mb sb rb M s) (v : Int32) : mo_RS Mb sb rb (kz_up M 99 (.inl (11, (mo_fs s rb).set 29 (.int v)))) (upd s 29 v) := ⟨fun z hz => (kz_up_ne (by omega)).trans (R.1 z hz), R.2.1, kz_up_same _ _ _, fun j hj => (if_neg (by omega)).trans (R.2.2.2.1 j hj), by
  obtain ⟨f, hf⟩ := R.2.2.2.2
  exact ⟨f, (kz_up_ne (by omega)).trans hf⟩⟩
theorem mo_RS.w (R : mo_RS Mb sb rb M s) (f : Nat → Int32) : mo_RS Mb sb rb (kz_up M 100 (.inr (.int, 3813, .inl f))) s := ⟨fun z hz => (kz_up_ne (by omega)).trans (R.1 z hz), R.2.1, (kz_up_ne (by omega)).trans R.2.2.1, R.2.2.2.1, f, kz_up_same _ _ _⟩
theorem mo_RS.sm {M1 : kz_M} {f1 : Nat → Int32} (R : mo_RS Mb sb rb M s) (S : ow_Sm (· = 100) M M1) (t2 : M1.2 = M.2) (D : mo_D M1 s rb f1 g) : mo_RS Mb sb rb M1 s := ⟨fun z hz => (S z (by omega)).trans (R.1 z hz), t2.trans R.2.1, D.1, R.2.2.2.1, f1, D.2.1⟩
theorem m_failsAt {c st : Nat} (R : mo_RS Mb sb rb M s) (h22 : s 22 = 0) (h25 : s 25 = nI st) (q : ∀ M1 s1, mo_FX Mb sb rb M1 s1 c st → Qr (some (.int 0)) M1) : kz_C G d 0 0 mX12_failsAt [.ref 99, .int (nI c)] M Qr Qx := by
  refine rX12_failsAt_0 ⟨_, _, R.2.2.1, rfl, ?_⟩
  rw [h22]
  have R1 := R.u22 (nI c)
  have e25 : upd s 22 (nI c) 25 = nI st := h25
  refine ⟨fun z => absurd rfl z, fun _ => ⟨_, R.2.2.1, ow_l rfl, _, _, R1.2.2.1, rfl, _, R1.2.2.1, ow_l rfl, ?_⟩⟩
  rw [e25]
  exact q _ _ ⟨R1.u23 (nI st), rfl, rfl⟩
theorem mo_SR.ob {O : ow_O} (S : mo_SR Mb sb rb g n b M s i O t) : ∃ fs, M.1 99 = some (.inl (11, fs)) := S.1.ob
theorem m_adv {O : ow_O} (B : mo_ib Mb sb n b) (S : mo_SR Mb sb rb g n b M s i O t) (q : ∀ M1 s1, mo_SR Mb sb rb g n b M1 s1 (sp_en n b i) O t → s1 28 = s 28 → Qr none M1) : kz_C G (d + 2) 0 0 mX12_advanceToken [.ref 99] M Qr Qx := by
  obtain ⟨R, ⟨f, D, W⟩, ⟨e1, e2⟩, T, td, iv, hi⟩ := S
  refine m_token (R.inp B) (R.h19 B) (sp_en_le hi) T.2.1 fun M1 s1 T1 hT => q M1 s1 ⟨⟨fun z hz => (T1.1 z (by omega)).trans (R.1 z hz), T1.2.1.trans R.2.1, T1.2.2.1, fun j hj => (T1.2.2.2 j (by omega)).trans (R.2.2.2.1 j hj), f, (T1.1 100 (by omega)).trans D.2.1⟩, ⟨f, ⟨T1.2.2.1, (T1.1 100 (by omega)).trans D.2.1, (T1.1 104 (by omega)).trans D.2.2⟩, W⟩, ⟨(T1.2.2.2 22 (by omega)).trans e1, (T1.2.2.2 23 (by omega)).trans e2⟩, hT, fun j hj => ?_, iv, sp_en_le hi⟩ (T1.2.2.2 28 (by omega))
  rw [T1.2.2.2 29 (by omega)]
  exact td j hj
theorem m_isWord {O : ow_O} {j : Nat} (hG : kz_stat G) (hj : j ∈ kz_read) (B : mo_ib Mb sb n b) (S : mo_SR Mb sb rb g n b M s i O t) (q : Qr (some (.int (ow_b (decide (sp_tk n b i = 1 ∧ sp_wd n b i = kz_cd j))))) M) : kz_C G (d + 5) 0 0 mX12_isWord [.ref 99, .retAddr j] M Qr Qx := by
  obtain ⟨R, ⟨f, D, W⟩, ⟨e1, e2⟩, T, td, iv, hi⟩ := S
  have k4 := mo_k0_le n b (sp_st n b i)
  have hen := sp_en_le (b := b) hi
  refine rX12_isWord_0 ⟨_, _, D.1, rfl, ?_⟩
  rw [T.2.2.1]
  refine ⟨fun z => ?_, fun z => ⟨_, _, D.1, rfl, _, _, D.1, rfl, D.ob, ?_⟩⟩
  · rw [decide_eq_false (p := sp_tk n b i = 1 ∧ sp_wd n b i = kz_cd j) (fun h => z (by rw [mo_k0_1.mpr h.1]; rfl))] at q
    exact q
  · have htk := mo_k0_1.mp ((nI_eq (b := 1) (by omega) (by omega)).mp z)
    obtain ⟨hl, hs, hw⟩ := sp_wd_ww hi htk
    rw [T.1, T.2.1, ← hs]
    have hE : (sp_tk n b i = 1 ∧ sp_wd n b i = kz_cd j) ↔ ow_nm (fun k => b (sp_st n b i + k)) 0 (sp_en n b i - sp_st n b i) = kz_cd j := by
      rw [hw, ← ow_cd_eq hl hj]
      exact ⟨fun h => h.2, fun h => ⟨htk, h⟩⟩
    refine m_isWordAt hG hj (R.inp B) (by omega) hl ⟨_, rfl, ow_if0 (fun h => ?_) (fun h => ?_)⟩
    · rw [decide_eq_false (fun y => of_decide_eq_false h (hE.mp y))] at q; exact q
    · rw [decide_eq_true (hE.mpr (of_decide_eq_true h))] at q; exact q
theorem m_reads {O : ow_O} {lo hi : Nat} (B : mo_ib Mb sb n b) (S : mo_SR Mb sb rb g n b M s i O t) (hlo : lo ≤ 99999) (hhi : hi ≤ 99999) (q0 : ∀ c, sp_nu n b lo hi i = .inl c → ∀ M1 s1, mo_FX Mb sb rb M1 s1 c (sp_st n b i) → Qr (some (.int 0)) M1) (q1 : ∀ m, sp_nu n b lo hi i = .inr m → m ≤ 99999 → lo ≤ m → m ≤ hi → ∀ M1 s1, mo_SR Mb sb rb g n b M1 s1 (sp_en n b i) O t → s1 28 = nI m → Qr (some (.int 1)) M1) : kz_C G (d + 3) 0 0 mX12_reads [.ref 99, .int (nI lo), .int (nI hi)] M Qr Qx := by
  have S0 := S
  obtain ⟨R, ⟨f, D, W⟩, ⟨e1, e2⟩, T, td, iv, hi'⟩ := S
  have k4 := mo_k0_le n b (sp_st n b i)
  have hen := sp_en_le (b := b) hi'
  have hn6 := B.2.1
  have hst : sp_st n b i ≤ sp_en n b i := by
    rw [sp_en, sp_e0]
    split
    · split
      · exact sp_end_ge _ _ _
      · split
        · exact sp_end_ge _ _ _
        · omega
    · exact Nat.le_refl _
  refine rX12_reads_0 ⟨_, _, D.1, rfl, ?_⟩
  rw [T.2.2.1]
  refine ⟨fun z => ⟨D.ob, m_failsAt (c := 1) R e1 T.1 fun M1 s1 F => ⟨_, rfl, ow_nar0, q0 1 ?_ M1 s1 F⟩⟩, fun z => ⟨D.ob, rX12_tokenLength_0 ⟨_, _, D.1, rfl, _, _, D.1, rfl, _, rfl, ?_⟩⟩⟩
  · unfold sp_nu
    rw [if_neg (fun h => z (by rw [(mo_k0_2.mpr h).1]; rfl))]
  · have hk2 := (nI_eq (b := 2) (by omega) (by omega)).mp z
    rw [T.1, T.2.1, pk_sub hst]
    refine pk_le (sp_en n b i - sp_st n b i) 5 (fun h5 => ⟨_, _, D.1, rfl, ?_⟩) (fun h5 => ⟨D.ob, m_failsAt (c := 1) R e1 T.1 fun M1 s1 F => ⟨_, rfl, ow_nar0, q0 1 ?_ M1 s1 F⟩⟩) rfl rfl
    · have htk := mo_k0_2.mp ⟨hk2, h5⟩
      have hv := sp_vl_lt htk
      rw [T.2.2.2 htk]
      refine m_in rfl ⟨_, rfl, ow_ifn (fun e => ⟨_, _, D.1, rfl, _, D.1, ow_l rfl, ?_⟩) (fun e => ⟨D.ob, m_failsAt (c := 2) R e1 T.1 fun M1 s1 F => ⟨_, rfl, ow_nar0, q0 2 ?_ M1 s1 F⟩⟩)⟩
      · obtain ⟨m, h1, h2, em⟩ := mo_rgT (a := lo) (b := hi) (by omega) (by omega) e
        have em := (nI_eq (by omega) (by omega)).mp em
        rw [T.2.2.2 htk]
        have R1 := R.u28 (nI (sp_vl n b i))
        have S1 : mo_SR Mb sb rb g n b (kz_up M 99 (.inl (11, (mo_fs s rb).set 28 (.int (nI (sp_vl n b i)))))) (upd s 28 (nI (sp_vl n b i))) i O t := ⟨R1, ⟨f, ⟨R1.2.2.1, (kz_up_ne (by omega)).trans D.2.1, (kz_up_ne (by omega)).trans D.2.2⟩, W⟩, ⟨e1, e2⟩, T, td, iv, hi'⟩
        refine ⟨S1.ob, m_adv B S1 fun M1 s1 S2 e28 => ⟨rfl, q1 (sp_vl n b i) ?_ hv (by omega) (by omega) M1 s1 S2 e28⟩⟩
        unfold sp_nu
        rw [if_pos htk, if_pos ⟨by omega, by omega⟩]
      · unfold sp_nu
        rw [if_pos htk, if_neg (fun h => mo_rgF (a := lo) (b := hi) (by omega) e _ h.1 h.2 rfl)]
    · unfold sp_nu
      rw [if_neg (fun h => by have := (mo_k0_2.mpr h).2; omega)]
theorem m_readEnd {O : ow_O} (B : mo_ib Mb sb n b) (S : mo_SR Mb sb rb g n b M s i O t) (q0 : ∀ c o, sp_sc n b i O t = .inl (c, o) → ∀ M1 s1, mo_FX Mb sb rb M1 s1 c o → Qr (some (.int 0)) M1) (q1 : sp_sc n b i O t = .inr (sp_en n b i, O, t) → ∀ M1 s1, mo_SR Mb sb rb g n b M1 s1 (sp_en n b i) O t → Qr (some (.int 1)) M1) : kz_C G (d + 3) 0 0 mX12_readEnd [.ref 99] M Qr Qx := by
  have S0 := S
  obtain ⟨R, ⟨f, D, W⟩, ⟨e1, e2⟩, T, td, iv, hi'⟩ := S
  have k4 := mo_k0_le n b (sp_st n b i)
  refine rX12_readEnd_0 ⟨_, _, D.1, rfl, ?_⟩
  rw [T.2.2.1]
  refine ⟨fun z => ⟨D.ob, m_adv B S0 fun M1 s1 S1 _ => ⟨rfl, q1 ?_ M1 s1 S1⟩⟩, fun z => ⟨D.ob, m_failsAt (c := 1) R e1 T.1 fun M1 s1 F => ⟨_, rfl, ow_nar0, q0 1 (sp_st n b i) ?_ M1 s1 F⟩⟩⟩
  · unfold sp_sc
    rw [if_pos (mo_k0_3.mp ((nI_eq (b := 3) (by omega) (by omega)).mp z))]
  · unfold sp_sc
    rw [if_neg (fun h => z (by rw [mo_k0_3.mpr h]; rfl))]
theorem m_readOffice {O : ow_O} (hG : kz_stat G) (B : mo_ib Mb sb n b) (S : mo_SR Mb sb rb g n b M s i O t) (q0 : ∀ c o, sp_of n b i O t = .inl (c, o) → ∀ M1 s1, mo_FX Mb sb rb M1 s1 c o → Qr (some (.int 0)) M1) (q1 : ∀ p O' t', sp_of n b i O t = .inr (p, O', t') → ∀ M1 s1, mo_SR Mb sb rb g n b M1 s1 p O' t' → Qr (some (.int 1)) M1) : kz_C G (d + 6) 0 0 mX12_readOffice [.ref 99] M Qr Qx := by
  have S0 := S
  obtain ⟨R, ⟨f, D, W⟩, ⟨e1, e2⟩, T, td, iv, hi'⟩ := S
  refine rX12_readOffice_0 ⟨D.ob, m_isWord hG (by decide) B S0 ⟨_, rfl, ow_ifn (fun h => ?_) (fun h => ⟨D.ob, m_failsAt (c := 1) R e1 T.1 fun M1 s1 F => ⟨_, rfl, ow_nar0, q0 1 (sp_st n b i) ?_ M1 s1 F⟩⟩)⟩⟩
  · have hc := of_decide_eq_true h
    rw [mo_cd_o2] at hc
    refine ⟨D.ob, m_adv B S0 fun M1 s1 S1 _ => ⟨rfl, S1.ob, m_reads (lo := 0) (hi := 99999) B S1 (by omega) (by omega) (fun c hnu M2 s2 F => ⟨_, rfl, fun z => absurd rfl z, fun _ => q0 c _ ?_ M2 s2 F⟩) fun m hnu hm _ _ M2 s2 S2 e28 => ⟨_, rfl, fun _ => ?_, fun z => absurd z (by decide)⟩⟩⟩
    · unfold sp_of
      rw [if_pos hc, hnu]
    · obtain ⟨R2, ⟨f2, D2, W2⟩, er2, T2, td2, iv2, hi2⟩ := S2
      refine ⟨_, _, D2.1, rfl, _, _, D2.1, rfl, _, _, D2.2.1, mo_in3, ?_⟩
      rw [e28]
      have S3 : mo_SR Mb sb rb g n b (kz_up M2 100 (.inr (.int, 3813, .inl (upd f2 (3 : Int32).toNatClampNeg (nI m))))) s2 (sp_en n b (sp_en n b i)) (o_money O m) t := ⟨R2.w _, ⟨_, D2.w, W2.mon iv2.1⟩, er2, T2, td2, iv2.money hm, hi2⟩
      have eof : sp_of n b i O t = sp_sc n b (sp_en n b (sp_en n b i)) (o_money O m) t := by
        unfold sp_of
        rw [if_pos hc, hnu]
      exact ⟨S3.ob, m_readEnd B S3 (fun c o hs M3 s3 F => ⟨_, rfl, ow_nar0, q0 c o (eof.trans hs) M3 s3 F⟩) fun hs M3 s3 S4 => ⟨_, rfl, rfl, q1 _ _ _ (eof.trans hs) M3 s3 S4⟩⟩
  · unfold sp_of
    have hc := of_decide_eq_false h
    rw [mo_cd_o2] at hc
    rw [if_neg hc]
theorem m_readWriter {O : ow_O} (hG : kz_stat G) (B : mo_ib Mb sb n b) (S : mo_SR Mb sb rb g n b M s i O t) (q0 : ∀ c o, sp_wr n b (sp_st n b i) (sp_en n b i) O t = .inl (c, o) → ∀ M1 s1, mo_FX Mb sb rb M1 s1 c o → Qr (some (.int 0)) M1) (q1 : ∀ p O' t', i ≤ p → sp_wr n b (sp_st n b i) (sp_en n b i) O t = sp_sc n b p O' t' → ∀ M1 s1, mo_SR Mb sb rb g n b M1 s1 p O' t' → Qr (some (.int 1)) M1) : kz_C G (d + 7) 0 0 mX12_readWriter [.ref 99] M Qr Qx := by
  have S0 := S
  obtain ⟨R, ⟨f, D, W⟩, ⟨e1, e2⟩, T, td, iv, hi'⟩ := S
  have hnw := iv.1.1.2.2.1
  refine rX12_readWriter_0 ⟨_, _, D.1, rfl, _, _, D.2.1, mo_in0, ?_⟩
  rw [W.at0]
  refine ⟨fun z => ?_, fun z => ⟨D.ob, m_failsAt (c := 4) R e1 T.1 fun M1 s1 F => ⟨_, rfl, ow_nar0, q0 4 (sp_st n b i) ?_ M1 s1 F⟩⟩⟩
  · have h6 : o_nw O < 6 := by
      have : o_nw O ≠ 6 := fun e => z (by rw [e]; rfl)
      omega
    refine ⟨D.ob, m_adv B S0 fun M1 s1 S1 _ => ⟨rfl, ?_⟩⟩
    have S10 := S1
    obtain ⟨R1, ⟨f1, D1, W1⟩, ⟨d1, d2⟩, T1, td1, -, hi1⟩ := S1
    have k4 := mo_k0_le n b (sp_st n b (sp_en n b i))
    have hen := sp_en_le (b := b) hi1
    have fail : ∀ {Q2 : Option Value → kz_M → Prop}, (sp_wr n b (sp_st n b i) (sp_en n b i) O t = .inl (1, sp_st n b (sp_en n b i)) → ∀ M2 s2, mo_FX Mb sb rb M2 s2 1 (sp_st n b (sp_en n b i)) → Q2 (some (.int 0)) M2) → (sp_wr n b (sp_st n b i) (sp_en n b i) O t = .inl (1, sp_st n b (sp_en n b i))) → kz_C G (d + 6) 0 0 mX12_failsAt [.ref 99, .int 1] M1 Q2 Qx := fun h e => m_failsAt (c := 1) R1 d1 T1.1 (h e)
    refine ⟨_, _, D1.1, rfl, ?_⟩
    rw [T1.2.2.1]
    refine ⟨fun y => ⟨D1.ob, fail (fun e M2 s2 F => ⟨_, rfl, ow_nar0, q0 1 _ e M2 s2 F⟩) ?_⟩, fun y => ⟨_, _, D1.1, rfl, _, _, D1.1, rfl, D1.ob, ?_⟩⟩
    · unfold sp_wr
      rw [if_pos h6, if_neg (fun h => y (by rw [mo_k0_1.mpr h.1]; rfl))]
    · have htk := mo_k0_1.mp ((nI_eq (b := 1) (by omega) (by omega)).mp y)
      obtain ⟨hl, hs, hw⟩ := sp_wd_ww hi1 htk
      rw [T1.1, T1.2.1, ← hs]
      have hnm := mo_isn_ww (sp_en n b (sp_en n b i) - sp_st n b (sp_en n b i)) (fun k => b (sp_st n b (sp_en n b i) + k))
      rw [← hw] at hnm
      refine m_isName hG (R1.inp B) (by omega) ⟨_, rfl, ow_ifn (fun hz => ?_) (fun hz => ⟨D1.ob, fail (fun e M2 s2 F => ⟨_, rfl, ow_nar0, q0 1 _ e M2 s2 F⟩) ?_⟩)⟩
      · refine ⟨_, _, D1.1, rfl, _, _, D1.1, rfl, D1.ob, ?_⟩
        rw [T1.1, T1.2.1]
        have hz0 := hz
        unfold mo_isn at hz
        simp only [Bool.and_eq_true, decide_eq_true_eq] at hz
        obtain ⟨g1, g6, -, -⟩ := hz
        have ewd : sp_wd n b (sp_en n b i) = ow_nm (fun k => b (sp_st n b (sp_en n b i) + k)) 0 (sp_en n b (sp_en n b i) - sp_st n b (sp_en n b i)) := by rw [hw, ow_ww_nm hl, if_pos (by omega)]
        have hx : ow_Nm (sp_wd n b (sp_en n b i)) := ⟨_, _, g1, g6, hl, ewd⟩
        have hsn : sp_name (sp_wd n b (sp_en n b i)) = true := hnm.trans hz0
        have pk : ∀ {Q2 : Option Value → kz_M → Prop}, Q2 (some (.int (nI (mo_nm (sp_wd n b (sp_en n b i)))))) M1 → kz_C G (d + 6) 0 0 mX12_packed [.ref 99, .int (nI (sp_st n b (sp_en n b i))), .int (nI (sp_en n b (sp_en n b i)))] M1 Q2 Qx := fun h => by
          have := m_packed (G := G) (d := d + 6) (Qx := Qx) (M := M1) (R1.inp B) (i := sp_st n b (sp_en n b i)) (k := sp_en n b (sp_en n b i) - sp_st n b (sp_en n b i)) (by omega) g6 hl (by rw [← ewd]; exact h)
          rw [hs] at this
          exact this
        refine pk ⟨_, rfl, D1.ob, m_isTaken D1 W1 iv.1 iv.2.1 hx ⟨_, rfl, ow_if0 (fun ht => ?_) (fun ht => ⟨D1.ob, m_failsAt (c := 3) R1 d1 T1.1 fun M2 s2 F => ⟨_, rfl, ow_nar0, q0 3 _ ?_ M2 s2 F⟩⟩)⟩⟩
        · refine ⟨D1.ob, m_adv B S10 fun M2 s2 S2 _ => ⟨rfl, ?_⟩⟩
          obtain ⟨R2, ⟨f2, D2, W2⟩, er2, T2, td2, -, hi2⟩ := S2
          refine ⟨D2.ob, m_joins D2 W2 iv.1 h6 fun M3 f3 S3 t3 D3 W3 => ⟨_, rfl, ow_n (nI_pos (by omega)) (q1 _ _ t (Nat.le_trans (sp_en_ge n b i) (sp_en_ge n b _)) ?_ M3 s2 ⟨R2.sm S3 t3 D3, ⟨f3, D3, W3⟩, er2, T2, td2, iv.enrol h6 hx, hi2⟩)⟩⟩
          unfold sp_wr
          rw [if_pos h6, if_pos ⟨htk, hsn⟩, if_neg (by rw [ht]; decide)]
        · unfold sp_wr
          rw [if_pos h6, if_pos ⟨htk, hsn⟩, if_pos ht]
      · unfold sp_wr
        rw [if_pos h6, if_neg (fun h => by rw [hnm, hz] at h; exact absurd h.2 (by decide))]
  · have h6 : o_nw O = 6 := (nI_eq (b := 6) (by omega) (by omega)).mp z
    unfold sp_wr
    rw [if_neg (by omega)]
theorem m_leastOf {j : Nat} (hj : j < 10) (q : Qr (some (.int (nI (ow_lo j)))) M) : kz_C G d 0 0 mX12_leastOf [.int (nI j)] M Qr Qx := by
  have yes : ∀ i (x : Int32), i < 6 → nI (ow_lo i) = x → nI j = nI i → Qr (some (.int x)) M := fun i x hi hx z => by
    have := (nI_eq (by omega) (by omega)).mp z
    subst this
    rw [← hx]; exact q
  refine rX12_leastOf_0 ⟨yes 0 _ (by omega) rfl, yes 1 _ (by omega) rfl, yes 2 _ (by omega) rfl, yes 3 _ (by omega) rfl, yes 4 _ (by omega) rfl, yes 5 _ (by omega) rfl, fun z0 z1 z2 z3 z4 z5 => ?_⟩
  have a0 : j ≠ 0 := fun e => z0 (by rw [e]; rfl)
  have a1 : j ≠ 1 := fun e => z1 (by rw [e]; rfl)
  have a2 : j ≠ 2 := fun e => z2 (by rw [e]; rfl)
  have a3 : j ≠ 3 := fun e => z3 (by rw [e]; rfl)
  have a4 : j ≠ 4 := fun e => z4 (by rw [e]; rfl)
  have a5 : j ≠ 5 := fun e => z5 (by rw [e]; rfl)
  rcases (by omega : j = 6 ∨ j = 7 ∨ j = 8 ∨ j = 9) with rfl | rfl | rfl | rfl <;> exact q
theorem m_mostOf {j : Nat} (hj : j < 10) (q : Qr (some (.int (nI (ow_hi j)))) M) : kz_C G d 0 0 mX12_mostOf [.int (nI j)] M Qr Qx := by
  have yes : ∀ i (x : Int32), i < 6 → nI (ow_hi i) = x → nI j = nI i → Qr (some (.int x)) M := fun i x hi hx z => by
    have := (nI_eq (by omega) (by omega)).mp z
    subst this
    rw [← hx]; exact q
  refine rX12_mostOf_0 ⟨yes 0 _ (by omega) rfl, yes 1 _ (by omega) rfl, yes 2 _ (by omega) rfl, yes 3 _ (by omega) rfl, yes 4 _ (by omega) rfl, yes 5 _ (by omega) rfl, fun z0 z1 z2 z3 z4 z5 => ?_⟩
  have a0 : j ≠ 0 := fun e => z0 (by rw [e]; rfl)
  have a1 : j ≠ 1 := fun e => z1 (by rw [e]; rfl)
  have a2 : j ≠ 2 := fun e => z2 (by rw [e]; rfl)
  have a3 : j ≠ 3 := fun e => z3 (by rw [e]; rfl)
  have a4 : j ≠ 4 := fun e => z4 (by rw [e]; rfl)
  have a5 : j ≠ 5 := fun e => z5 (by rw [e]; rfl)
  rcases (by omega : j = 6 ∨ j = 7 ∨ j = 8 ∨ j = 9) with rfl | rfl | rfl | rfl <;> exact q
theorem m_readSetting {O : ow_O} {j k w : Nat} (B : mo_ib Mb sb n b) (S : mo_SR Mb sb rb g n b M s i O t) (hj : j < 10) (hset : (if k = 1 then sp_set w else none) = some j) (q0 : ∀ c o, sp_se n b (sp_st n b i) k w (sp_en n b i) O t = .inl (c, o) → ∀ M1 s1, mo_FX Mb sb rb M1 s1 c o → Qr (some (.int 0)) M1) (q1 : ∀ p O' t', i ≤ p → sp_se n b (sp_st n b i) k w (sp_en n b i) O t = sp_sc n b p O' t' → ∀ M1 s1, mo_SR Mb sb rb g n b M1 s1 p O' t' → Qr (some (.int 1)) M1) : kz_C G (d + 4) 0 0 mX12_readSetting [.ref 99, .int (nI j)] M Qr Qx := by
  have S0 := S
  obtain ⟨R, ⟨f, D, W⟩, ⟨e1, e2⟩, T, td, iv, hi'⟩ := S
  have tdj := td j hj
  have l99 := ow_lo_le j hj
  have h99 := ow_hi_le j hj
  refine rX12_readSetting_0 ⟨_, _, D.1, rfl, ?_⟩
  have hb : ((s 29 >>> (nI j &&& 31)) &&& 1 = 1) ↔ t j = true := by
    rw [← tdj]
    exact ⟨fun h => decide_eq_true h, fun h => of_decide_eq_true h⟩
  refine ⟨fun z => ⟨_, _, D.1, rfl, _, D.1, ow_l rfl, ?_⟩, fun z => ⟨D.ob, m_failsAt (c := 3) R e1 T.1 fun M1 s1 F => ⟨_, rfl, ow_nar0, q0 3 (sp_st n b i) ?_ M1 s1 F⟩⟩⟩
  · have htj : t j = false := Bool.eq_false_iff.mpr fun h => z (hb.mpr h)
    have R1 := R.u29 (s 29 ||| ((1 : Int32) <<< (nI j &&& 31)))
    have S1 : mo_SR Mb sb rb g n b (kz_up M 99 (.inl (11, (mo_fs s rb).set 29 (.int (s 29 ||| ((1 : Int32) <<< (nI j &&& 31))))))) (upd s 29 (s 29 ||| ((1 : Int32) <<< (nI j &&& 31)))) i O (fun k => if k = j then true else t k) := ⟨R1, ⟨f, ⟨R1.2.2.1, (kz_up_ne (by omega)).trans D.2.1, (kz_up_ne (by omega)).trans D.2.2⟩, W⟩, ⟨e1, e2⟩, T, fun k hk => by
      show mo_b32 (s 29 ||| ((1 : Int32) <<< (nI j &&& 31))) k = if k = j then true else t k
      rw [mo_b32_or hj hk, td k hk]
      by_cases hkj : k = j
      · rw [if_pos hkj, decide_eq_true hkj, Bool.or_true]
      · rw [if_neg hkj, decide_eq_false hkj, Bool.or_false], iv, hi'⟩
    refine ⟨S1.ob, m_adv B S1 fun M1 s1 S2 _ => ⟨rfl, m_leastOf hj ⟨_, rfl, m_mostOf hj ⟨_, rfl, S2.ob, m_reads B S2 (by omega) (by omega) (fun c hnu M2 s2 F => ⟨_, rfl, fun z => absurd rfl z, fun _ => q0 c _ ?_ M2 s2 F⟩) fun m hnu hm hm1 hm2 M2 s2 S3 e28 => ⟨_, rfl, fun _ => ?_, fun z => absurd z (by decide)⟩⟩⟩⟩⟩
    · unfold sp_se
      rw [hset]
      show (if t j = true then _ else _) = _
      rw [if_neg (by rw [htj]; decide), hnu]
    · obtain ⟨R3, ⟨f3, D3, W3⟩, er3, T3, td3, iv3, hi3⟩ := S3
      refine ⟨_, _, D3.1, rfl, ?_⟩
      rw [e28]
      refine ⟨D3.ob, m_sets D3 hj fun M4 g4 t4 D4 => ⟨rfl, q1 _ _ _ (Nat.le_trans (sp_en_ge n b i) (sp_en_ge n b _)) ?_ M4 s2 ⟨R3.sm g4 t4 D4, ⟨_, D4, W3.rule iv.1 hj⟩, er3, T3, td3, iv.rule (by omega), hi3⟩⟩⟩
      unfold sp_se
      rw [hset]
      show (if t j = true then _ else _) = _
      rw [if_neg (by rw [htj]; decide), hnu]
  · unfold sp_se
    rw [hset]
    show (if t j = true then _ else _) = _
    rw [if_pos (hb.mp z)]
/-- a statement -/
def sp_stm (n : Nat) (b : Nat → Nat) (i : Nat) (O : ow_O) (t : Nat → Bool) : sp_R := if sp_tk n b i = 1 ∧ sp_wd n b i = kz_cd 1034 then sp_wr n b (sp_st n b i) (sp_en n b i) O t else sp_se n b (sp_st n b i) (sp_tk n b i) (sp_wd n b i) (sp_en n b i) O t
theorem sp_lp_l {n : Nat} {b : Nat → Nat} {f i : Nat} {O : ow_O} {t : Nat → Bool} {e : Nat × Nat} (h : ¬ sp_tk n b i = 0) (he : sp_stm n b i O t = Sum.inl e) : sp_lp n b (f + 1) i O t = Sum.inl e := by
  unfold sp_stm at he
  rw [sp_lp, if_neg h, he]
theorem sp_lp_r {n : Nat} {b : Nat → Nat} {f i : Nat} {O : ow_O} {t : Nat → Bool} {z : Nat × ow_O × (Nat → Bool)} (h : ¬ sp_tk n b i = 0) (he : sp_stm n b i O t = Sum.inr z) : sp_lp n b (f + 1) i O t = sp_lp n b f z.1 z.2.1 z.2.2 := by
  unfold sp_stm at he
  rw [sp_lp, if_neg h, he]
theorem m_readStatement {O : ow_O} (hG : kz_stat G) (B : mo_ib Mb sb n b) (S : mo_SR Mb sb rb g n b M s i O t) (q0 : ∀ c o, sp_stm n b i O t = .inl (c, o) → ∀ M1 s1, mo_FX Mb sb rb M1 s1 c o → Qr (some (.int 0)) M1) (q1 : ∀ p O' t', i ≤ p → sp_stm n b i O t = sp_sc n b p O' t' → ∀ M1 s1, mo_SR Mb sb rb g n b M1 s1 p O' t' → Qr (some (.int 1)) M1) : kz_C G (d + 8) 0 0 mX12_readStatement [.ref 99] M Qr Qx := by
  have S0 := S
  obtain ⟨R, ⟨f, D, W⟩, ⟨e1, e2⟩, T, td, iv, hi'⟩ := S
  have k4 := mo_k0_le n b (sp_st n b i)
  have hen := sp_en_le (b := b) hi'
  refine rX12_readStatement_0 ⟨D.ob, m_isWord hG (by decide) B S0 ⟨_, rfl, ow_if0 (fun h => ?_) (fun h => ?_)⟩⟩
  · have hc := of_decide_eq_false h
    rw [mo_cd_w2] at hc
    have es : sp_stm n b i O t = sp_se n b (sp_st n b i) (sp_tk n b i) (sp_wd n b i) (sp_en n b i) O t := if_neg hc
    rw [es] at q0 q1
    refine ⟨_, _, D.1, rfl, ?_⟩
    rw [T.2.2.1]
    refine ⟨fun z => ⟨fun y => absurd rfl y, fun _ => ⟨D.ob, m_failsAt (c := 1) R e1 T.1 fun M1 s1 F => ⟨_, rfl, ow_nar0, q0 1 (sp_st n b i) ?_ M1 s1 F⟩⟩⟩, fun z => ⟨_, _, D.1, rfl, _, _, D.1, rfl, D.ob, ?_⟩⟩
    · unfold sp_se
      rw [if_neg (fun h => z (by rw [mo_k0_1.mpr h]; rfl))]
    · have htk := mo_k0_1.mp ((nI_eq (b := 1) (by omega) (by omega)).mp z)
      obtain ⟨hl, hs, hw⟩ := sp_wd_ww hi' htk
      rw [T.1, T.2.1, ← hs]
      refine m_settingAt hG (R.inp B) (by omega) hl ⟨_, rfl, ?_⟩
      rw [ow_set_eq hl, ← hw]
      cases hse : sp_set (sp_wd n b i) with
      | none =>
        refine ⟨fun y => absurd rfl y, fun _ => ⟨D.ob, m_failsAt (c := 1) R e1 T.1 fun M1 s1 F => ⟨_, rfl, ow_nar0, q0 1 (sp_st n b i) ?_ M1 s1 F⟩⟩⟩
        unfold sp_se
        rw [if_pos htk, hse]
      | some j =>
        have hj := sp_set_lt hse
        refine ⟨fun _ => ⟨D.ob, m_readSetting (k := sp_tk n b i) (w := sp_wd n b i) B S0 hj (by rw [if_pos htk]; exact hse) (fun c o e M1 s1 F => ⟨_, rfl, ow_nar0, q0 c o e M1 s1 F⟩) (fun p O' t' hp e M1 s1 S1 => ⟨_, rfl, rfl, q1 p O' t' hp e M1 s1 S1⟩)⟩, fun y => ?_⟩
        have := (ow_oi_m1 (o := some j) (fun x hx => by cases hx; omega)).mp y
        cases this
  · have hc := of_decide_eq_true h
    rw [mo_cd_w2] at hc
    have es : sp_stm n b i O t = sp_wr n b (sp_st n b i) (sp_en n b i) O t := if_pos hc
    rw [es] at q0 q1
    exact ⟨D.ob, m_readWriter hG B S0 (fun c o e M1 s1 F => ⟨_, rfl, ow_nar0, q0 c o e M1 s1 F⟩) (fun p O' t' hp e M1 s1 S1 => ⟨_, rfl, rfl, q1 p O' t' hp e M1 s1 S1⟩)⟩
theorem m_readText {O : ow_O} (hG : kz_stat G) (B : mo_ib Mb sb n b) (S : mo_SR Mb sb rb g n b M s 0 o_0 (fun _ => false)) (q0 : ∀ c o, sp_read n b = .inl (c, o) → ∀ M1 s1, mo_FX Mb sb rb M1 s1 c o → Qr (some (.int 0)) M1) (q1 : ∀ p O' t' i', sp_read n b = .inr (p, O', t') → 0 < o_nw O' → ∀ M1 s1, mo_SR Mb sb rb g n b M1 s1 i' O' t' → Qr (some (.int 1)) M1) : kz_C G (d + 9) 0 0 mX12_readText [.ref 99] M Qr Qx := by
  have key : ∀ f i O t M s, n < i + f → mo_SR Mb sb rb g n b M s i O t → (∀ c o, sp_lp n b f i O t = .inl (c, o) → ∀ M1 s1, mo_FX Mb sb rb M1 s1 c o → Qr (some (.int 0)) M1) → (∀ p O' t' i', sp_lp n b f i O t = .inr (p, O', t') → 0 < o_nw O' → ∀ M1 s1, mo_SR Mb sb rb g n b M1 s1 i' O' t' → Qr (some (.int 1)) M1) → zX12_readText_9 G d Qr Qx 99 M := by
    intro f
    induction f with
    | zero =>
      intro i O t M s hf S _ _
      have := S.2.2.2.2.2.2
      omega
    | succ f ih =>
      intro i O t M s hf S q0 q1
      have S0 := S
      obtain ⟨R, ⟨f', D, W⟩, ⟨e1, e2⟩, T, td, iv, hi'⟩ := S
      have k4 := mo_k0_le n b (sp_st n b i)
      have hnw := iv.1.1.2.2.1
      refine rX12_readText_9 ⟨_, _, D.1, rfl, ?_⟩
      rw [T.2.2.1]
      refine ⟨fun z => ⟨_, _, D.1, rfl, _, _, D.2.1, mo_in0, ?_⟩, fun z => ?_⟩
      · have htk := mo_k0_0.mp ((nI_eq (b := 0) (by omega) (by omega)).mp z)
        rw [W.at0]
        refine pk_lt 0 (o_nw O) (fun h => q1 (sp_en n b i) O t i ?_ h M s S0) (fun h => ⟨D.ob, m_failsAt (c := 4) R e1 T.1 fun M1 s1 F => ⟨_, rfl, fun _ => q0 4 (sp_st n b i) ?_ M1 s1 F, fun z => absurd rfl z⟩⟩) rfl rfl
        · rw [sp_lp, if_pos htk, if_pos h]
        · rw [sp_lp, if_pos htk, if_neg (by omega)]
      · have htk : ¬ sp_tk n b i = 0 := fun h => z (by rw [mo_k0_0.mpr h]; rfl)
        refine ⟨D.ob, m_readStatement hG B S0 (fun c o e M1 s1 F => ⟨_, rfl, fun _ => q0 c o ?_ M1 s1 F, fun z => absurd rfl z⟩) fun p O' t' hp e M1 s1 S1 => ⟨_, rfl, fun z => absurd z (by decide), fun _ => ⟨S1.ob, m_readEnd B S1 (fun c o e' M2 s2 F => ⟨_, rfl, fun z => absurd rfl z, fun _ => q0 c o ?_ M2 s2 F⟩) fun e' M2 s2 S2 => ⟨_, rfl, fun _ => ih _ _ _ _ _ ?_ S2 ?_ ?_, fun z => absurd z (by decide)⟩⟩⟩⟩
        · exact sp_lp_l htk e
        · exact sp_lp_l htk (e.trans e')
        · have h3 : sp_tk n b p ≠ 0 := by
            intro h
            unfold sp_sc at e'
            rw [if_neg (by omega)] at e'
            cases e'
          have := sp_en_gt h3
          omega
        · intro c o e2 M3 s3 F
          refine q0 c o ?_ M3 s3 F
          exact (sp_lp_r htk (e.trans e')).trans e2
        · intro p2 O2 t2 i2 e2 hn M3 s3 S3
          refine q1 p2 O2 t2 i2 ?_ hn M3 s3 S3
          exact (sp_lp_r htk (e.trans e')).trans e2
  refine rX12_readText_0 ⟨S.ob, m_readOffice hG B S (fun c o e M1 s1 F => ⟨_, rfl, fun z => absurd rfl z, fun _ => q0 c o ?_ M1 s1 F⟩) fun p O' t' e M1 s1 S1 => ⟨_, rfl, fun _ => key (n + 1) p O' t' M1 s1 (by omega) S1 ?_ ?_, fun z => absurd z (by decide)⟩⟩
  · unfold sp_read
    rw [e]
  · intro c o e2 M3 s3 F
    refine q0 c o ?_ M3 s3 F
    unfold sp_read
    rw [e]
    exact e2
  · intro p2 O2 t2 i2 e2 hn M3 s3 S3
    refine q1 p2 O2 t2 i2 ?_ hn M3 s3 S3
    unfold sp_read
    rw [e]
    exact e2
end MOA
