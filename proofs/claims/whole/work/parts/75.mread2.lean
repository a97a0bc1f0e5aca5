/-! Part 75: the reference: a script is read -/
theorem mo_sm63 : ∀ k, k < 63 → ((((nI k).toInt64 &&& 63) : Int64).toBitVec.smod 64).toNat = k := by decide +kernel
theorem mo_one (x : Int64) : (x &&& 1 = 1) ↔ x.toBitVec.getLsbD 0 = true := by
  have h1 : ∀ i : Fin 64, (1 : Int64).toBitVec.getLsbD i.val = decide (i.val = 0) := by decide
  constructor
  · intro h
    have h2 : (x &&& 1 : Int64).toBitVec.getLsbD 0 = (1 : Int64).toBitVec.getLsbD 0 := congrArg (fun z : Int64 => z.toBitVec.getLsbD 0) h
    have h3 : (x &&& 1 : Int64).toBitVec.getLsbD 0 = (x.toBitVec.getLsbD 0 && (1 : Int64).toBitVec.getLsbD 0) := by
      show (x.toBitVec &&& (1 : Int64).toBitVec).getLsbD 0 = _
      rw [BitVec.getLsbD_and]
    have h4 : (1 : Int64).toBitVec.getLsbD 0 = true := h1 ⟨0, by omega⟩
    rw [h3, h4, Bool.and_true] at h2
    exact h2
  · intro h
    apply Int64.toBitVec_inj.1
    apply BitVec.eq_of_getLsbD_eq
    intro i hi
    show (x.toBitVec &&& (1 : Int64).toBitVec).getLsbD i = _
    rw [BitVec.getLsbD_and, h1 ⟨i, hi⟩]
    by_cases h0 : i = 0
    · subst h0
      rw [h]; rfl
    · rw [decide_eq_false h0, Bool.and_false]
theorem mo_bk_bit {br : Int64} {k : Nat} (hk : k < 63) : mo_bk br k = br.toBitVec.getLsbD k := by
  have hD := mo_sm63 k hk
  have e : (br >>> ((nI k).toInt64 &&& 63)).toBitVec.getLsbD 0 = br.toBitVec.getLsbD k := by
    have e2 : (br >>> ((nI k).toInt64 &&& 63)).toBitVec = br.toBitVec.sshiftRight k := by
      show br.toBitVec.sshiftRight (((((nI k).toInt64 &&& 63) : Int64).toBitVec.smod 64).toNat) = _
      rw [hD]
    rw [e2, BitVec.getLsbD_sshiftRight]
    simp
    omega
  unfold mo_bk
  cases h : br.toBitVec.getLsbD k with
  | true => exact decide_eq_true ((mo_one _).mpr (e.trans h))
  | false =>
    refine decide_eq_false fun z => ?_
    have := (mo_one _).mp z
    rw [e, h] at this
    cases this
theorem mo_shl1 : ∀ j, j < 60 → ∀ k, k < 60 → ((1 : Int64) <<< ((nI j).toInt64 &&& 63)).toBitVec.getLsbD k = decide (k = j) := by decide +kernel
theorem mo_bk_or {br : Int64} {j k : Nat} (hj : j < 60) (hk : k < 60) : mo_bk (br ||| ((1 : Int64) <<< ((nI j).toInt64 &&& 63))) k = (mo_bk br k || decide (k = j)) := by
  rw [mo_bk_bit (by omega), mo_bk_bit (by omega)]
  show (br.toBitVec ||| ((1 : Int64) <<< ((nI j).toInt64 &&& 63)).toBitVec).getLsbD k = _
  rw [BitVec.getLsbD_or, mo_shl1 j hj k hk]
theorem mo_bk_0 {k : Nat} (hk : k < 63) : mo_bk 0 k = false := by
  rw [mo_bk_bit hk]
  show (0#64).getLsbD k = false
  simp
theorem mo_wl {w c : Nat} (hw : w < 2 ^ 55) (h1 : 97 ≤ c) (h2 : c ≤ 122) : (lN w <<< (((5 : Int32)).toInt64 &&& 63)) ||| ((nI c - 96 : Int32).toInt64) = lN (32 * w + (c - 96)) := by
  rw [show nI c - 96 = nI (c - 96) from pk_sub (a := c) (b := 96) (by omega), nI_l (by omega), show (((5 : Int32)).toInt64 &&& 63) = (5 : Int64) from by decide]
  apply Int64.toBitVec_inj.mp
  show (BitVec.ofNat 64 w) <<< 5 ||| BitVec.ofNat 64 (c - 96) = BitVec.ofNat 64 (32 * w + (c - 96))
  apply BitVec.eq_of_toNat_eq
  rw [BitVec.toNat_or, BitVec.toNat_shiftLeft, BitVec.toNat_ofNat, BitVec.toNat_ofNat, BitVec.toNat_ofNat, Nat.shiftLeft_eq]
  rw [Nat.mod_eq_of_lt (show w < 2 ^ 64 by omega), Nat.mod_eq_of_lt (show c - 96 < 2 ^ 64 by omega), Nat.mod_eq_of_lt (show w * 2 ^ 5 < 2 ^ 64 by omega), Nat.mod_eq_of_lt (show 32 * w + (c - 96) < 2 ^ 64 by omega), ow_or _ _ _ (by omega)]
  omega
theorem rd_s_le (b : Nat → Nat) : ∀ k j, rd_s b k j ≤ rd_sl b k
  | 0, _ => Nat.le_refl _
  | k + 1, j => by
    have ih := rd_s_le b k j
    rw [rd_s, rd_sl]
    split
    · show (if _ then _ else _) ≤ _
      split <;> omega
    · omega
theorem rd_wc_mono (b : Nat → Nat) {i j : Nat} (h : i ≤ j) : rd_wc b i ≤ rd_wc b j := by
  induction j with
  | zero => rw [show i = 0 by omega]; exact Nat.le_refl _
  | succ j ih =>
    rcases Nat.lt_or_ge j i with h2 | h2
    · rw [show i = j + 1 by omega]; exact Nat.le_refl _
    · have := ih h2
      rw [rd_wc]
      omega
/-- a word's letters are read -/
theorem rd_letters {kd : Nat} {b : Nat → Nat} {k : Nat} (h0 : rd_run b k = 0) : ∀ i, (∀ j, j < i → rd_L (b (k + j)) = true) → rd_run b (k + i) = i ∧ rd_sl b (k + i) = rd_sl b k ∧ (0 < i → rd_wc b (k + i) = rd_wc b k + 1) ∧ (∀ j, j ≠ rd_wc b k → rd_w b (k + i) j = rd_w b k j ∧ rd_s b (k + i) j = rd_s b k j) ∧ (0 < i → rd_s b (k + i) (rd_wc b k) = rd_sl b k) ∧ rd_ok kd b (k + i) = (rd_ok kd b k && decide (i ≤ 12))
  | 0, _ => ⟨h0, rfl, fun h => absurd h (Nat.lt_irrefl 0), fun _ _ => ⟨rfl, rfl⟩, fun h => absurd h (Nat.lt_irrefl 0), by rw [decide_eq_true (Nat.zero_le 12), Bool.and_true]; rfl⟩
  | i + 1, h => by
    obtain ⟨i1, i2, i3, i4, i5, i6⟩ := rd_letters (kd := kd) h0 i fun j hj => h j (by omega)
    have hl := h i (Nat.lt_succ_self i)
    have hn47 : b (k + i) ≠ 47 := fun z => by
      unfold rd_L at hl
      rw [z] at hl
      cases hl
    have ewc : rd_wc b (k + i + 1) = rd_wc b k + 1 := by
      rw [rd_wc]
      by_cases hi : i = 0
      · subst hi
        rw [if_pos (by rw [hl, i1]; rfl)]
        rfl
      · rw [if_neg (by rw [hl, i1, decide_eq_false hi]; decide), i3 (by omega)]
    refine ⟨?_, ?_, fun _ => ewc, fun j hj => ⟨?_, ?_⟩, fun _ => ?_, ?_⟩
    · show rd_run b (k + i + 1) = _
      rw [rd_run, if_pos hl, i1]
    · show rd_sl b (k + i + 1) = _
      rw [rd_sl, if_neg hn47, i2, Nat.add_zero]
    · show rd_w b (k + i + 1) j = _
      rw [rd_w, if_pos hl]
      show (if j = rd_wc b (k + i + 1) - 1 then _ else rd_w b (k + i) j) = _
      rw [ewc, if_neg (by omega)]
      exact (i4 j hj).1
    · show rd_s b (k + i + 1) j = _
      rw [rd_s, if_pos hl]
      show (if j = rd_wc b (k + i + 1) - 1 then _ else rd_s b (k + i) j) = _
      rw [ewc, if_neg (by omega)]
      exact (i4 j hj).2
    · show rd_s b (k + i + 1) (rd_wc b k) = _
      rw [rd_s, if_pos hl]
      show (if rd_wc b k = rd_wc b (k + i + 1) - 1 then rd_sl b (k + i) else _) = _
      rw [ewc, if_pos (by omega)]
      exact i2
    · show rd_ok kd b (k + i + 1) = _
      rw [rd_ok, if_pos hl, i6, i1, Bool.and_assoc]
      congr 1
      by_cases h12 : i + 1 ≤ 12
      · rw [decide_eq_true h12, decide_eq_true (show i ≤ 12 by omega)]; rfl
      · rw [decide_eq_false h12, Bool.and_false]
theorem rd_w_s {b : Nat → Nat} {k i : Nat} (h0 : rd_run b k = 0) (h : ∀ j, j < i + 1 → rd_L (b (k + j)) = true) : rd_w b (k + (i + 1)) (rd_wc b k) = 32 * rd_w b (k + i) (rd_wc b k) + (b (k + i) - 96) := by
  have hl := h i (Nat.lt_succ_self i)
  have ewc := (rd_letters (kd := 0) h0 (i + 1) h).2.2.1 (Nat.succ_pos i)
  have ewc : rd_wc b (k + i + 1) = rd_wc b k + 1 := ewc
  show rd_w b (k + i + 1) (rd_wc b k) = _
  rw [rd_w, if_pos hl]
  show (if rd_wc b k = rd_wc b (k + i + 1) - 1 then _ else _) = _
  rw [ewc, if_pos (by omega)]
/-- what holds as the row is read, ahead of place k -/
def rr_S (kd : Nat) (b : Nat → Nat) (len : Nat) (M M1 : kz_M) (s s1 : Nat → Int32) (rb1 : Int64) (k : Nat) (fl : Bool) : Prop := (ow_Sm (fun z => z = 99 ∨ z = 107) M M1 ∧ M1.2 = M.2 ∧ (∀ j, j ≠ 12 → s1 j = s j)) ∧ M1.1 99 = some (.inl (11, mo_fs s1 rb1)) ∧ s1 12 = nI (rd_wc b k) ∧ (rd_ok kd b k = true ∧ rd_wc b k ≤ 60) ∧ (∃ gr, M1.1 107 = some (.inr (.long, 60, .inr (.inl gr))) ∧ ∀ j, j < rd_wc b k → gr j = lN (rd_w b k j)) ∧ (∀ j, 0 < j → j < rd_wc b k → (mo_bk rb1 j = true ↔ rd_s b k j ≠ rd_s b k (j - 1))) ∧ (∀ j, rd_wc b k ≤ j → j < 60 → mo_bk rb1 j = false) ∧ (0 < rd_wc b k → (fl = true ↔ rd_s b k (rd_wc b k - 1) ≠ rd_sl b k)) ∧ (rd_run b k = 0 ∨ (k < len → rd_L (b k) = false))
section MOA
variable {G : kz_G} {d : Nat} {Qr : Option Value → kz_M → Prop} {Qx : String → kz_M → Prop} {M : kz_M} {s : Nat → Int32} {rb : Int64}
theorem m_isLetter {c : Nat} (hc : c < 256) (q : Qr (some (.int (ow_b (rd_L c)))) M) : kz_C G (d + 1) 0 0 mX12_isLetter [.int (nI c)] M Qr Qx :=
  rX12_isLetter_0 (m_in (v := rd_L c) (ow_islN c hc).symm ⟨_, rfl, ow_nar _, q⟩)
theorem m_readsRow {kd len n : Nat} {b : Nat → Nat} (h99 : M.1 99 = some (.inl (11, mo_fs s rb))) (A : mo_rows M) (hI : ∃ f, M.1 112 = some (.inr (.int, 600, .inl f)) ∧ ∀ i, i < n → f i = nI (b i) ∧ b i < 256) (hln : len ≤ n) (hl5 : len ≤ 500) (hk2 : kd ≤ 2) (q0 : rd_can kd b len = false → ∀ M1 s1 rb1, ow_Sm mo_inR M M1 → M1.2 = M.2 → (∀ j, j ≠ 12 → s1 j = s j) → M1.1 99 = some (.inl (11, mo_fs s1 rb1)) → mo_rows M1 → Qr (some (.int 0)) M1) (q1 : rd_can kd b len = true → ∀ M1 s1 rb1, ow_Sm mo_inR M M1 → M1.2 = M.2 → (∀ j, j ≠ 12 → s1 j = s j) → M1.1 99 = some (.inl (11, mo_fs s1 rb1)) → mo_rows M1 → mo_row M1 (rd_S kd b len) s1 rb1 → Qr (some (.int 1)) M1) : kz_C G (d + 2) 0 0 mX12_readsRow [.ref 99, .int (nI kd), .int (nI len)] M Qr Qx := by
  obtain ⟨fi, h112, hfi⟩ := hI
  obtain ⟨⟨gr0, a7⟩, ⟨f8, a8⟩, ⟨f9, a9⟩, ⟨f10, a10⟩, f11, a11⟩ := A
  have rows : ∀ {M1 : kz_M} {g}, ow_Sm (fun z => z = 99 ∨ z = 107) M M1 → M1.1 107 = some (.inr (.long, 60, .inr (.inl g))) → mo_rows M1 := fun g1 g2 => ⟨⟨_, g2⟩, ⟨f8, (g1 108 (by omega)).trans a8⟩, ⟨f9, (g1 109 (by omega)).trans a9⟩, ⟨f10, (g1 110 (by omega)).trans a10⟩, f11, (g1 111 (by omega)).trans a11⟩
  have no : rd_can kd b len = false → ∀ {M1 : kz_M} {s1 : Nat → Int32} {rb1 : Int64} {k : Nat} {fl : Bool}, rr_S kd b len M M1 s s1 rb1 k fl → Qr (some (.int 0)) M1 := fun hc M1 s1 rb1 k fl H => by
    obtain ⟨⟨g1, g2, g3⟩, g4, g5, g6, ⟨gr, g7, -⟩, -⟩ := H
    exact q0 hc M1 s1 rb1 (g1.mono fun z hz => by omega) g2 g3 g4 (rows g1 g7)
  have notok : ∀ k, k ≤ len → rd_ok kd b k = false → rd_can kd b len = false := fun k hk h => by
    cases hc : rd_can kd b len with
    | false => rfl
    | true =>
      rw [rd_can, Bool.and_eq_true] at hc
      rw [rd_ok_le hk hc.1] at h
      cases h
  have toomany : ∀ k, k ≤ len → 60 < rd_wc b k → rd_can kd b len = false := fun k hk h => by
    have := rd_wc_mono b hk
    rw [rd_can, decide_eq_false (p := rd_wc b len ≤ 60) (by omega), Bool.and_false, Bool.and_false]
  have outer : ∀ fuel k, len ≤ k + fuel → k ≤ len → ∀ M1 s1 rb1 fl, rr_S kd b len M M1 s s1 rb1 k fl → zX12_readsRow_15 G d Qr Qx 99 (nI kd) (nI len) (ow_b fl) (nI k) M1 := by
    intro fuel
    induction fuel with
    | zero =>
      intro k h1 h2 M1 s1 rb1 fl H
      have hkl : k = len := by omega
      subst hkl
      have H0 := H
      obtain ⟨⟨g1, g2, g3⟩, g4, g5, g6, ⟨gr, g7, g8⟩, g9, g10, g11, g12⟩ := H
      refine rX12_readsRow_15 (ow_y (nI_le (Nat.le_refl _) (by omega)) ⟨_, _, g4, rfl, ?_⟩)
      rw [g5]
      have hw := rd_wc_le b k
      refine pk_le (rd_wc b k) 0 (fun hz => ?_) (fun hz => ?_) rfl rfl
      · exact no (by rw [rd_can, decide_eq_false (p := 1 ≤ rd_wc b k) (by omega)]; simp) H0
      · refine q1 (by rw [rd_can, g6.1, decide_eq_true (show 1 ≤ rd_wc b k by omega), decide_eq_true g6.2]; rfl) M1 s1 rb1 (g1.mono fun z hz => by omega) g2 g3 g4 (rows g1 g7) ⟨g5, fun j h0 hj => ?_, gr, g7, g8⟩
        have hj2 : j < rd_wc b k := hj
        rw [g9 j h0 hj2]
        have b1 := rd_s_le b k j
        have b2 := rd_s_le b k (j - 1)
        have b3 := rd_sl_le b k
        show _ ↔ nI (rd_s b k j) ≠ nI (rd_s b k (j - 1))
        exact ⟨fun z e => z ((nI_eq (by omega) (by omega)).mp e), fun z e => z (by rw [e])⟩
    | succ fuel ih =>
      intro k h1 h2 M1 s1 rb1 fl H
      by_cases hge : len ≤ k
      · exact ih k (by omega) h2 M1 s1 rb1 fl H
      have hkl : k < len := by omega
      have H0 := H
      obtain ⟨⟨g1, g2, g3⟩, g4, g5, g6, ⟨gr, g7, g8⟩, g9, g10, g11, g12⟩ := H
      obtain ⟨c1, c2⟩ := hfi k (by omega)
      have hin : M1.1 112 = some (.inr (.int, 600, .inl fi)) := (g1 112 (by omega)).trans h112
      refine rX12_readsRow_15 (ow_n (nI_ge hkl (by omega)) ⟨_, _, g4, rfl, _, _, hin, vp_in_nI (by omega) (by omega), ?_⟩)
      rw [nI_clamp (by omega), c1, nI_1]
      refine m_isLetter c2 ⟨_, rfl, ow_if0 (fun hz => ?_) (fun hz => ?_)⟩
      · -- no letter
        have hnl : ¬ rd_L (b k) = true := by rw [hz]; decide
        have ewc : rd_wc b (k + 1) = rd_wc b k := by rw [rd_wc, if_neg (by rw [hz]; simp), Nat.add_zero]
        have ew : rd_w b (k + 1) = rd_w b k := by rw [rd_w, if_neg hnl]
        have es : rd_s b (k + 1) = rd_s b k := by rw [rd_s, if_neg hnl]
        have erun : rd_run b (k + 1) = 0 := by rw [rd_run, if_neg hnl]
        have eok : rd_ok kd b (k + 1) = ((decide (b k = 32) || decide (b k = 10)) || (decide (b k = 47) && decide (kd = 1))) := by rw [rd_ok, if_neg hnl, g6.1, Bool.true_and]
        have nx : rd_ok kd b (k + 1) = true → ∀ fl', fl' = (fl || decide (b k = 47)) → zX12_readsRow_15 G d Qr Qx 99 (nI kd) (nI len) (ow_b fl') (nI (k + 1)) M1 := fun hok fl' hfl => by
          refine ih (k + 1) (by omega) (by omega) M1 s1 rb1 fl' ⟨⟨g1, g2, g3⟩, g4, by rw [ewc]; exact g5, ⟨hok, by rw [ewc]; exact g6.2⟩, ⟨gr, g7, by rw [ewc, ew]; exact g8⟩, by rw [ewc, es]; exact g9, by rw [ewc]; exact g10, ?_, Or.inl erun⟩
          rw [ewc, es]
          intro h0
          have h3 := g11 h0
          have h4 := rd_s_le b k (rd_wc b k - 1)
          rw [hfl, rd_sl]
          by_cases h47 : b k = 47
          · rw [if_pos h47, decide_eq_true h47, Bool.or_true]
            exact ⟨fun _ => by omega, fun _ => rfl⟩
          · rw [if_neg h47, decide_eq_false h47, Bool.or_false, Nat.add_zero]
            exact h3
        have br : rd_ok kd b (k + 1) = true → (¬ ow_b fl = 0 → zX12_readsRow_15 G d Qr Qx 99 (nI kd) (nI len) 1 (nI (k + 1)) M1) ∧ (ow_b fl = 0 → (¬ nI (b k) = (47 : Int32) → zX12_readsRow_15 G d Qr Qx 99 (nI kd) (nI len) 0 (nI (k + 1)) M1) ∧ (nI (b k) = (47 : Int32) → zX12_readsRow_15 G d Qr Qx 99 (nI kd) (nI len) 1 (nI (k + 1)) M1)) := fun hok =>
          ow_ifn (fun e => nx hok true (by rw [e]; rfl)) (fun e => (pk_eq (b k) 47 (fun h47 => nx hok true (by rw [decide_eq_true h47, Bool.or_true])) (fun h47 => nx hok false (by rw [e, decide_eq_false h47]; rfl)) rfl rfl).symm)
        refine pk_eq (b k) 32 (fun h32 => br (by rw [eok, decide_eq_true h32]; rfl)) (fun h32 => pk_eq (b k) 10 (fun h10 => br (by rw [eok, decide_eq_true h10, Bool.or_true]; rfl)) (fun h10 => (pk_eq (b k) 47 (fun h47 => pk_eq kd 1 (fun hk1 => br (by rw [eok, decide_eq_true h47, decide_eq_true hk1]; simp)) (fun hk1 => ?_) rfl rfl) (fun h47 => ?_) rfl rfl).symm) rfl rfl) rfl rfl
        · exact no (notok (k + 1) (by omega) (by rw [eok, decide_eq_false h32, decide_eq_false h10, decide_eq_false hk1, Bool.and_false]; rfl)) H0
        · exact no (notok (k + 1) (by omega) (by rw [eok, decide_eq_false h32, decide_eq_false h10, decide_eq_false h47]; rfl)) H0
      · -- a word begins
        have hrun : rd_run b k = 0 := by
          rcases g12 with h | h
          · exact h
          · rw [h hkl] at hz; cases hz
        have hw0 : rd_w b k (rd_wc b k) = 0 := (rd_w_ok k g6.1).2.1 _ (Nat.le_refl _)
        have inner : ∀ f2 i, len ≤ k + i + f2 → k + i ≤ len → (∀ j, j < i → rd_L (b (k + j)) = true) → ∀ x7 : Int64, (i ≤ 12 → x7 = lN (rd_w b (k + i) (rd_wc b k))) → zX12_readsRow_45 G d Qr Qx 99 (nI kd) (nI len) (ow_b fl) (nI k) (nI (k + i)) x7 M1 := by
          intro f2
          induction f2 with
          | zero =>
            intro i hf hkn hall x7 hx7
            have hi0 : 0 < i := by omega
            obtain ⟨l1, l2, l3, l4, l5, l6⟩ := rd_letters (kd := kd) hrun i hall
            have hend : k + i < len → rd_L (b (k + i)) = false := fun h => by omega
            refine rX12_readsRow_45 (ow_y (nI_le (by omega) (by omega)) ?_)
            rw [pk_sub (show k ≤ k + i by omega), show k + i - k = i by omega]
            refine pk_lt 12 i (fun h12 => no (notok (k + i) hkn (by rw [l6, decide_eq_false (p := i ≤ 12) (by omega), Bool.and_false])) H0) (fun h12 => ⟨_, _, g4, rfl, ?_⟩) rfl rfl
            rw [g5]
            refine (pk_eq (rd_wc b k) 60 (fun h60 => no (toomany (k + i) hkn (by rw [l3 hi0]; omega)) H0) (fun h60 => ⟨_, _, g4, rfl, _, _, g4, rfl, _, _, g7, ?_⟩) rfl rfl).symm
            rw [g5, nI_clamp (by omega)]
            have hwc := g6.2
            refine ⟨vp_in_nI (by omega) (by omega), ?_⟩
            have hok : rd_ok kd b (k + i) = true := by rw [l6, g6.1, decide_eq_true (show i ≤ 12 by omega)]; rfl
            have fin : ∀ (rb2 : Int64), (∀ j, j < 60 → mo_bk rb2 j = (mo_bk rb1 j || (fl && decide (j = rd_wc b k)))) → ∀ M3 : kz_M, (∀ z, z ≠ 99 → z ≠ 107 → M3.1 z = M1.1 z) → M3.2 = M1.2 → M3.1 99 = some (.inl (11, mo_fs (upd s1 12 (nI (rd_wc b k + 1))) rb2)) → M3.1 107 = some (.inr (.long, 60, .inr (.inl (vp_updL gr (rd_wc b k) x7)))) → zX12_readsRow_15 G d Qr Qx 99 (nI kd) (nI len) 0 (nI (k + i)) M3 := by
              intro rb2 hrb M3 u3 t3 e99 e107
              refine ih (k + i) (by omega) hkn M3 (upd s1 12 (nI (rd_wc b k + 1))) rb2 false ⟨⟨fun z hz => ?_, t3.trans g2, fun j hj => ?_⟩, e99, ?_, ⟨hok, ?_⟩, ⟨_, e107, fun j hj => ?_⟩, fun j h0 hj => ?_, fun j hj h60' => ?_, fun h0 => ?_, Or.inr hend⟩
              · rw [u3 z (by omega) (by omega)]
                exact g1 z hz
              · show (if j = 12 then _ else s1 j) = s j
                rw [if_neg hj]
                exact g3 j hj
              · rw [l3 hi0]; rfl
              · rw [l3 hi0]; omega
              · rw [l3 hi0] at hj
                show (if j = rd_wc b k then x7 else gr j) = _
                by_cases hjw : j = rd_wc b k
                · rw [if_pos hjw, hjw]
                  exact hx7 (by omega)
                · rw [if_neg hjw, (l4 j hjw).1]
                  exact g8 j (by omega)
              · rw [l3 hi0] at hj
                rw [hrb j (by omega)]
                by_cases hjw : j = rd_wc b k
                · subst hjw
                  rw [g10 _ (Nat.le_refl _) (by omega), decide_eq_true rfl, Bool.and_true, Bool.false_or, l5 hi0, (l4 (rd_wc b k - 1) (by omega)).2, g11 h0]
                  exact ⟨fun z e => z e.symm, fun z e => z e.symm⟩
                · rw [decide_eq_false hjw, Bool.and_false, Bool.or_false, (l4 j hjw).2, (l4 (j - 1) (by omega)).2]
                  exact g9 j h0 (by omega)
              · rw [l3 hi0] at hj
                rw [hrb j h60', g10 j (by omega) h60', decide_eq_false (p := j = rd_wc b k) (by omega), Bool.and_false]
                rfl
              · rw [l3 hi0, show rd_wc b k + 1 - 1 = rd_wc b k by omega, l5 hi0, l2]
                exact ⟨fun z => (by cases z), fun z => absurd rfl z⟩
            refine ow_if0 (fun hfl => ⟨_, _, (kz_up_ne (by omega)).trans g4, rfl, _, (kz_up_ne (by omega)).trans g4, ow_l rfl, ?_⟩) (fun hfl => ⟨_, _, (kz_up_ne (by omega)).trans g4, rfl, _, _, (kz_up_ne (by omega)).trans g4, rfl, _, (kz_up_ne (by omega)).trans g4, ow_l rfl, fun M3 e3 => ?_⟩)
            · rw [g5, nI_1]
              refine fin rb1 (fun j hj => by rw [hfl, Bool.false_and, Bool.or_false]) _ (fun z h1' h2' => by rw [kz_up_ne h1', kz_up_ne h2']) rfl (kz_up_same _ _ _) ((kz_up_ne (by omega)).trans (kz_up_same _ _ _))
            · have h99' : M3.1 99 = some (.inl (11, mo_fs s1 (rb1 ||| ((1 : Int64) <<< ((s1 12).toInt64 &&& 63))))) := by rw [e3]; exact kz_up_same _ _ _
              refine ⟨_, _, h99', rfl, _, h99', ow_l rfl, ?_⟩
              rw [g5, nI_1]
              refine fin (rb1 ||| ((1 : Int64) <<< ((nI (rd_wc b k)).toInt64 &&& 63))) (fun j hj => by rw [hfl, Bool.true_and]; exact mo_bk_or (by omega) hj) _ (fun z h1' h2' => by rw [kz_up_ne h1', e3, kz_up_ne h1', kz_up_ne h2']) (by rw [kz_up_2, e3]; rfl) ?_ ?_
              · rw [kz_up_same, ← g5]
                rfl
              · rw [kz_up_ne (by omega), e3, kz_up_ne (by omega)]
                exact kz_up_same _ _ _
          | succ f2 ihf =>
            intro i hf hkn hall x7 hx7
            by_cases hge2 : len ≤ k + i
            · exact ihf i (by omega) hkn hall x7 hx7
            have hkl2 : k + i < len := by omega
            obtain ⟨d1, d2⟩ := hfi (k + i) (by omega)
            refine rX12_readsRow_45 (ow_n (nI_ge hkl2 (by omega)) ⟨_, _, g4, rfl, _, _, hin, vp_in_nI (by omega) (by omega), ?_⟩)
            rw [nI_clamp (by omega), d1]
            refine m_isLetter d2 ⟨_, rfl, ow_if0 (fun hz2 => ?_) (fun hz2 => ?_)⟩
            · have hi0 : 0 < i := by
                rcases Nat.eq_zero_or_pos i with h | h
                · subst h
                  rw [Nat.add_zero, hz] at hz2
                  cases hz2
                · exact h
              obtain ⟨l1, l2, l3, l4, l5, l6⟩ := rd_letters (kd := kd) hrun i hall
              have hend : k + i < len → rd_L (b (k + i)) = false := fun _ => hz2
              rw [pk_sub (show k ≤ k + i by omega), show k + i - k = i by omega]
              refine pk_lt 12 i (fun h12 => no (notok (k + i) hkn (by rw [l6, decide_eq_false (p := i ≤ 12) (by omega), Bool.and_false])) H0) (fun h12 => ⟨_, _, g4, rfl, ?_⟩) rfl rfl
              rw [g5]
              refine (pk_eq (rd_wc b k) 60 (fun h60 => no (toomany (k + i) hkn (by rw [l3 hi0]; omega)) H0) (fun h60 => ⟨_, _, g4, rfl, _, _, g4, rfl, _, _, g7, ?_⟩) rfl rfl).symm
              rw [g5, nI_clamp (by omega)]
              have hwc := g6.2
              refine ⟨vp_in_nI (by omega) (by omega), ?_⟩
              have hok : rd_ok kd b (k + i) = true := by rw [l6, g6.1, decide_eq_true (show i ≤ 12 by omega)]; rfl
              have fin : ∀ (rb2 : Int64), (∀ j, j < 60 → mo_bk rb2 j = (mo_bk rb1 j || (fl && decide (j = rd_wc b k)))) → ∀ M3 : kz_M, (∀ z, z ≠ 99 → z ≠ 107 → M3.1 z = M1.1 z) → M3.2 = M1.2 → M3.1 99 = some (.inl (11, mo_fs (upd s1 12 (nI (rd_wc b k + 1))) rb2)) → M3.1 107 = some (.inr (.long, 60, .inr (.inl (vp_updL gr (rd_wc b k) x7)))) → zX12_readsRow_15 G d Qr Qx 99 (nI kd) (nI len) 0 (nI (k + i)) M3 := by
                intro rb2 hrb M3 u3 t3 e99 e107
                refine ih (k + i) (by omega) hkn M3 (upd s1 12 (nI (rd_wc b k + 1))) rb2 false ⟨⟨fun z hz => ?_, t3.trans g2, fun j hj => ?_⟩, e99, ?_, ⟨hok, ?_⟩, ⟨_, e107, fun j hj => ?_⟩, fun j h0 hj => ?_, fun j hj h60' => ?_, fun h0 => ?_, Or.inr hend⟩
                · rw [u3 z (by omega) (by omega)]
                  exact g1 z hz
                · show (if j = 12 then _ else s1 j) = s j
                  rw [if_neg hj]
                  exact g3 j hj
                · rw [l3 hi0]; rfl
                · rw [l3 hi0]; omega
                · rw [l3 hi0] at hj
                  show (if j = rd_wc b k then x7 else gr j) = _
                  by_cases hjw : j = rd_wc b k
                  · rw [if_pos hjw, hjw]
                    exact hx7 (by omega)
                  · rw [if_neg hjw, (l4 j hjw).1]
                    exact g8 j (by omega)
                · rw [l3 hi0] at hj
                  rw [hrb j (by omega)]
                  by_cases hjw : j = rd_wc b k
                  · subst hjw
                    rw [g10 _ (Nat.le_refl _) (by omega), decide_eq_true rfl, Bool.and_true, Bool.false_or, l5 hi0, (l4 (rd_wc b k - 1) (by omega)).2, g11 h0]
                    exact ⟨fun z e => z e.symm, fun z e => z e.symm⟩
                  · rw [decide_eq_false hjw, Bool.and_false, Bool.or_false, (l4 j hjw).2, (l4 (j - 1) (by omega)).2]
                    exact g9 j h0 (by omega)
                · rw [l3 hi0] at hj
                  rw [hrb j h60', g10 j (by omega) h60', decide_eq_false (p := j = rd_wc b k) (by omega), Bool.and_false]
                  rfl
                · rw [l3 hi0, show rd_wc b k + 1 - 1 = rd_wc b k by omega, l5 hi0, l2]
                  exact ⟨fun z => (by cases z), fun z => absurd rfl z⟩
              refine ow_if0 (fun hfl => ⟨_, _, (kz_up_ne (by omega)).trans g4, rfl, _, (kz_up_ne (by omega)).trans g4, ow_l rfl, ?_⟩) (fun hfl => ⟨_, _, (kz_up_ne (by omega)).trans g4, rfl, _, _, (kz_up_ne (by omega)).trans g4, rfl, _, (kz_up_ne (by omega)).trans g4, ow_l rfl, fun M3 e3 => ?_⟩)
              · rw [g5, nI_1]
                refine fin rb1 (fun j hj => by rw [hfl, Bool.false_and, Bool.or_false]) _ (fun z h1' h2' => by rw [kz_up_ne h1', kz_up_ne h2']) rfl (kz_up_same _ _ _) ((kz_up_ne (by omega)).trans (kz_up_same _ _ _))
              · have h99' : M3.1 99 = some (.inl (11, mo_fs s1 (rb1 ||| ((1 : Int64) <<< ((s1 12).toInt64 &&& 63))))) := by rw [e3]; exact kz_up_same _ _ _
                refine ⟨_, _, h99', rfl, _, h99', ow_l rfl, ?_⟩
                rw [g5, nI_1]
                refine fin (rb1 ||| ((1 : Int64) <<< ((nI (rd_wc b k)).toInt64 &&& 63))) (fun j hj => by rw [hfl, Bool.true_and]; exact mo_bk_or (by omega) hj) _ (fun z h1' h2' => by rw [kz_up_ne h1', e3, kz_up_ne h1', kz_up_ne h2']) (by rw [kz_up_2, e3]; rfl) ?_ ?_
                · rw [kz_up_same, ← g5]
                  rfl
                · rw [kz_up_ne (by omega), e3, kz_up_ne (by omega)]
                  exact kz_up_same _ _ _
            · have hall2 : ∀ j, j < i + 1 → rd_L (b (k + j)) = true := fun j hj => by
                rcases Nat.lt_or_ge j i with h | h
                · exact hall j h
                · have : j = i := by omega
                  subst this; exact hz2
              have hbl : 97 ≤ b (k + i) ∧ b (k + i) ≤ 122 := by
                unfold rd_L at hz2
                simpa using hz2
              rw [pk_sub (show k ≤ k + i by omega), show k + i - k = i by omega, nI_1]
              refine pk_le 12 i (fun h12 => ihf (i + 1) (by omega) (by omega) hall2 x7 (fun h => absurd h (by omega))) (fun h12 => ⟨_, _, g4, rfl, _, _, hin, vp_in_nI (by omega) (by omega), ?_⟩) rfl rfl
              refine ihf (i + 1) (by omega) (by omega) hall2 _ fun _ => ?_
              obtain ⟨l1, l2, l3, l4, l5, l6⟩ := rd_letters (kd := kd) hrun i hall
              have hok : rd_ok kd b (k + i) = true := by rw [l6, g6.1, decide_eq_true (show i ≤ 12 by omega)]; rfl
              have hwb : rd_w b (k + i) (rd_wc b k) < 2 ^ 55 := by
                rcases Nat.eq_zero_or_pos i with h | h
                · subst h
                  rw [Nat.add_zero, hw0]; decide
                · have h4 := (rd_w_ok (k + i) hok).2.2.2 (by omega)
                  rw [l3 h, l1, show rd_wc b k + 1 - 1 = rd_wc b k by omega] at h4
                  have : 2 ^ (5 * i) ≤ 2 ^ 55 := Nat.pow_le_pow_right (by omega) (by omega)
                  omega
              rw [hx7 (by omega), d1, mo_wl hwb hbl.1 hbl.2, rd_w_s hrun hall2]
        exact inner len 0 (by omega) (by omega) (fun j hj => absurd hj (Nat.not_lt_zero j)) 0 fun _ => by rw [Nat.add_zero, hw0]; rfl
  refine rX12_readsRow_0 ⟨_, h99, ow_l rfl, _, kz_up_same _ _ _, ow_l rfl, ?_⟩
  refine outer len 0 (by omega) (Nat.zero_le _) (kz_up (kz_up M 99 (.inl (11, (mo_fs s rb).set 12 (.int 0)))) 99 (.inl (11, ((mo_fs s rb).set 12 (.int 0)).set 11 (.long 0)))) (upd s 12 0) 0 false ⟨⟨fun z hz => ?_, rfl, fun j hj => if_neg hj⟩, kz_up_same _ _ _, rfl, ⟨rfl, Nat.zero_le _⟩, ⟨gr0, ?_, fun j hj => absurd hj (Nat.not_lt_zero j)⟩, fun j _ hj => absurd hj (Nat.not_lt_zero j), fun j _ hj => mo_bk_0 (by omega), fun h => absurd h (Nat.lt_irrefl 0), Or.inl rfl⟩
  · rw [kz_up_ne (by omega), kz_up_ne (by omega)]
  · rw [kz_up_ne (by omega), kz_up_ne (by omega)]
    exact a7
end MOA
