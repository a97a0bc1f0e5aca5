/-! Part 71: LineOfficeLaw.reason -/
theorem jtm_pos {w : Nat → Int64} {x : Int64} {a b : Nat} : 0 < ow_tm w x a b ↔ ∃ i, i < b ∧ a ≤ i ∧ w i = x := by
  unfold ow_tm
  rw [ow_cn_pos]
  simp
theorem jstf {M : kz_M} {b : Nat} {s : ow_S} {l : ow_L} (h : jLn M b s l) {st : Nat} (hst : 1 ≤ st) : ow_stf s l st = ow_ex (fun q => decide (st ≤ ow_tm s.2.2.1 (lN (jc q)) l.1 l.2.1)) 4 := by
  obtain ⟨aw, f, -, -, -, h3, h4, h5⟩ := h
  rw [Bool.eq_iff_iff]
  unfold ow_stf
  rw [ow_ex_iff, ow_ex_iff]
  constructor
  · rintro ⟨i, hi, h⟩
    simp only [Bool.and_eq_true, decide_eq_true_eq] at h
    obtain ⟨q, hq, -, e⟩ := h5 (i - l.1) (by omega)
    rw [show l.1 + (i - l.1) = i by omega] at e
    exact ⟨q, hq, decide_eq_true (by rw [← e]; exact h.2)⟩
  · rintro ⟨q, hq, h⟩
    have h := of_decide_eq_true h
    obtain ⟨i, hi, h1, h2⟩ := jtm_pos.mp (Nat.lt_of_lt_of_le (by omega) h)
    exact ⟨i, hi, by simp [h1, h2]; exact h⟩
theorem jwn {M : kz_M} {b : Nat} {s : ow_S} {l : ow_L} (h : jLn M b s l) (k : Nat) (P : ow_P) (wo : Nat) : ow_wn k P s l wo = !ow_ex (fun q => decide (0 < ow_tm s.2.2.1 (lN (jc q)) l.1 l.2.1) && decide (ow_lw_ k P (lN (jc q)) < wo)) 4 := by
  obtain ⟨aw, f, -, -, -, h3, h4, h5⟩ := h
  unfold ow_wn
  congr 1
  rw [Bool.eq_iff_iff, ow_ex_iff, ow_ex_iff]
  constructor
  · rintro ⟨i, hi, h⟩
    simp only [Bool.and_eq_true, decide_eq_true_eq] at h
    obtain ⟨q, hq, -, e⟩ := h5 (i - l.1) (by omega)
    rw [show l.1 + (i - l.1) = i by omega] at e
    refine ⟨q, hq, ?_⟩
    rw [← e]
    simp only [Bool.and_eq_true, decide_eq_true_eq]
    exact ⟨jtm_pos.mpr ⟨i, hi, h.1, rfl⟩, h.2⟩
  · rintro ⟨q, hq, h⟩
    simp only [Bool.and_eq_true, decide_eq_true_eq] at h
    obtain ⟨i, hi, h1, h2⟩ := jtm_pos.mp h.1
    exact ⟨i, hi, by simp only [Bool.and_eq_true, decide_eq_true_eq, h2]; exact ⟨h1, h.2⟩⟩
section JRE
variable {G : kz_G} {d mc ms : Nat} {Qr : Option Value → kz_M → Prop} {Qx : String → kz_M → Prop} {M0 : kz_M}
theorem ow_Nw.it {M M1 : kz_M} {it : Nat} (h : ow_Nw jF M0 M) (hi : M0.2 ≤ it) (g : ∀ j, j ≠ it → M1.1 j = M.1 j) (g2 : M1.2 = M.2) : ow_Nw jF M0 M1 := ⟨fun k hk hp => (g k (by omega)).trans (h.1 k hk hp), by rw [g2]; exact h.2⟩
theorem c_reason {a b r er k cap st wo : Nat} {x : Nat → Nat} {P : ow_P} {s : ow_S} {l : ow_L} {fs : List Value} (hZ : M0.1 a = some (.inl (13, fs))) (hs7 : fs[7]? = some (.int (nI st))) (hw8 : fs[8]? = some (.int (nI wo))) (hL : jL M0 r er k cap x) (hx : ∀ i, i < k → jLn M0 (x i) (P i).1 (P i).2 ∧ (P i).2.2.1 < 2 ^ 20) (hl : jLn M0 b s l) (hln : l.2.1 < 2 ^ 20) (hst : 1 ≤ st ∧ st < 1000) (hwo : wo < 1000) (hk : k ≤ 240) (hmc : 5 ≤ mc) (hms : 20 ≤ ms) (Q : ∀ M1, ow_Nw jF M0 M1 → Qr (some (.int (nI (ow_rs k P s l st wo)))) M1) : kz_C G (d + 3) mc ms mL_reason [.ref a, .ref b, .ref r] M0 Qr Qx := by
  refine kz_Cfr fun hf0 => ?_
  have hstf := jstf hl hst.1
  have hwn := jwn hl k P wo
  have htm : ∀ q, ow_tm s.2.2.1 (lN (jc q)) l.1 l.2.1 < 2 ^ 20 := fun q => hl.tm _ hln
  -- worn?
  have k97 : ∀ q, q < 4 → ow_hl k P s l = false → ow_stf s l st = false → 0 < ow_tm s.2.2.1 (lN (jc q)) l.1 l.2.1 → ∀ (c sl : Nat), c ≤ mc → sl ≤ ms → (wo ≤ ow_lw_ k P (lN (jc q)) → ∀ M, ow_Nw jF M0 M → zL_reason_70 G d mc ms Qr Qx a b r (nI (q + 1)) M c sl) → ∀ i, i ≤ k → ∀ (M : kz_M) (it : Nat), ow_Nw jF M0 M → M0.2 ≤ it → jI_ M it r i k → zL_reason_97 G d mc ms Qr Qx a b r (nI q) (nI (ow_cn (fun i => ow_has (P i).1 (P i).2 (lN (jc q))) i)) it M c sl := by
    intro q hq h1 h2 h3 c sl hc hs h4
    refine ow_loop k ?_ ?_
    · intro M it F hi hI
      have hz := F.at hf0 id hZ
      have hcn := ow_cn_le (fun i => ow_has (P i).1 (P i).2 (lN (jc q))) k
      have hLM := hL.nw hf0 F id id
      refine rL_reason_97 hc hs ⟨by obtain ⟨lr, h⟩ := hI; exact ⟨_, h⟩, c_hasNext hLM hI (Nat.le_refl _) (by omega) ?_⟩
      rw [if_pos rfl]
      refine ⟨_, rfl, ow_y rfl ⟨_, _, hz, hw8, ?_⟩⟩
      by_cases hw : wo ≤ ow_lw_ k P (lN (jc q))
      · exact ow_y (nI_le hw (by omega)) (by rw [nI_1]; exact h4 hw M F)
      · refine ow_n (nI_ge (Nat.lt_of_not_le hw) (by omega)) ?_
        have Q := Q M F
        unfold ow_rs at Q
        rw [h1, h2, hwn, ow_ex_iff.mpr ⟨q, hq, by simp only [Bool.and_eq_true, decide_eq_true_eq]; exact ⟨h3, Nat.lt_of_not_le hw⟩⟩] at Q
        exact Q
    · intro i hi ih M it F hi0 hI
      have hLM := hL.nw hf0 F id id
      refine rL_reason_97 hc hs ⟨by obtain ⟨lr, h⟩ := hI; exact ⟨_, h⟩, c_hasNext hLM hI (by omega) (by omega) ?_⟩
      rw [if_neg (by omega)]
      refine ⟨_, rfl, ow_n (by decide) ⟨by obtain ⟨lr, h⟩ := hI; exact ⟨_, h⟩, c_itNext hLM hI hi (by omega) fun M1 g1 g2 g3 => ⟨_, rfl, ?_⟩⟩⟩
      have F1 := F.it hi0 g1 g2
      have hln1 := (hx i hi).1.nf hf0 F1
      have htmi := hln1.tm (lN (jc q)) (hx i hi).2
      refine ⟨hln1.ob, c_many hln1 hq ⟨_, rfl, ?_⟩⟩
      have ih := ih M1 it F1 hi0 g3
      by_cases hc0 : 0 < ow_tm (P i).1.2.2.1 (lN (jc q)) (P i).2.1 (P i).2.2.1
      · refine ow_n (nI_nle hc0 (by omega)) ?_
        rw [nI_1]
        rw [ow_cn_t (show ow_has (P i).1 (P i).2 (lN (jc q)) = true from decide_eq_true hc0)] at ih
        exact ih
      · refine ow_y (nI_le (b := 0) (by omega) (by decide)) ?_
        rw [ow_cn_f (show ow_has (P i).1 (P i).2 (lN (jc q)) = false from decide_eq_false hc0)] at ih
        rw [show ∀ z, nI z + 0 = nI z from fun z => nI_add z 0]
        exact ih
  have k70 : ow_hl k P s l = false → ow_stf s l st = false → ∀ q, q ≤ 4 → ∀ (M : kz_M) (c sl : Nat), ow_Nw jF M0 M → c ≤ 1 + q → sl ≤ 4 + 4 * q → (∀ p, p < q → 0 < ow_tm s.2.2.1 (lN (jc p)) l.1 l.2.1 → wo ≤ ow_lw_ k P (lN (jc p))) → zL_reason_70 G d mc ms Qr Qx a b r (nI q) M c sl := by
    intro h1 h2
    refine ow_loop 4 ?_ ?_
    · intro M c sl F hc hs hp
      refine rL_reason_70 (by omega) (by omega) (ow_y (nI_le (Nat.le_refl 4) (by decide)) ?_)
      have Q := Q M F
      unfold ow_rs at Q
      rw [h1, h2, hwn, ow_ex_f.mpr fun q hq => by
        by_cases h0 : 0 < ow_tm s.2.2.1 (lN (jc q)) l.1 l.2.1
        · have := hp q hq h0
          simp only [Bool.and_eq_false_iff, decide_eq_false_iff_not]
          right; omega
        · simp [h0]] at Q
      exact Q
    · intro q hq ih M c sl F hc hs hp
      refine rL_reason_70 (by omega) (by omega) (ow_n (nI_ge (b := 4) hq (by decide)) (c_many (hl.nf hf0 F) hq ⟨_, rfl, ?_⟩))
      have ht := htm q
      by_cases h0 : 0 < ow_tm s.2.2.1 (lN (jc q)) l.1 l.2.1
      · have hLM := hL.nw hf0 F id id
        have hlo : ∃ fs, M.1 r = some (.inl (16, fs)) := by
          obtain ⟨m, v', h, -⟩ := hLM.ob
          exact ⟨_, h⟩
        refine ow_yn (nI_ne0 h0 (by omega)) ⟨hlo, 1, 4, by omega, by omega, c_iter hLM (Nat.le_refl _) (Nat.le_refl _) fun M1 g1 g2 g3 => ⟨_, rfl, ?_⟩⟩
        refine k97 q hq h1 h2 h0 _ _ (by omega) (by omega) (fun hw M2 F2 => ih M2 _ _ F2 (by omega) (by omega) fun p hpq hp0 => ?_) 0 (Nat.zero_le _) M1 M.2 (F.trans g1) F.2 g3
        rcases Nat.lt_or_ge p q with g | g
        · exact hp p g hp0
        · rw [show p = q by omega]; exact hw
      · refine ow_nn (show nI _ = nI 0 from congrArg nI (by omega)) ?_
        rw [nI_1]
        refine ih M c sl F (by omega) (by omega) fun p hpq hp0 => ?_
        rcases Nat.lt_or_ge p q with g | g
        · exact hp p g hp0
        · rw [show p = q by omega] at hp0; exact absurd hp0 h0
  have k43 : ow_hl k P s l = false → ∀ q, q ≤ 4 → ∀ (M : kz_M) (c sl : Nat), ow_Nw jF M0 M → c ≤ 1 → sl ≤ 4 → (∀ p, p < q → ow_tm s.2.2.1 (lN (jc p)) l.1 l.2.1 < st) → zL_reason_43 G d mc ms Qr Qx a b r (nI q) M c sl := by
    intro h1
    refine ow_loop 4 ?_ ?_
    · intro M c sl F hc hs hp
      refine rL_reason_43 (by omega) (by omega) (ow_y (nI_le (Nat.le_refl 4) (by decide)) ?_)
      exact k70 h1 (by rw [hstf]; exact ow_ex_f.mpr fun q hq => decide_eq_false (by have := hp q hq; omega)) 0 (by omega) M c sl F (by omega) (by omega) fun p hp => absurd hp (Nat.not_lt_zero p)
    · intro q hq ih M c sl F hc hs hp
      refine rL_reason_43 (by omega) (by omega) (ow_n (nI_ge (b := 4) hq (by decide)) (c_many (hl.nf hf0 F) hq ⟨_, rfl, _, _, F.at hf0 id hZ, hs7, ?_⟩))
      have ht := htm q
      by_cases h0 : ow_tm s.2.2.1 (lN (jc q)) l.1 l.2.1 < st
      · refine ow_y (nI_lt h0 (by omega)) ?_
        rw [nI_1]
        refine ih M c sl F hc hs fun p hpq => ?_
        rcases Nat.lt_or_ge p q with g | g
        · exact hp p g
        · rw [show p = q by omega]; exact h0
      · refine ow_n (nI_nlt (Nat.le_of_not_lt h0) (by omega)) ?_
        have Q := Q M F
        unfold ow_rs at Q
        rw [h1, hstf, ow_ex_iff.mpr ⟨q, hq, decide_eq_true (Nat.le_of_not_lt h0)⟩] at Q
        exact Q
  have k7 : ∀ i, i ≤ k → ∀ (M : kz_M) (it : Nat), ow_Nw jF M0 M → M0.2 ≤ it → jI_ M it r i k → (∀ j, j < i → ow_lk (P j).1 (P j).2 s l = false) → zL_reason_7 G d mc ms Qr Qx a b r it M 1 4 := by
    refine ow_loop k ?_ ?_
    · intro M it F hi hI hp
      have hLM := hL.nw hf0 F id id
      refine rL_reason_7 (by omega) (by omega) ⟨by obtain ⟨lr, h⟩ := hI; exact ⟨_, h⟩, c_hasNext hLM hI (Nat.le_refl _) (by omega) ?_⟩
      rw [if_pos rfl]
      exact ⟨_, rfl, ow_y rfl (k43 (ow_ex_f.mpr hp) 0 (by omega) M 1 4 F (Nat.le_refl _) (Nat.le_refl _) fun p hp => absurd hp (Nat.not_lt_zero p))⟩
    · intro i hi ih M it F hi0 hI hp
      have hLM := hL.nw hf0 F id id
      refine rL_reason_7 (by omega) (by omega) ⟨by obtain ⟨lr, h⟩ := hI; exact ⟨_, h⟩, c_hasNext hLM hI (by omega) (by omega) ?_⟩
      rw [if_neg (by omega)]
      refine ⟨_, rfl, ow_n (by decide) ⟨by obtain ⟨lr, h⟩ := hI; exact ⟨_, h⟩, c_itNext hLM hI hi (by omega) fun M1 g1 g2 g3 => ⟨_, rfl, ?_⟩⟩⟩
      have F1 := F.it hi0 g1 g2
      have hln1 := (hx i hi).1.nf hf0 F1
      refine ⟨hln1.ob, c_areAlike hln1 (hl.nf hf0 F1) ⟨(hx i hi).2, hln⟩ ⟨_, rfl, ow_if0 (fun h => ?_) (fun h => ?_)⟩⟩
      · refine ih M1 it F1 hi0 g3 fun j hj => ?_
        rcases Nat.lt_or_ge j i with g | g
        · exact hp j g
        · rw [show j = i by omega]; exact h
      · have Q := Q M1 F1
        unfold ow_rs at Q
        rw [show ow_hl k P s l = true from ow_ex_iff.mpr ⟨i, hi, h⟩] at Q
        exact Q
  have hlo : ∃ fs, M0.1 r = some (.inl (16, fs)) := by
    obtain ⟨m, v', h, -⟩ := hL.ob
    exact ⟨_, h⟩
  exact rL_reason_0 ⟨hlo, 1, 4, by omega, by omega, c_iter hL (Nat.le_refl _) (Nat.le_refl _) fun M1 g1 g2 g3 => ⟨_, rfl, k7 0 (Nat.zero_le _) M1 M0.2 g1 (Nat.le_refl _) g3 fun j hj => absurd hj (Nat.not_lt_zero j)⟩⟩
end JRE
