/-! Part 72: a line of the law's is filled -/
/-- the law's words, -1 for a slash: a script's -/
def jWd (f : Nat → Int32) (s : ow_S) (tot : Nat) (sc q : Nat → Nat) : Prop := sc 0 = 0 ∧ (∀ j, j + 1 < s.2.1 → sc (j + 1) = sc j ∨ (sc (j + 1) = sc j + 1 ∧ f (j + 1 + sc j) = -1)) ∧ (∀ j, j < s.2.1 → f (j + sc j) = nI (q j) ∧ q j < 4 ∧ s.2.2.1 j = lN (jc (q j)) ∧ s.2.2.2 j = nI (sc j) ∧ sc j ≤ j) ∧ tot = s.2.1 + sc (s.2.1 - 1) ∧ 1 ≤ s.2.1 ∧ s.2.1 ≤ 16
/-- where a word stands -/
def jps (s : ow_S) (tot : Nat) (sc : Nat → Nat) (k : Nat) : Nat := if k < s.2.1 then k + sc k else tot
theorem jWd.tot {f : Nat → Int32} {s : ow_S} {tot : Nat} {sc q : Nat → Nat} (h : jWd f s tot sc q) : tot ≤ 31 := by
  obtain ⟨h1, h2, h3, h4, h5, h6⟩ := h
  have := (h3 (s.2.1 - 1) (by omega)).2.2.2.2
  omega
theorem jwd_1 {w : Nat → Int64} {a q : Nat} (e : w a = lN (jc q)) (hq : q < 4) : ow_wd w a (a + 1) = jlt q := by
  unfold ow_wd
  rw [ow_lt, ow_lt_0 w a a (Nat.le_refl _), if_pos (Nat.le_refl _), e, jc_lw q hq]
  omega
theorem jwd_s {w : Nat → Int64} {a k q : Nat} (e : w k = lN (jc q)) (hq : q < 4) (h : a < k) : ow_wd w a (k + 1) = ow_wd w a k + (jlt q + 1) := by
  unfold ow_wd
  rw [ow_lt, if_pos (by omega), e, jc_lw q hq]
  omega
section JFI
variable {G : kz_G} {d mc ms : Nat} {Qr : Option Value → kz_M → Prop} {Qx : String → kz_M → Prop} {M0 : kz_M}
/-- the line that begins with word a, filled up to word k -/
def jSt (M0 M : kz_M) (x7 aw a k : Nat) (q : Nat → Nat) (w : Nat → Int64) : Prop := ow_Nw jF M0 M ∧ M.2 = M0.2 + 2 ∧ ∃ f, jPl M x7 aw f (k - a) (ow_wd w a k) ∧ f 100000 = 1 ∧ ∀ j, j < k - a → f j = nI (q (a + j))
theorem c_fill {kd v me tot x5 x3 x7 aw a : Nat} {s : ow_S} {f3 : Nat → Int32} {sc q : Nat → Nat} {fs : List Value} (hf0 : ow_fr M0) (hZ : M0.1 99 = some (.inl (13, fs))) (hme : fs[6]? = some (.int (nI me))) (hm : me < 1000) (hkd : kd = s.1) (hk2 : s.1 ≤ 2) (h3 : M0.1 x3 = some (.inr (.int, 40, .inl f3))) (hW : jWd f3 s tot sc q) (h7 : M0.2 ≤ x7) (hw : M0.2 ≤ aw) (ha : a < s.2.1) {c sl : Nat} (hc : c ≤ mc) (hs : sl ≤ ms) (Q : ∀ M, jSt M0 M x7 aw a (ow_le s me a) q s.2.2.1 → zL_handsIn_128 G d mc ms Qr Qx 99 (nI v) (nI kd) x3 (nI tot) x5 (nI (jps s tot sc (ow_le s me a))) x7 M c sl) : ∀ M, jSt M0 M x7 aw a (a + 1) q s.2.2.1 → zL_handsIn_55 G d mc ms Qr Qx 99 (nI v) (nI kd) x3 (nI tot) x5 (nI (a + 1 + sc a)) x7 M c sl := by
  have htot := hW.tot
  obtain ⟨w1, w2, w3, w4, w5, w6⟩ := hW
  -- the end of a line
  have k111 : ∀ b, a < b → b ≤ s.2.1 → b = ow_le s me a → ∀ M, jSt M0 M x7 aw a b q s.2.2.1 → zL_handsIn_111 G d mc ms Qr Qx 99 (nI v) (nI kd) x3 (nI tot) x5 (nI (b + sc (b - 1))) x7 M c sl := by
    intro b hab hb hbe M hS
    have q3 := hS.1.at hf0 id h3
    have Q := Q M (by rw [← hbe]; exact hS)
    rw [← hbe] at Q
    unfold jps at Q
    rcases Nat.lt_or_ge b s.2.1 with hlt | hge
    · rw [if_pos hlt] at Q
      have hb1 := w3 b hlt
      have hb0 := w3 (b - 1) (by omega)
      have hst := w2 (b - 1) (by omega)
      rw [show b - 1 + 1 = b by omega] at hst
      have htb : b + sc b < 40 := by omega
      have hlt2 : b + sc (b - 1) < tot := by
        have hmono : ∀ i, b ≤ i → i < s.2.1 → sc b ≤ sc i := by
          intro i hi
          induction i with
          | zero => intro _; rw [show b = 0 by omega]; exact Nat.le_refl _
          | succ i ih =>
            intro hi2
            rcases Nat.lt_or_ge i b with g | g
            · rw [show b = i + 1 by omega]; exact Nat.le_refl _
            · have := ih g (by omega)
              rcases w2 i hi2 with h | h <;> omega
        have := hmono (s.2.1 - 1) (by omega) (by omega)
        rcases hst with h | h <;> omega
      refine rL_handsIn_111 hc hs (ow_n (nI_ge hlt2 (by omega)) ⟨_, _, q3, vp_in_nI (by omega) (by decide), ?_⟩)
      rw [nI_clamp (by omega)]
      rcases hst with h | ⟨h, h'⟩
      · rw [← h, hb1.1]
        exact ow_y (nI_pos' (by omega)) Q
      · rw [show b + sc (b - 1) = b - 1 + 1 + sc (b - 1) by omega, show b - 1 + 1 = b by omega, h']
        refine ow_n (by decide) ?_
        rw [nI_1]
        rw [h] at Q
        exact Q
    · rw [if_neg (by omega)] at Q
      have hbe2 : b = s.2.1 := by omega
      rw [hbe2, ← w4]
      exact rL_handsIn_111 hc hs (ow_y (nI_le (Nat.le_refl _) (by omega)) Q)
  by_cases hk : s.1 = 2
  · intro M hS
    refine rL_handsIn_55 hc hs (ow_y (by rw [hkd, hk]; rfl) ?_)
    exact k111 (a + 1) (by omega) (by omega) (by unfold ow_le; rw [if_pos hk]) M hS
  · have hle : ow_le s me a = ow_leF s me s.2.1 (a + 1) (ow_lw (s.2.2.1 a)) := if_neg hk
    have ea := w3 a ha
    have key : ∀ fu k width, s.2.1 ≤ k + fu → a < k → k ≤ s.2.1 → width = ow_wd s.2.2.1 a k → ow_le s me a = ow_leF s me fu k width → ∀ M, jSt M0 M x7 aw a k q s.2.2.1 → zL_handsIn_55 G d mc ms Qr Qx 99 (nI v) (nI kd) x3 (nI tot) x5 (nI (k + sc (k - 1))) x7 M c sl := by
      intro fu
      induction fu with
      | zero =>
        intro k width h1 h2 h3' hwd hE M hS
        have hk9 : k = s.2.1 := by omega
        refine rL_handsIn_55 hc hs (ow_n (by rw [hkd]; exact fun z => hk ((nI_eq (b := 2) (by omega) (by decide)).mp z)) (ow_y (nI_le (by rw [hk9, w4]; exact Nat.le_refl _) (by rw [hk9]; omega)) ?_))
        exact k111 k h2 h3' (by rw [hE]; rfl) M hS
      | succ fu ih =>
        intro k width h1 h2 h3' hwd hE M hS
        have q3 := hS.1.at hf0 id h3
        have qz := hS.1.at hf0 id hZ
        obtain ⟨hF, hM2, f, hP, hf1, hfj⟩ := hS
        have hS : jSt M0 M x7 aw a k q s.2.2.1 := ⟨hF, hM2, f, hP, hf1, hfj⟩
        rcases Nat.lt_or_ge k s.2.1 with hlt | hge
        · have hkk := w3 k hlt
          have hst := w2 (k - 1) (by omega)
          rw [show k - 1 + 1 = k by omega] at hst
          have hk0 := w3 (k - 1) (by omega)
          have hlt2 : k + sc (k - 1) < tot := by
            have hmono : ∀ i, k ≤ i → i < s.2.1 → sc k ≤ sc i := by
              intro i hi
              induction i with
              | zero => intro _; rw [show k = 0 by omega]; exact Nat.le_refl _
              | succ i ih =>
                intro hi2
                rcases Nat.lt_or_ge i k with g | g
                · rw [show k = i + 1 by omega]; exact Nat.le_refl _
                · have := ih g (by omega)
                  rcases w2 i hi2 with h | h <;> omega
            have := hmono (s.2.1 - 1) (by omega) (by omega)
            rcases hst with h | h <;> omega
          have hjl := jlt_b (q k) hkk.2.1
          have hwle : ow_wd s.2.2.1 a k ≤ 13 * 16 := by
            have := ow_lt_le s.2.2.1 a k
            unfold ow_wd; omega
          refine rL_handsIn_55 hc hs (ow_n (by rw [hkd]; exact fun z => hk ((nI_eq (b := 2) (by omega) (by decide)).mp z)) (ow_n (nI_ge hlt2 (by omega)) ⟨_, _, q3, vp_in_nI (by omega) (by decide), ?_⟩))
          rw [nI_clamp (by omega)]
          rcases hst with h | ⟨h, h'⟩
          · have e3 : f3 (k + sc (k - 1)) = nI (q k) := by rw [← h]; exact hkk.1
            rw [e3]
            refine ow_n (nI_pos (by omega)) ⟨_, _, hP.1, rfl, _, _, q3, vp_in_nI (by omega) (by decide), ?_⟩
            rw [e3]
            refine c_letters hkk.2.1 ⟨_, rfl, _, _, qz, hme, ?_⟩
            rw [nI_1, nI_add]
            by_cases hgo : ow_wd s.2.2.1 a k + 1 + jlt (q k) ≤ me
            · refine ow_n (nI_nlt hgo (by omega)) ⟨_, _, q3, vp_in_nI (by omega) (by decide), ?_⟩
              rw [e3]
              have hgo2 : ow_go s me k width = true := by
                unfold ow_go
                rw [hwd, hkk.2.2.1, jc_lw _ hkk.2.1, hkk.2.2.2.1, hk0.2.2.2.1, h]
                simp [hlt, hgo]
              rw [ow_leF, if_pos hgo2] at hE
              refine c_takes rfl hP hkk.2.1 (by omega) fun M1 g1 g2 g3 => ⟨rfl, ?_⟩
              rw [nI_1, show k + sc (k - 1) + 1 = k + 1 + sc (k + 1 - 1) by rw [show k + 1 - 1 = k by omega, h]; omega]
              have hw9 := jwd_s (a := a) hkk.2.2.1 hkk.2.1 h2
              refine ih (k + 1) _ (by omega) (by omega) (by omega) ?_ hE M1 ⟨⟨fun u hu _ => (g1 u (by omega) (by omega)).trans (hF.1 u hu id), by omega⟩, by omega, upd f (k - a) (nI (q k)), ?_, ?_, fun j hj => ?_⟩
              · rw [hw9, hwd, hkk.2.2.1, jc_lw _ hkk.2.1]; omega
              · rw [hw9]
                rw [if_pos (by omega)] at g3
                rw [show k + 1 - a = k - a + 1 by omega]
                exact g3
              · unfold upd; rw [if_neg (by omega)]; exact hf1
              · unfold upd
                by_cases hj2 : j = k - a
                · rw [if_pos hj2, hj2, show a + (k - a) = k by omega]
                · rw [if_neg hj2]; exact hfj j (by omega)
            · refine ow_y (nI_lt (by omega) (by omega)) ?_
              have hgo2 : ow_go s me k width = false := by
                unfold ow_go
                rw [hwd, hkk.2.2.1, jc_lw _ hkk.2.1]
                simp [hgo]
              rw [ow_leF, hgo2] at hE
              exact k111 k h2 h3' hE.symm M hS
          · rw [h']
            refine ow_y (by decide) ?_
            have hgo2 : ow_go s me k width = false := by
              unfold ow_go
              rw [hkk.2.2.2.1, hk0.2.2.2.1, h]
              have : ¬ nI (sc (k - 1) + 1) = nI (sc (k - 1)) := fun z => by
                have := (nI_eq (by omega) (by omega)).mp z
                omega
              simp [this]
            rw [ow_leF, hgo2] at hE
            exact k111 k h2 h3' hE.symm M hS
        · have hk9 : k = s.2.1 := by omega
          have hgo2 : ow_go s me k width = false := by
            unfold ow_go
            rw [decide_eq_false (by omega)]
            rfl
          rw [ow_leF, hgo2] at hE
          refine rL_handsIn_55 hc hs (ow_n (by rw [hkd]; exact fun z => hk ((nI_eq (b := 2) (by omega) (by decide)).mp z)) (ow_y (nI_le (by rw [hk9, w4]; exact Nat.le_refl _) (by rw [hk9]; omega)) ?_))
          exact k111 k h2 h3' hE.symm M hS
    intro M hS
    have := key s.2.1 (a + 1) (ow_lw (s.2.2.1 a)) (by omega) (by omega) (by omega) (by rw [jwd_1 ea.2.2.1 ea.2.1, ea.2.2.1, jc_lw _ ea.2.1]) hle M hS
    rw [show a + 1 - 1 = a by omega] at this
    exact this
end JFI
