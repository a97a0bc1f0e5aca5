/-! Part 70: LineOfficeLaw.past -/
section JPB
variable {G : kz_G} {d mc ms : Nat} {Qr : Option Value → kz_M → Prop} {Qx : String → kz_M → Prop} {M0 : kz_M}
/-- the list that is being filled, behind the heap of before -/
def jFl (M0 M : kz_M) (e cap : Nat) (x : Nat → Nat) (z : Nat × ow_P) : Prop := ow_Nw jF M0 M ∧ jL M M0.2 e z.1 cap x ∧ M0.2 ≤ e ∧ M0.2 < M.2 ∧ (z.1 = 0 ∧ cap = 0 ∨ 10 ≤ cap) ∧ ∀ i, i < z.1 → jLn M0 (x i) (z.2 i).1 (z.2 i).2
/-- an iterator of now over a list of before -/
def jIt (M0 M : kz_M) (it a e n cap : Nat) (x : Nat → Nat) (k : Nat) : Prop := M0.2 < it ∧ jI_ M it a k n ∧ jL M0 a e n cap x
theorem jIt.list {M M0 : kz_M} {it a e n cap k : Nat} {x : Nat → Nat} (h : jIt M0 M it a e n cap x k) (hf : ow_fr M0) (g : ow_Nw jF M0 M) : jL M a e n cap x := h.2.2.nw hf g id id
theorem jFl.it {M0 M M1 : kz_M} {it e cap : Nat} {x : Nat → Nat} {z : Nat × ow_P} (h : jFl M0 M e cap x z) (hI : ∃ fs, M.1 it = some (.inl (17, fs))) (hi : M0.2 < it) (g : ∀ j, j ≠ it → M1.1 j = M.1 j) (g2 : M1.2 = M.2) : jFl M0 M1 e cap x z := by
  obtain ⟨h1, h2, h3, h4, h5, h6⟩ := h
  obtain ⟨fs, hI⟩ := hI
  have e1 : it ≠ M0.2 := by omega
  have e2 : it ≠ e := fun z => by
    rcases h2 with ⟨-, z1, -, h⟩ | ⟨-, -, h, -⟩
    · omega
    · rw [← z, hI] at h; cases h
  refine ⟨⟨fun k hk hp => (g k (by omega)).trans (h1.1 k hk hp), by rw [g2]; exact h1.2⟩, h2.mv (g _ e1.symm) (g _ e2.symm), h3, by omega, h5, h6⟩
theorem jIt.other {M0 M M1 : kz_M} {it i2 a e n cap k : Nat} {x : Nat → Nat} (h : jIt M0 M it a e n cap x k) (hne : it ≠ i2) (g : ∀ j, j ≠ i2 → M1.1 j = M.1 j) : jIt M0 M1 it a e n cap x k := by
  obtain ⟨h1, ⟨lr, h2⟩, h3⟩ := h
  exact ⟨h1, ⟨lr, (g it hne).trans h2⟩, h3⟩
theorem jIt.ob {M0 M : kz_M} {it a e n cap k : Nat} {x : Nat → Nat} (h : jIt M0 M it a e n cap x k) : ∃ fs, M.1 it = some (.inl (17, fs)) := by
  obtain ⟨h1, ⟨lr, h2⟩, h3⟩ := h
  exact ⟨_, h2⟩
theorem jFl.ob {M0 M : kz_M} {e cap : Nat} {x : Nat → Nat} {z : Nat × ow_P} (h : jFl M0 M e cap x z) : ∃ fs, M.1 M0.2 = some (.inl (16, fs)) := by
  obtain ⟨m, v, h1, -⟩ := h.2.1.ob
  exact ⟨_, h1⟩
/-- a step of a list of now leaves an iterator as it is -/
theorem jIt.add {M0 M M1 : kz_M} {it a e n cap k e2 c2 : Nat} {x x2 : Nat → Nat} {z : Nat × ow_P} (h : jIt M0 M it a e n cap x k) (hf : ow_fr M) (hz : jFl M0 M e2 c2 x2 z) (g : ∀ u, u < M.2 → u ≠ M0.2 → u ≠ e2 → M1.1 u = M.1 u) : jIt M0 M1 it a e n cap x k := by
  obtain ⟨h1, ⟨lr, h2⟩, h3⟩ := h
  refine ⟨h1, ⟨lr, (g it (hf _ _ h2) (by omega) fun w => ?_).trans h2⟩, h3⟩
  rcases hz.2.1 with ⟨-, z1, -, h⟩ | ⟨-, -, h, -⟩
  · omega
  · rw [← w, h2] at h; cases h
theorem jFl.it0 {M0 M M1 : kz_M} {e cap : Nat} {x : Nat → Nat} {z : Nat × ow_P} (h : jFl M0 M e cap x z) (hf : ow_fr M) (g1 : ow_Nw jF M M1) : jFl M0 M1 e cap x z := by
  obtain ⟨h1, h2, h3, h4, h5, h6⟩ := h
  exact ⟨h1.trans g1, h2.nw hf g1 id id, h3, Nat.lt_of_lt_of_le h4 g1.2, h5, h6⟩
theorem jIt.it0 {M0 M M1 : kz_M} {it a e n cap k : Nat} {x : Nat → Nat} (h : jIt M0 M it a e n cap x k) (hf : ow_fr M) (g1 : ow_Nw jF M M1) : jIt M0 M1 it a e n cap x k := by
  obtain ⟨h1, ⟨lr, h2⟩, h3⟩ := h
  exact ⟨h1, ⟨lr, g1.at hf id h2⟩, h3⟩
theorem c_past {e0 capW v nb eb capb b : Nat} {xW yb : Nat → Nat} {O : ow_O} {w : ow_W} (hG2 : kz_stat2 G) {rest : List Value} (hZ : M0.1 99 = some (.inl (13, .ref 100 :: rest))) (hL : jL M0 100 e0 (o_wk O) capW xW) (hW : ∀ i, i < o_wk O → ∃ al e cap y, jWk M0 (xW i) al e cap y (o_ws O i)) (hO : ow_Ok1 O) (hv : v < 2 ^ 20) (hB : jL M0 b eb nb capb yb) (hb : ∀ i, i < nb → jLn M0 (yb i) w.2.2.1 (w.2.2.2.2 i)) (hbc : ∀ i, i < nb → (ow_cts (w.2.2.2.2 i) = decide ((w.2.2.2.2 i).2.2.2.2.1 = 0)) ∧ (w.2.2.2.2 i).2.2.2.2.1 ≤ 3) (hm : ∀ i, i < o_wk O → (o_ws O i).2.2.2.1 ≤ 16) (hnb : nb ≤ 16) (hmc : 400 ≤ mc) (hms : 1600 ≤ ms) (Q : ∀ M1 er cr x, jFl M0 M1 er cr x (ow_cl w (ow_co O v (o_wk O)) nb) → Qr (some (.ref M0.2)) M1) : kz_C G (d + 7) mc ms mL_past [.ref 99, .int (nI v), .ref b] M0 Qr Qx := by
  refine kz_Cfr fun hf0 => ?_
  have h12 := hO.1.2.2.2.1
  have hco : ∀ i, i ≤ o_wk O → (ow_co O v i).1 ≤ 16 * i := by
    intro i
    induction i with
    | zero => intro _; exact Nat.zero_le _
    | succ i ih =>
      intro hi
      have := ih (by omega)
      have h2 := ow_cl_le (o_ws O i) (ow_co O v i) (o_ws O i).2.2.2.1
      have h3 := hm i (by omega)
      unfold ow_co
      split <;> omega
  have hcb : ∀ {M : kz_M} {e cap : Nat} {x : Nat → Nat} {z : Nat × ow_P}, jFl M0 M e cap x z → 2 * cap ≤ 3 * z.1 + 20 ∧ z.1 ≤ cap := fun h => by
    rcases h.2.1 with ⟨z1, -, z2, -⟩ | ⟨-, -, -, h1, -, h2⟩ <;> omega
  have hcto : ow_co O v (o_wk O) = ow_co O v (o_wk O) := rfl
  -- the lines of the work's own
  have k120 : ∀ i, i ≤ nb → ∀ (M : kz_M) (it e cap : Nat) (x : Nat → Nat) (c sl : Nat), jFl M0 M e cap x (ow_cl w (ow_co O v (o_wk O)) i) → jIt M0 M it b eb nb capb yb i → c ≤ 40 + cap → sl ≤ 100 + 4 * cap → zL_past_120 G d mc ms Qr Qx M0.2 it M c sl := by
    refine ow_loop nb ?_ ?_
    · intro M it e cap x c sl hF hI hc hs
      have hcz := hco _ (Nat.le_refl _)
      have hz := ow_cl_le w (ow_co O v (o_wk O)) nb
      have hcc := hcb hF
      refine rL_past_120 (by omega) (by omega) ⟨hI.ob, c_hasNext (hI.list hf0 hF.1) hI.2.1 (Nat.le_refl _) (by omega) ?_⟩
      rw [if_pos rfl]
      exact ⟨_, rfl, ow_y rfl (Q M e cap x hF)⟩
    · intro i hi ih M it e cap x c sl hF hI hc hs
      have hcz := hco _ (Nat.le_refl _)
      have hz := ow_cl_le w (ow_co O v (o_wk O)) i
      have hcc := hcb hF
      refine rL_past_120 (by omega) (by omega) ⟨hI.ob, c_hasNext (hI.list hf0 hF.1) hI.2.1 (by omega) (by omega) ?_⟩
      rw [if_neg (by omega)]
      refine ⟨_, rfl, ow_n (by decide) ⟨hI.ob, c_itNext (hI.list hf0 hF.1) hI.2.1 hi (by omega) fun M1 g1 g2 g3 => ⟨_, rfl, ?_⟩⟩⟩
      have hF1 := hF.it hI.ob hI.1 g1 g2
      have hI1 : jIt M0 M1 it b eb nb capb yb (i + 1) := ⟨hI.1, g3, hI.2.2⟩
      obtain ⟨aw, f, q1, q2, q3⟩ := (hb i hi).nf hf0 hF1.1
      refine ⟨⟨_, q1⟩, _, _, q1, rfl, ?_⟩
      obtain ⟨hcts, hr3⟩ := hbc i hi
      by_cases hr : (w.2.2.2.2 i).2.2.2.2.1 = 0
      · have hct : ow_cts (w.2.2.2.2 i) = true := by rw [hcts]; exact decide_eq_true hr
        have hE : ow_cl w (ow_co O v (o_wk O)) (i + 1) = ((ow_cl w (ow_co O v (o_wk O)) i).1 + 1, ow_pa (ow_cl w (ow_co O v (o_wk O)) i).1 (ow_cl w (ow_co O v (o_wk O)) i).2 w.2.2.1 (w.2.2.2.2 i)) := by
          show (_ + (if ow_cts (w.2.2.2.2 i) then 1 else 0), if ow_cts (w.2.2.2.2 i) then _ else _) = _
          rw [hct]; rfl
        rw [hr]
        refine ow_nn rfl ⟨hF1.ob, (if cap ≤ (ow_cl w (ow_co O v (o_wk O)) i).1 then 1 else 0), (if cap ≤ (ow_cl w (ow_co O v (o_wk O)) i).1 then jgr (ow_cl w (ow_co O v (o_wk O)) i).1 else 0), ?_, ?_, ?_⟩
        · split <;> omega
        · unfold jgr; split <;> (try split) <;> omega
        · refine kz_Cfr fun hf1 => ?_
          refine c_addLn hG2 hf0 hF1.1 (Nat.le_refl _) hF1.2.2.1 hF1.2.1 hF1.2.2.2.2.2 (hb i hi) (by omega) (fun g => by rw [if_pos g]; exact Nat.le_refl _) (fun g => by rw [if_pos g]; exact Nat.le_refl _) fun M2 e' cap' u1 u2 u3 u4 u5 u6 u7 => ⟨_, rfl, ?_⟩
          have u8 : 10 ≤ cap' ∧ cap ≤ cap' ∧ (cap ≤ (ow_cl w (ow_co O v (o_wk O)) i).1 → cap' = jgr (ow_cl w (ow_co O v (o_wk O)) i).1 ∧ cap < cap') := by
            have := hF1.2.2.2.2.1
            rw [u7]
            unfold jgr
            refine ⟨?_, ?_, fun h => ⟨?_, ?_⟩⟩ <;> split <;> (try split) <;> omega
          refine ih M2 it e' cap' (ja x (ow_cl w (ow_co O v (o_wk O)) i).1 (yb i)) _ _ ?_ (hI1.add hf1 hF1 u2) ?_ ?_
          · rw [hE]
            exact ⟨u1, u4, u5, by have := hF1.2.2.2.1; omega, Or.inr u8.1, u6⟩
          · split <;> omega
          · split
            · rename_i hg
              have := jgr_4 (c := sl) (c0 := 100) hs hg hcc.2 (by have := hF1.2.2.2.2.1; omega)
              rw [(u8.2.2 hg).1]; exact this
            · omega
      · have hct : ow_cts (w.2.2.2.2 i) = false := by rw [hcts]; exact decide_eq_false hr
        have hE : ow_cl w (ow_co O v (o_wk O)) (i + 1) = ow_cl w (ow_co O v (o_wk O)) i := by
          show (_ + (if ow_cts (w.2.2.2.2 i) then 1 else 0), if ow_cts (w.2.2.2.2 i) then _ else _) = _
          rw [hct]; rfl
        refine ow_yn (nI_ne0 (by omega) (by omega)) ?_
        exact ih M1 it e cap x c sl (by rw [hE]; exact hF1) hI1 hc hs
  -- the lines of a work
  have k65 : ∀ i, i < o_wk O → (o_ws O i).1 = v → (∀ (M : kz_M) (it e cap : Nat) (x : Nat → Nat) (c sl : Nat), jFl M0 M e cap x (ow_co O v (i + 1)) → jIt M0 M it 100 e0 (o_wk O) capW xW (i + 1) → c ≤ 2 + (i + 1) + cap → sl ≤ 7 + 4 * (i + 1) + 4 * cap → zL_past_19 G d mc ms Qr Qx (nI v) b M0.2 it M c sl) → ∀ al ew capw y, jWk M0 (xW i) al ew capw y (o_ws O i) → ∀ j, j ≤ (o_ws O i).2.2.2.1 → ∀ (M : kz_M) (it i2 e cap : Nat) (x : Nat → Nat) (c sl : Nat), jFl M0 M e cap x (ow_cl (o_ws O i) (ow_co O v i) j) → jIt M0 M it 100 e0 (o_wk O) capW xW (i + 1) → jIt M0 M i2 al ew (o_ws O i).2.2.2.1 capw y j → it ≠ i2 → c ≤ 2 + (i + 1) + cap → sl ≤ 7 + 4 * (i + 1) + 4 * cap → zL_past_65 G d mc ms Qr Qx (nI v) b M0.2 it i2 M c sl := by
    intro i hi hvi h19 al ew capw y hwk
    have hcz := hco i (by omega)
    have hmi := hm i hi
    have hE0 : ow_co O v (i + 1) = ow_cl (o_ws O i) (ow_co O v i) (o_ws O i).2.2.2.1 := if_pos hvi
    refine ow_loop _ ?_ ?_
    · intro M it i2 e cap x c sl hF hI hJ hne hc hs
      have hz := ow_cl_le (o_ws O i) (ow_co O v i) (o_ws O i).2.2.2.1
      have hcc := hcb hF
      refine rL_past_65 (by omega) (by omega) ⟨hJ.ob, c_hasNext (hJ.list hf0 hF.1) hJ.2.1 (Nat.le_refl _) (by omega) ?_⟩
      rw [if_pos rfl]
      exact ⟨_, rfl, ow_y rfl (h19 M it e cap x c sl (by rw [hE0]; exact hF) hI hc hs)⟩
    · intro j hj ih M it i2 e cap x c sl hF hI hJ hne hc hs
      have hz := ow_cl_le (o_ws O i) (ow_co O v i) j
      have hcc := hcb hF
      refine rL_past_65 (by omega) (by omega) ⟨hJ.ob, c_hasNext (hJ.list hf0 hF.1) hJ.2.1 (by omega) (by omega) ?_⟩
      rw [if_neg (by omega)]
      refine ⟨_, rfl, ow_n (by decide) ⟨hJ.ob, c_itNext (hJ.list hf0 hF.1) hJ.2.1 hj (by omega) fun M1 g1 g2 g3 => ⟨_, rfl, ?_⟩⟩⟩
      have hF1 := hF.it hJ.ob hJ.1 g1 g2
      have hJ1 : jIt M0 M1 i2 al ew (o_ws O i).2.2.2.1 capw y (j + 1) := ⟨hJ.1, g3, hJ.2.2⟩
      have hI1 := hI.other hne g1
      have hln := hwk.2.2 j hj
      obtain ⟨aw, f, q1, q2, q3⟩ := hln.nf hf0 hF1.1
      refine ⟨⟨_, q1⟩, _, _, q1, rfl, ?_⟩
      have hst := ((hO.2.2.2 i hi).2.2.2.2 j hj).2.2.2
      have par : ∀ t, t ≤ 3 → (nI t - nI t / 2 * 2 = 0 ↔ (t = 0 ∨ t = 2)) := by decide
      have hpar := par _ hst
      by_cases hr : ((o_ws O i).2.2.2.2 j).2.2.2.2.2 = 0 ∨ ((o_ws O i).2.2.2.2 j).2.2.2.2.2 = 2
      · have hct : ow_cts ((o_ws O i).2.2.2.2 j) = true := by unfold ow_cts; simpa using hr
        have hE : ow_cl (o_ws O i) (ow_co O v i) (j + 1) = ((ow_cl (o_ws O i) (ow_co O v i) j).1 + 1, ow_pa (ow_cl (o_ws O i) (ow_co O v i) j).1 (ow_cl (o_ws O i) (ow_co O v i) j).2 (o_ws O i).2.2.1 ((o_ws O i).2.2.2.2 j)) := by
          show (_ + (if ow_cts ((o_ws O i).2.2.2.2 j) then 1 else 0), if ow_cts ((o_ws O i).2.2.2.2 j) then _ else _) = _
          rw [hct]; rfl
        refine ow_nn (hpar.mpr hr) ⟨hF1.ob, (if cap ≤ (ow_cl (o_ws O i) (ow_co O v i) j).1 then 1 else 0), (if cap ≤ (ow_cl (o_ws O i) (ow_co O v i) j).1 then jgr (ow_cl (o_ws O i) (ow_co O v i) j).1 else 0), ?_, ?_, ?_⟩
        · split <;> omega
        · unfold jgr; split <;> (try split) <;> omega
        · refine kz_Cfr fun hf1 => ?_
          refine c_addLn hG2 hf0 hF1.1 (Nat.le_refl _) hF1.2.2.1 hF1.2.1 hF1.2.2.2.2.2 hln (by omega) (fun g => by rw [if_pos g]; exact Nat.le_refl _) (fun g => by rw [if_pos g]; exact Nat.le_refl _) fun M2 e' cap' u1 u2 u3 u4 u5 u6 u7 => ⟨_, rfl, ?_⟩
          have u8 : 10 ≤ cap' ∧ cap ≤ cap' ∧ (cap ≤ (ow_cl (o_ws O i) (ow_co O v i) j).1 → cap' = jgr (ow_cl (o_ws O i) (ow_co O v i) j).1 ∧ cap < cap') := by
            have := hF1.2.2.2.2.1
            rw [u7]
            unfold jgr
            refine ⟨?_, ?_, fun h => ⟨?_, ?_⟩⟩ <;> split <;> (try split) <;> omega
          refine ih M2 it i2 e' cap' (ja x (ow_cl (o_ws O i) (ow_co O v i) j).1 (y j)) _ _ ?_ (hI1.add hf1 hF1 u2) (hJ1.add hf1 hF1 u2) hne ?_ ?_
          · rw [hE]
            exact ⟨u1, u4, u5, by have := hF1.2.2.2.1; omega, Or.inr u8.1, u6⟩
          · split <;> omega
          · split
            · rename_i hg
              have := jgr_4 (c := sl) (c0 := 7 + 4 * (i + 1)) hs hg hcc.2 (by have := hF1.2.2.2.2.1; omega)
              rw [(u8.2.2 hg).1]; exact this
            · omega
      · have hct : ow_cts ((o_ws O i).2.2.2.2 j) = false := by unfold ow_cts; simpa using hr
        have hE : ow_cl (o_ws O i) (ow_co O v i) (j + 1) = ow_cl (o_ws O i) (ow_co O v i) j := by
          show (_ + (if ow_cts ((o_ws O i).2.2.2.2 j) then 1 else 0), if ow_cts ((o_ws O i).2.2.2.2 j) then _ else _) = _
          rw [hct]; rfl
        refine ow_yn (fun z => hr (hpar.mp z)) ?_
        exact ih M1 it i2 e cap x c sl (by rw [hE]; exact hF1) hI1 hJ1 hne hc hs
  -- the works
  have k19 : ∀ i, i ≤ o_wk O → ∀ (M : kz_M) (it e cap : Nat) (x : Nat → Nat) (c sl : Nat), jFl M0 M e cap x (ow_co O v i) → jIt M0 M it 100 e0 (o_wk O) capW xW i → c ≤ 2 + i + cap → sl ≤ 7 + 4 * i + 4 * cap → zL_past_19 G d mc ms Qr Qx (nI v) b M0.2 it M c sl := by
    refine ow_loop _ ?_ ?_
    · intro M it e cap x c sl hF hI hc hs
      have hcz := hco _ (Nat.le_refl _)
      have hcc := hcb hF
      refine rL_past_19 (by omega) (by omega) ⟨hI.ob, c_hasNext (hI.list hf0 hF.1) hI.2.1 (Nat.le_refl _) (by omega) ?_⟩
      rw [if_pos rfl]
      have hBM := hB.nw hf0 hF.1 id id
      have hbo : ∃ fs, M.1 b = some (.inl (16, fs)) := by
        obtain ⟨m, v', h1, -⟩ := hBM.ob
        exact ⟨_, h1⟩
      refine ⟨_, rfl, ow_y rfl ⟨hbo, 1, 4, by omega, by omega, kz_Cfr fun hfM => c_iter hBM (Nat.le_refl _) (Nat.le_refl _) fun M1 g1 g2 g3 => ⟨_, rfl, ?_⟩⟩⟩
      exact k120 0 (Nat.zero_le _) M1 M.2 e cap x _ _ (hF.it0 hfM g1) ⟨hF.2.2.2.1, g3, hB⟩ (by omega) (by omega)
    · intro i hi ih M it e cap x c sl hF hI hc hs
      have hcz := hco i (by omega)
      have hcc := hcb hF
      refine rL_past_19 (by omega) (by omega) ⟨hI.ob, c_hasNext (hI.list hf0 hF.1) hI.2.1 (by omega) (by omega) ?_⟩
      rw [if_neg (by omega)]
      refine ⟨_, rfl, ow_n (by decide) ⟨hI.ob, c_itNext (hI.list hf0 hF.1) hI.2.1 hi (by omega) fun M1 g1 g2 g3 => ⟨_, rfl, ?_⟩⟩⟩
      have hF1 := hF.it hI.ob hI.1 g1 g2
      have hI1 : jIt M0 M1 it 100 e0 (o_wk O) capW xW (i + 1) := ⟨hI.1, g3, hI.2.2⟩
      obtain ⟨al, ew, capw, y, hwk⟩ := hW i hi
      have q1 := hF1.1.at hf0 id hwk.1
      have hwb := (hO.2.2.2 i hi).2.2.1
      refine ⟨⟨_, q1⟩, _, _, q1, rfl, ?_⟩
      by_cases hvi : (o_ws O i).1 = v
      · have hAM := hwk.2.1.nw hf0 hF1.1 id id
        have hao : ∃ fs, M1.1 al = some (.inl (16, fs)) := by
          obtain ⟨m, v', h1, -⟩ := hAM.ob
          exact ⟨_, h1⟩
        refine ow_y (by rw [hvi]) ⟨_, _, q1, rfl, hao, 1, 4, by omega, by omega, kz_Cfr fun hfM => c_iter hAM (Nat.le_refl _) (Nat.le_refl _) fun M2 u1 u2 u3 => ⟨_, rfl, ?_⟩⟩
        have hit : it < M1.2 := by
          obtain ⟨fs, h⟩ := hI1.ob
          exact hfM _ _ h
        exact k65 i hi hvi ih al ew capw y hwk 0 (Nat.zero_le _) M2 it M1.2 e cap x _ _ (hF1.it0 hfM u1) (hI1.it0 hfM u1) ⟨hF1.2.2.2.1, u3, hwk.2.1⟩ (by omega) (by omega) (by omega)
      · have hE : ow_co O v (i + 1) = ow_co O v i := if_neg hvi
        refine ow_n (fun z => hvi ((nI_eq (by omega) (by omega)).mp z)) ?_
        exact ih M1 it e cap x c sl (by rw [hE]; exact hF1) hI1 (by omega) (by omega)
  have hM9 := hf0 _ _ hZ
  refine rL_past_0 ⟨by omega, by omega, c_listInit hG2 (kz_nw_same _ _) fun M1 g1 g2 g3 => ⟨rfl, ?_⟩⟩
  rw [kz_nw_2] at g2
  have F1 : ow_Nw jF M0 M1 := ⟨fun k hk _ => (g1 k (by omega)).trans (kz_nw_ne (by omega)), by omega⟩
  have hLM := hL.nw hf0 F1 id id
  have hlo : ∃ fs, M1.1 100 = some (.inl (16, fs)) := by
    obtain ⟨m, v', h1, -⟩ := hLM.ob
    exact ⟨_, h1⟩
  refine ⟨_, _, F1.at hf0 id hZ, rfl, hlo, 1, 4, by omega, by omega, kz_Cfr fun hfM => c_iter hLM (Nat.le_refl _) (Nat.le_refl _) fun M2 u1 u2 u3 => ⟨_, rfl, ?_⟩⟩
  have hF0 : jFl M0 M1 M0.2 0 (fun _ => 0) (ow_co O v 0) := ⟨F1, g3, Nat.le_refl _, by omega, Or.inl ⟨rfl, rfl⟩, fun i hi => absurd hi (Nat.not_lt_zero i)⟩
  exact k19 0 (Nat.zero_le _) M2 M1.2 M0.2 0 _ _ _ (hF0.it0 hfM u1) ⟨by omega, u3, hL⟩ (by omega) (by omega)
end JPB
