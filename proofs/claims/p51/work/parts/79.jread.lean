/-! Part 79: the texts that the law hands in, as the class reads them -/
abbrev jB (l : List Nat) : Nat → Nat := fun i => l.getD i 0
theorem rd_cg {kd : Nat} {b b' : Nat → Nat} : ∀ n, (∀ i, i < n → b i = b' i) → rd_run b n = rd_run b' n ∧ rd_wc b n = rd_wc b' n ∧ rd_ok kd b n = rd_ok kd b' n ∧ rd_sl b n = rd_sl b' n ∧ rd_w b n = rd_w b' n ∧ rd_s b n = rd_s b' n
  | 0, _ => ⟨rfl, rfl, rfl, rfl, rfl, rfl⟩
  | n + 1, h => by
    obtain ⟨h1, h2, h3, h4, h5, h6⟩ := rd_cg (kd := kd) n fun i hi => h i (by omega)
    have e := h n (by omega)
    refine ⟨?_, ?_, ?_, ?_, ?_, ?_⟩
    · rw [rd_run, rd_run, e, h1]
    · rw [rd_wc, rd_wc, e, h1, h2]
    · rw [rd_ok, rd_ok, e, h1, h3]
    · rw [rd_sl, rd_sl, e, h4]
    · rw [rd_w, rd_w, rd_wc, rd_wc, e, h1, h2, h5]
    · rw [rd_s, rd_s, rd_wc, rd_wc, e, h1, h2, h4, h6]
/-- what reading a text comes to -/
def jRd (kd : Nat) (l : List Nat) (r n σ : Nat) (w s : Nat → Nat) : Prop := rd_run (jB l) l.length = r ∧ rd_wc (jB l) l.length = n ∧ rd_ok kd (jB l) l.length = true ∧ rd_sl (jB l) l.length = σ ∧ rd_w (jB l) l.length = w ∧ rd_s (jB l) l.length = s
theorem jRd_nil (kd : Nat) : jRd kd [] 0 0 0 (fun _ => 0) (fun _ => 0) := ⟨rfl, rfl, rfl, rfl, rfl, rfl⟩
theorem jB_app {l : List Nat} {c : Nat} : (∀ i, i < l.length → jB (l ++ [c]) i = jB l i) ∧ jB (l ++ [c]) l.length = c := by
  refine ⟨fun i hi => ?_, ?_⟩
  · show (l ++ [c]).getD i 0 = l.getD i 0
    rw [List.getD_eq_getElem?_getD, List.getD_eq_getElem?_getD, List.getElem?_append_left hi]
  · show (l ++ [c]).getD l.length 0 = c
    rw [List.getD_eq_getElem?_getD, List.getElem?_append_right (Nat.le_refl _), Nat.sub_self]
    rfl
theorem jRd_c {kd : Nat} {l : List Nat} {c r n σ : Nat} {w s : Nat → Nat} (h : jRd kd l r n σ w s) (hc : rd_L c = false) (ho : c = 32 ∨ (c = 47 ∧ kd = 1)) : jRd kd (l ++ [c]) 0 n (σ + (if c = 47 then 1 else 0)) w s := by
  obtain ⟨h1, h2, h3, h4, h5, h6⟩ := h
  obtain ⟨e1, e2⟩ := jB_app (l := l) (c := c)
  obtain ⟨g1, g2, g3, g4, g5, g6⟩ := rd_cg (kd := kd) l.length e1
  unfold jRd
  rw [List.length_append, List.length_singleton]
  refine ⟨?_, ?_, ?_, ?_, ?_, ?_⟩
  · rw [rd_run, e2, hc]; rfl
  · rw [rd_wc, e2, hc, g2, h2]; rfl
  · rw [rd_ok, e2, g3, h3, hc]
    rcases ho with rfl | ⟨rfl, rfl⟩ <;> rfl
  · rw [rd_sl, e2, g4, h4]
  · rw [rd_w, e2, hc, g5, h5]; rfl
  · rw [rd_s, e2, hc, g6, h6]; rfl
/-- a word in the middle of which the reading stands -/
def jRw (kd : Nat) (l : List Nat) (r n σ cd : Nat) (w s : Nat → Nat) : Prop := jRd kd l r (n + 1) σ (fun j => if j = n then cd else w j) (fun j => if j = n then σ else s j)
theorem jRd_l0 {kd : Nat} {l : List Nat} {c n σ : Nat} {w s : Nat → Nat} (h : jRd kd l 0 n σ w s) (hw : w n = 0) (hc : rd_L c = true) : jRw kd (l ++ [c]) 1 n σ (c - 96) w s := by
  obtain ⟨h1, h2, h3, h4, h5, h6⟩ := h
  obtain ⟨e1, e2⟩ := jB_app (l := l) (c := c)
  obtain ⟨g1, g2, g3, g4, g5, g6⟩ := rd_cg (kd := kd) l.length e1
  have hwc : rd_wc (jB (l ++ [c])) (l.length + 1) = n + 1 := by rw [rd_wc, e2, hc, g1, g2, h1, h2]; rfl
  unfold jRw jRd
  rw [List.length_append, List.length_singleton]
  refine ⟨?_, hwc, ?_, ?_, ?_, ?_⟩
  · rw [rd_run, e2, hc, g1, h1]; rfl
  · rw [rd_ok, e2, g3, h3, hc, g1, h1]; rfl
  · rw [rd_sl, e2, g4, h4]
    have : ¬ c = 47 := fun z => by rw [z] at hc; cases hc
    rw [if_neg this]; rfl
  · rw [rd_w, e2, if_pos hc, hwc, g5, h5]
    funext j
    show (if j = n + 1 - 1 then 32 * w j + (c - 96) else w j) = if j = n then c - 96 else w j
    rw [Nat.add_sub_cancel]
    by_cases hj : j = n
    · rw [if_pos hj, if_pos hj, hj, hw]; omega
    · rw [if_neg hj, if_neg hj]
  · rw [rd_s, e2, if_pos hc, hwc, g4, h4, g6, h6]
    funext j
    show (if j = n + 1 - 1 then σ else s j) = if j = n then σ else s j
    rw [Nat.add_sub_cancel]
theorem jRw_l {kd : Nat} {l : List Nat} {c r n σ cd : Nat} {w s : Nat → Nat} (h : jRw kd l r n σ cd w s) (hr : 0 < r) (hr2 : r < 12) (hc : rd_L c = true) : jRw kd (l ++ [c]) (r + 1) n σ (32 * cd + (c - 96)) w s := by
  obtain ⟨h1, h2, h3, h4, h5, h6⟩ := h
  obtain ⟨e1, e2⟩ := jB_app (l := l) (c := c)
  obtain ⟨g1, g2, g3, g4, g5, g6⟩ := rd_cg (kd := kd) l.length e1
  have hwc : rd_wc (jB (l ++ [c])) (l.length + 1) = n + 1 := by
    rw [rd_wc, e2, hc, g1, g2, h1, h2, decide_eq_false (show ¬ r = 0 by omega)]; rfl
  unfold jRw jRd
  rw [List.length_append, List.length_singleton]
  refine ⟨?_, hwc, ?_, ?_, ?_, ?_⟩
  · rw [rd_run, e2, hc, g1, h1]; rfl
  · rw [rd_ok, e2, g3, h3, hc, g1, h1, if_pos rfl, decide_eq_true (show r + 1 ≤ 12 by omega)]; rfl
  · rw [rd_sl, e2, g4, h4]
    have : ¬ c = 47 := fun z => by rw [z] at hc; cases hc
    rw [if_neg this]; rfl
  · rw [rd_w, e2, if_pos hc, hwc, g5, h5]
    funext j
    show (if j = n + 1 - 1 then 32 * (if j = n then cd else w j) + (c - 96) else (if j = n then cd else w j)) = if j = n then 32 * cd + (c - 96) else w j
    rw [Nat.add_sub_cancel]
    by_cases hj : j = n
    · rw [if_pos hj, if_pos hj, if_pos hj]
    · rw [if_neg hj, if_neg hj, if_neg hj]
  · rw [rd_s, e2, if_pos hc, hwc, g4, h4, g6, h6]
    funext j
    show (if j = n + 1 - 1 then σ else (if j = n then σ else s j)) = if j = n then σ else s j
    rw [Nat.add_sub_cancel]
    by_cases hj : j = n
    · rw [if_pos hj, if_pos hj]
    · rw [if_neg hj, if_neg hj]
/-- the letters of a word -/
def jwl (q : Nat) : List Nat := [[97, 98], [97, 98, 99], [100], [97, 98, 99, 100, 101, 102, 103, 104, 105]].getD q []
theorem jRd_w {kd : Nat} {l : List Nat} {n σ q : Nat} {w s : Nat → Nat} (h : jRd kd l 0 n σ w s) (hw : w n = 0) (hq : q < 4) : jRw kd (l ++ jwl q) (jlt q) n σ (jc q) w s := by
  have a1 := jRd_l0 (c := 97) h hw rfl
  have a2 := jRw_l (c := 98) a1 (by decide) (by decide) rfl
  have a3 := jRw_l (c := 99) a2 (by decide) (by decide) rfl
  have a4 := jRw_l (c := 100) a3 (by decide) (by decide) rfl
  have a5 := jRw_l (c := 101) a4 (by decide) (by decide) rfl
  have a6 := jRw_l (c := 102) a5 (by decide) (by decide) rfl
  have a7 := jRw_l (c := 103) a6 (by decide) (by decide) rfl
  have a8 := jRw_l (c := 104) a7 (by decide) (by decide) rfl
  have a9 := jRw_l (c := 105) a8 (by decide) (by decide) rfl
  have d1 := jRd_l0 (c := 100) h hw rfl
  simp only [List.append_assoc, List.singleton_append, List.cons_append, List.nil_append] at a2 a3 a9
  have hc : q = 0 ∨ q = 1 ∨ q = 2 ∨ q = 3 := by omega
  rcases hc with rfl | rfl | rfl | rfl
  · exact a2
  · exact a3
  · exact d1
  · exact a9
/-- the law's words, slashes and text -/
def jq (y : Int32) (k : Nat) : Nat := jbt y (2 * k) 2
def jfl (x : Int32) (kd k : Nat) : Bool := decide (kd = 1) && decide (jbt x (11 + k) 1 = 1)
def jsc (x : Int32) (kd : Nat) : Nat → Nat
  | 0 => 0
  | k + 1 => jsc x kd k + (if jfl x kd (k + 1) then 1 else 0)
def jtx (x y : Int32) (kd : Nat) : Nat → List Nat
  | 0 => []
  | k + 1 => jtx x y kd k ++ (if k = 0 then [] else 32 :: (if jfl x kd k then [47, 32] else [])) ++ jwl (jq y k)
theorem jq_lt (y : Int32) (k : Nat) : jq y k < 4 := jbt_lt y (2 * k) 2
theorem jsc_le (x : Int32) (kd : Nat) : ∀ k, jsc x kd k ≤ k
  | 0 => Nat.le_refl _
  | k + 1 => by
    have := jsc_le x kd k
    rw [jsc]
    split <;> omega
theorem jwl_len : ∀ q, q < 4 → (jwl q).length = jlt q := by decide
theorem jwl_A : ∀ q, q < 4 → ∀ x ∈ jwl q, x < 128 := by decide
theorem jtx_len (x y : Int32) (kd : Nat) : ∀ k, (jtx x y kd k).length ≤ 12 * k
  | 0 => Nat.le_refl _
  | k + 1 => by
    have := jtx_len x y kd k
    have h2 := jwl_len _ (jq_lt y k)
    have h3 := (jlt_b _ (jq_lt y k)).2
    rw [jtx, List.length_append, List.length_append, h2]
    split
    · simp only [List.length_nil]; omega
    · split
      · simp only [List.length_cons, List.length_nil]; omega
      · simp only [List.length_cons, List.length_nil]; omega
/-- the text of k words is read as those words -/
theorem jtx_rd (x y : Int32) (kd : Nat) : ∀ k, ∃ w s, jRd kd (jtx x y kd k) (if k = 0 then 0 else jlt (jq y (k - 1))) k (if k = 0 then 0 else jsc x kd (k - 1)) w s ∧ (∀ j, j < k → w j = jc (jq y j) ∧ s j = jsc x kd j) ∧ ∀ j, k ≤ j → w j = 0
  | 0 => ⟨_, _, jRd_nil kd, fun j hj => absurd hj (Nat.not_lt_zero j), fun _ _ => rfl⟩
  | k + 1 => by
    obtain ⟨w, s, h1, h2, h3⟩ := jtx_rd x y kd k
    have fin : ∀ l, jRd kd l 0 k (jsc x kd k) w s → jtx x y kd (k + 1) = l ++ jwl (jq y k) → ∃ w s, jRd kd (jtx x y kd (k + 1)) (if k + 1 = 0 then 0 else jlt (jq y (k + 1 - 1))) (k + 1) (if k + 1 = 0 then 0 else jsc x kd (k + 1 - 1)) w s ∧ (∀ j, j < k + 1 → w j = jc (jq y j) ∧ s j = jsc x kd j) ∧ ∀ j, k + 1 ≤ j → w j = 0 := fun l hl e => by
      have := jRd_w hl (h3 k (Nat.le_refl _)) (jq_lt y k)
      rw [if_neg (by omega), if_neg (by omega), Nat.add_sub_cancel, e]
      refine ⟨_, _, this, fun j hj => ?_, fun j hj => ?_⟩
      · by_cases hjk : j = k
        · rw [if_pos hjk, if_pos hjk, hjk]; exact ⟨rfl, rfl⟩
        · rw [if_neg hjk, if_neg hjk]; exact h2 j (by omega)
      · rw [if_neg (by omega)]; exact h3 j (by omega)
    by_cases h0 : k = 0
    · subst h0
      exact fin [] h1 rfl
    · rw [if_neg h0, if_neg h0] at h1
      have a1 := jRd_c (c := 32) h1 rfl (Or.inl rfl)
      rw [if_neg (by decide), Nat.add_zero] at a1
      have esc : jsc x kd k = jsc x kd (k - 1) + (if jfl x kd k then 1 else 0) := by
        have : k = (k - 1) + 1 := by omega
        conv => lhs; rw [this, jsc]
        rw [← this]
      by_cases hf : jfl x kd k = true
      · have hkd : kd = 1 := by
          unfold jfl at hf
          simp only [Bool.and_eq_true, decide_eq_true_eq] at hf
          exact hf.1
        have a2 := jRd_c (c := 47) a1 rfl (Or.inr ⟨rfl, hkd⟩)
        have a3 := jRd_c (c := 32) a2 rfl (Or.inl rfl)
        rw [if_pos rfl, if_neg (by decide), Nat.add_zero] at a3
        rw [hf, if_pos rfl] at esc
        rw [← esc] at a3
        exact fin _ a3 (by rw [jtx, if_neg h0, hf, if_pos rfl]; simp)
      · have hf : jfl x kd k = false := by simpa using hf
        rw [hf, if_neg (by decide), Nat.add_zero] at esc
        rw [← esc] at a1
        exact fin _ a1 (by rw [jtx, if_neg h0, hf, if_neg (by decide)])
/-- the script that the class reads -/
theorem jtx_S {x y : Int32} {kd k : Nat} {b : Nat → Nat} (hk : 1 ≤ k) (hk2 : k ≤ 16) (hb : ∀ i, i < (jtx x y kd k).length → b i = (jtx x y kd k).getD i 0) : rd_can kd b (jtx x y kd k).length = true ∧ (rd_S kd b (jtx x y kd k).length).1 = kd ∧ (rd_S kd b (jtx x y kd k).length).2.1 = k ∧ ∀ j, j < k → (rd_S kd b (jtx x y kd k).length).2.2.1 j = lN (jc (jq y j)) ∧ (rd_S kd b (jtx x y kd k).length).2.2.2 j = nI (jsc x kd j) := by
  obtain ⟨w, s, ⟨h1, h2, h3, h4, h5, h6⟩, h7, h8⟩ := jtx_rd x y kd k
  obtain ⟨g1, g2, g3, g4, g5, g6⟩ := rd_cg (kd := kd) (b := b) (b' := jB (jtx x y kd k)) _ hb
  refine ⟨?_, rfl, ?_, fun j hj => ?_⟩
  · unfold rd_can
    rw [g3, h3, g2, h2, decide_eq_true hk, decide_eq_true (show k ≤ 60 by omega)]
    rfl
  · show rd_wc b _ = k
    rw [g2, h2]
  · show lN (rd_w b _ j) = _ ∧ nI (rd_s b _ j) = _
    rw [g5, g6, h5, h6, (h7 j hj).1, (h7 j hj).2]
    exact ⟨rfl, rfl⟩
