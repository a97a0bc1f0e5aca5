/-! Part 76: what the law's acts make of an office -/
theorem o_book_ba {O : ow_O} {v : Nat} {kd am : Int32} (i : Nat) : o_ba (o_book O v kd am) i = if i = v then o_ba O v + am else o_ba O i := by
  unfold o_book
  by_cases h : am = 0
  · rw [if_pos h, h]
    by_cases hi : i = v
    · rw [if_pos hi, hi]; exact (Int32.add_zero _).symm
    · rw [if_neg hi]
  · rw [if_neg h]
    show upd (o_ba O) v (o_ba O v + am) i = _
    unfold upd
    rfl
theorem o_book_ws' {O : ow_O} {v : Nat} {kd am : Int32} : o_ws (o_book O v kd am) = o_ws O := by unfold o_book; split <;> rfl
theorem o_book_pd' {O : ow_O} {v : Nat} {kd am : Int32} : o_pd (o_book O v kd am) = o_pd O := by unfold o_book; split <;> rfl
theorem o_book_dy' {O : ow_O} {v : Nat} {kd am : Int32} : o_dy (o_book O v kd am) = o_dy O := by unfold o_book; split <;> rfl
theorem o_book_mo' {O : ow_O} {v : Nat} {kd am : Int32} : o_mo (o_book O v kd am) = o_mo O := by unfold o_book; split <;> rfl
theorem o_book_nm' {O : ow_O} {v : Nat} {kd am : Int32} : o_nm (o_book O v kd am) = o_nm O := by unfold o_book; split <;> rfl
theorem ow_Ok1.bk {O : ow_O} {v : Nat} {kd am : Int32} (h : ow_Ok1 O) : ow_Ok1 (o_book O v kd am) := by
  unfold o_book
  by_cases ha : am = 0
  · rw [if_pos ha]; exact h
  · rw [if_neg ha]
    exact ⟨⟨h.1.1, h.1.2.1, h.1.2.2.1, h.1.2.2.2.1, by show (if o_ne O < 30 then o_ne O else 29) + 1 ≤ 30; split <;> omega⟩, h.2.1, h.2.2.1, h.2.2.2⟩
theorem ow_Ok1.hnd {O : ow_O} {v am : Nat} {kd : Int32} (h : ow_Ok1 O) : ow_Ok1 (o_hand O v kd am) := ow_Ok1.bk ⟨⟨h.1.1, Nat.le_trans (Nat.sub_le _ _) h.1.2.1, h.1.2.2⟩, h.2⟩
theorem ow_Ok1.pss {O : ow_O} {m : Nat} (h : ow_Ok1 O) (hm : o_dy O + m ≤ 9999) : ow_Ok1 (o_pass O m) := ⟨⟨hm, h.1.2⟩, h.2⟩
theorem ow_Ok1.rul {O : ow_O} {j m : Nat} (h : ow_Ok1 O) (hm : m ≤ 99) : ow_Ok1 (o_rule O j m) := ⟨h.1, fun i hi => by
  show (if i = j then m else o_ru O i) ≤ 99
  split
  · exact hm
  · exact h.2.1 i hi, h.2.2⟩
theorem ow_wst_l {w : ow_W} {k st : Nat} (i : Nat) : (ow_wst w k st).2.2.2.2 i = if i = k then ((w.2.2.2.2 k).1, (w.2.2.2.2 k).2.1, (w.2.2.2.2 k).2.2.1, (w.2.2.2.2 k).2.2.2.1, (w.2.2.2.2 k).2.2.2.2.1, st) else w.2.2.2.2 i := rfl
theorem ow_Ok1.rpl {O : ow_O} {j k st : Nat} (h : ow_Ok1 O) (hj : j < o_wk O) (hk : k < (o_ws O j).2.2.2.1) (hs : st ≤ 3) : ow_Ok1 (o_repl O j (ow_wst (o_ws O j) k st)) := ⟨h.1, h.2.1, h.2.2.1, fun i hi => by
  show ow_Wok (if i = j then ow_wst (o_ws O j) k st else o_ws O i)
  split
  · exact (h.2.2.2 j hj).wst hk hs
  · exact h.2.2.2 i hi⟩
theorem ow_Ok1.mor {O : ow_O} {v : Nat} {s : ow_S} (h : ow_Ok1 O) (hv : v < 6) (hs : ow_Sok s) (hw : o_wk O < 12) : ow_Ok1 (o_more O (ow_jw O v s (o_ru O) (o_wk O))) := ⟨⟨h.1.1, h.1.2.1, h.1.2.2.1, hw, h.1.2.2.2.2⟩, h.2.1, h.2.2.1, fun i hi => by
  show ow_Wok (if i = o_wk O then ow_jw O v s (o_ru O) (o_wk O) else o_ws O i)
  split
  · exact ow_jw_ok hs hv h.1.1
  · have : i < o_wk O + 1 := hi
    exact h.2.2.2 i (by omega)⟩
theorem ow_sn_ext {f g : Nat → Nat} : ∀ {n : Nat}, (∀ i, i < n → f i = g i) → ow_sn f n = ow_sn g n
  | 0, _ => rfl
  | n + 1, h => by rw [ow_sn, ow_sn, ow_sn_ext (n := n) (fun i hi => h i (by omega)), h n (by omega)]
theorem ow_sn_one {f g : Nat → Nat} {j e : Nat} : ∀ {n : Nat}, j < n → (∀ i, i ≠ j → g i = f i) → g j = f j + e → ow_sn g n = ow_sn f n + e
  | n + 1, hj, h1, h2 => by
    rw [ow_sn, ow_sn]
    by_cases h : j = n
    · subst h
      rw [ow_sn_ext (f := g) (g := f) fun i hi => h1 i (by omega), h2]
      omega
    · rw [ow_sn_one (n := n) (by omega) h1 h2, h1 n (by omega)]
      omega
/-- how many appeals a writer has lost -/
abbrev jlo (O : ow_O) (i : Nat) : Nat := o_ln O (fun w => decide (w = i)) 4
theorem jlo_ws {O O' : ow_O} (h1 : o_ws O' = o_ws O) (h2 : o_wk O' = o_wk O) (i : Nat) : jlo O' i = jlo O i := by
  unfold jlo o_ln
  rw [h1, h2]
theorem ow_wl_wst {w : ow_W} {k st : Nat} (hk : k < w.2.2.2.1) (h1 : (w.2.2.2.2 k).2.2.2.2.2 = 1) : ow_wl 4 (ow_wst w k st) = ow_wl 4 w + (if st = 3 then 1 else 0) := by
  have e4 : ∀ l : ow_L, ow_of 4 l = decide (l.2.2.2.2.2 = 3) := fun l => rfl
  unfold ow_wl
  by_cases hs : st = 3
  · rw [if_pos hs]
    have := ow_cn_one (p := fun i => ow_of 4 (w.2.2.2.2 i)) (r := fun i => ow_of 4 ((ow_wst w k st).2.2.2.2 i)) (q := k) (n := w.2.2.2.1) hk (fun i hi => by
      show ow_of 4 ((ow_wst w k st).2.2.2.2 i) = ow_of 4 (w.2.2.2.2 i)
      rw [ow_wst_l, if_neg hi]) (by
      show ow_of 4 ((ow_wst w k st).2.2.2.2 k) = true
      rw [ow_wst_l, if_pos rfl, e4, hs]
      rfl)
    rw [show (if ow_of 4 (w.2.2.2.2 k) then (0 : Nat) else 1) = 1 by rw [e4, h1]; rfl] at this
    exact this
  · rw [if_neg hs, Nat.add_zero]
    refine ow_cn_ext fun i _ => ?_
    rw [ow_wst_l]
    by_cases hi : i = k
    · rw [if_pos hi, hi, e4, e4, h1]
      show decide (st = 3) = decide (1 = 3)
      rw [decide_eq_false hs]
      rfl
    · rw [if_neg hi]
theorem jlo_repl {O : ow_O} {j k st : Nat} (hj : j < o_wk O) (hk : k < (o_ws O j).2.2.2.1) (h1 : ((o_ws O j).2.2.2.2 k).2.2.2.2.2 = 1) (i : Nat) : jlo (o_repl O j (ow_wst (o_ws O j) k st)) i = jlo O i + (if i = (o_ws O j).1 ∧ st = 3 then 1 else 0) := by
  unfold jlo o_ln
  refine ow_sn_one (j := j) hj (fun t ht => ?_) ?_
  · show (if decide ((if t = j then ow_wst (o_ws O j) k st else o_ws O t).1 = i) = true then ow_wl 4 (if t = j then ow_wst (o_ws O j) k st else o_ws O t) else 0) = _
    rw [if_neg ht]
  · show (if decide ((if j = j then ow_wst (o_ws O j) k st else o_ws O j).1 = i) = true then ow_wl 4 (if j = j then ow_wst (o_ws O j) k st else o_ws O j) else 0) = _
    rw [if_pos rfl, ow_wl_wst hk h1]
    show (if decide ((o_ws O j).1 = i) = true then ow_wl 4 (o_ws O j) + (if st = 3 then 1 else 0) else 0) = (if decide ((o_ws O j).1 = i) = true then ow_wl 4 (o_ws O j) else 0) + _
    by_cases hw : (o_ws O j).1 = i
    · by_cases hs : st = 3
      · simp [hw, hs]
      · simp [hw, hs]
    · have hw' : ¬ i = (o_ws O j).1 := fun z => hw z.symm
      simp [hw, hw']
theorem jlo_more {O : ow_O} {v : Nat} {s : ow_S} (i : Nat) : jlo (o_more O (ow_jw O v s (o_ru O) (o_wk O))) i = jlo O i := by
  unfold jlo o_ln
  show ow_sn _ (o_wk O + 1) = _
  rw [ow_sn]
  have e1 : ow_wl 4 (ow_jw O v s (o_ru O) (o_wk O)) = 0 := ow_cn_0 fun t _ => by
    show decide ((if _ then 0 else 1) = 3) = false
    split <;> rfl
  have e2 : o_ws (o_more O (ow_jw O v s (o_ru O) (o_wk O))) (o_wk O) = ow_jw O v s (o_ru O) (o_wk O) := if_pos rfl
  rw [e2, e1, ow_sn_ext (g := fun t => if decide ((o_ws O t).1 = i) = true then ow_wl 4 (o_ws O t) else 0) fun t ht => by
    have e3 : o_ws (o_more O (ow_jw O v s (o_ru O) (o_wk O))) t = o_ws O t := if_neg (Nat.ne_of_lt ht)
    show (if decide ((o_ws (o_more O (ow_jw O v s (o_ru O) (o_wk O))) t).1 = i) = true then ow_wl 4 (o_ws (o_more O (ow_jw O v s (o_ru O) (o_wk O))) t) else 0) = _
    rw [e3]]
  split <;> rfl
/-- what a work's lines bring, line by line and as the class books it -/
theorem jam_sum (O : ow_O) (v : Nat) (s : ow_S) : ow_sm (jam O (ow_jw O v s (o_ru O) (o_wk O))) (ow_nl s (o_ru O 0)) = ow_wp (ow_jw O v s (o_ru O) (o_wk O)) - nI (o_ru O 3) * nI (ow_wl 2 (ow_jw O v s (o_ru O) (o_wk O))) := by
  unfold ow_wp ow_wl
  show _ = ow_sm _ (ow_nl s (o_ru O 0)) - nI (o_ru O 3) * nI (ow_cn _ (ow_nl s (o_ru O 0)))
  generalize ow_nl s (o_ru O 0) = n
  induction n with
  | zero => show (0 : Int32) = 0 - nI (o_ru O 3) * 0; grind
  | succ n ih =>
    rw [ow_sm, ow_sm, ow_cn, ih]
    have hc : ow_cts ((ow_jw O v s (o_ru O) (o_wk O)).2.2.2.2 n) = decide (((ow_jw O v s (o_ru O) (o_wk O)).2.2.2.2 n).2.2.2.2.1 = 0) := by
      show ow_cts (ow_jl s (o_ru O 0) _ _ _ _ n) = decide ((ow_jl s (o_ru O 0) _ _ _ _ n).2.2.2.2.1 = 0)
      unfold ow_cts ow_jl
      by_cases h0 : ow_rs (ow_jd s (o_ru O 0) (nI (o_ru O (7 + s.1))) (o_ru O 1) (o_ru O 2) (ow_co O v (o_wk O)) n).1 (ow_jd s (o_ru O 0) (nI (o_ru O (7 + s.1))) (o_ru O 1) (o_ru O 2) (ow_co O v (o_wk O)) n).2 s (ow_l0 s (o_ru O 0) (nI (o_ru O (7 + s.1))) n) (o_ru O 1) (o_ru O 2) = 0
      · simp [h0]
      · simp [h0]
    have h2 : ow_of 2 ((ow_jw O v s (o_ru O) (o_wk O)).2.2.2.2 n) = decide (((ow_jw O v s (o_ru O) (o_wk O)).2.2.2.2 n).2.2.2.2.1 ≠ 0) := rfl
    unfold jam
    rw [hc, h2]
    by_cases h0 : ((ow_jw O v s (o_ru O) (o_wk O)).2.2.2.2 n).2.2.2.2.1 = 0
    · rw [if_pos h0, decide_eq_true h0, if_pos rfl, show decide (((ow_jw O v s (o_ru O) (o_wk O)).2.2.2.2 n).2.2.2.2.1 ≠ 0) = false by simp [h0], if_neg (by decide), Nat.add_zero]
      grind
    · rw [if_neg h0, decide_eq_false h0, if_neg (by decide), show decide (((ow_jw O v s (o_ru O) (o_wk O)).2.2.2.2 n).2.2.2.2.1 ≠ 0) = true by simp [h0], if_pos rfl, nI_succ]
      grind
