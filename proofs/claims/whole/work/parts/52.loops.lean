/-! Part 52: LineOffice: questions with a loop -/
/-- the first place of the most -/
def sp_mx (f : Nat → Int32) : Nat → Nat
  | 0 => 0
  | i + 1 => if f i ≤ f (sp_mx f i) then sp_mx f i else i
theorem sp_mx_lt (f : Nat → Int32) : ∀ n, 0 < n → sp_mx f n < n
  | 0, h => h
  | i + 1, _ => by
    rw [sp_mx]
    split
    · rcases Nat.eq_zero_or_pos i with h | h
      · subst h; exact Nat.one_pos
      · have := sp_mx_lt f i h; omega
    · omega
theorem sp_mx_1 (f : Nat → Int32) : sp_mx f 1 = 0 := by
  rw [sp_mx]
  split <;> rfl
def sp_rank (O : ow_O) (v : Nat) : Nat := ow_cn (fun i => decide (o_ba O v < o_ba O i) || (decide (o_ba O i = o_ba O v) && decide (i < v))) (o_nw O)
def sp_run (w : ow_W) : Nat → Nat × Nat
  | 0 => (0, 0)
  | i + 1 => if ow_cts (w.2.2.2.2 i) then (max (sp_run w i).1 ((sp_run w i).2 + 1), (sp_run w i).2 + 1) else ((sp_run w i).1, 0)
theorem sp_run_le (w : ow_W) : ∀ i, (sp_run w i).1 ≤ i ∧ (sp_run w i).2 ≤ i
  | 0 => ⟨Nat.le_refl _, Nat.le_refl _⟩
  | i + 1 => by
    obtain ⟨h1, h2⟩ := sp_run_le w i
    rw [sp_run]
    split
    · exact ⟨by show max _ _ ≤ _; omega, by show _ + 1 ≤ _; omega⟩
    · exact ⟨by show (sp_run w i).1 ≤ _; omega, Nat.zero_le _⟩
def sp_hopes (O : ow_O) (v : Nat) : Nat := if o_lost O v then 0 else ow_sn (fun i => if (o_ws O i).1 = v ∧ o_late O (o_ws O i) = false then ow_wc (o_ws O i) (o_ru O 5) else 0) (o_wk O)
/-- the best measure of 6 .. 5 + k, and what it pays -/
def sp_bm (O : ow_O) (s : ow_S) : Nat → Nat × Int32
  | 0 => (6, sp_pay O s 6)
  | k + 1 => if sp_pay O s (7 + k) ≤ (sp_bm O s k).2 then sp_bm O s k else (7 + k, sp_pay O s (7 + k))
section OWK
variable {G : kz_G} {d mc ms : Nat} {Qr : Option Value → kz_M → Prop} {Qx : String → kz_M → Prop} {M : kz_M} {O : ow_O} {hn : Nat} {h : Nat → ow_O} {sv : ow_O} {isS : Bool} {er : Nat} {ea : Int32} {n : Nat} {b : Nat → Nat} {l : List Nat}
theorem c_richest (I : ow_CI M O hn h sv isS er ea n b l) (hO : ow_Ok1 O) (hw : 0 < o_nw O) (q : Qr (some (.int (nI (sp_mx (o_ba O) (o_nw O))))) M) : kz_C G (d + 2) 0 0 mX11_richest [.ref 0] M Qr Qx := by
  have hnw := hO.1.2.2.1
  refine rX11_richest_0 ?_
  have key : ∀ i, i ≤ o_nw O → 1 ≤ i → zX11_richest_4 G d Qr Qx 0 (nI (sp_mx (o_ba O) i)) (nI i) M := by
    refine ow_loop (o_nw O) ?_ ?_
    · intro _
      exact rX11_richest_4 ⟨_, _, I.1, rfl, _, _, I.off.1, rfl, ow_y (nI_le (Nat.le_refl _) (by omega)) q⟩
    · intro i hi ih h1
      have ih := ih (by omega)
      have hm := sp_mx_lt (o_ba O) i h1
      refine rX11_richest_4 ⟨_, _, I.1, rfl, _, _, I.off.1, rfl, ow_n (nI_ge hi (by omega)) ⟨_, _, I.1, rfl, I.off.ob, c_balanceOf I.off hnw hi ⟨_, rfl, _, _, I.1, rfl, I.off.ob, c_balanceOf I.off hnw (by omega) ⟨_, rfl, fun hle => ?_, fun hle => ?_⟩⟩⟩⟩
      · rw [nI_1]
        rw [sp_mx, if_pos hle] at ih
        exact ih
      · rw [nI_1]
        rw [sp_mx, if_neg hle] at ih
        exact ih
  have := key 1 hw (Nat.le_refl _)
  rw [sp_mx_1] at this
  exact this
theorem c_rank {x : Int32} (hG : kz_stat G) (I : ow_CI M O hn h sv isS er ea n b l) (hO : ow_Ok1 O) (hmc : 1 ≤ mc) (hms : 6 ≤ ms) (q0 : (∀ j, j < o_nw O → x ≠ nI j) → ow_thr Qx M ow_IO) (q1 : ∀ j, j < o_nw O → x = nI j → Qr (some (.int (nI (sp_rank O j)))) M) : kz_C G (d + 8) mc ms mX11_rank [.ref 0, .int x] M Qr Qx := by
  have hnw := hO.1.2.2.1
  refine rX11_rank_0 ⟨I.ob, 1, 6, by omega, by omega, c_checkWriter hG I hO (by omega) (by omega) q0 fun v hv e => ⟨rfl, ?_⟩⟩
  subst e
  have q := q1 v hv rfl
  refine ow_loop (P := fun i => zX11_rank_9 G d mc ms Qr Qx 0 (nI v) (nI (ow_cn (fun i => decide (o_ba O v < o_ba O i) || (decide (o_ba O i = o_ba O v) && decide (i < v))) i)) (nI i) M (0 + 1) (0 + 6)) (o_nw O) ?_ ?_ 0 (Nat.zero_le _)
  · exact rX11_rank_9 (by omega) (by omega) ⟨_, _, I.1, rfl, _, _, I.off.1, rfl, ow_y (nI_le (Nat.le_refl _) (by omega)) q⟩
  · intro i hi ih
    have z0 : (0 : Int32) = 0 := rfl
    have z1 : ¬ (1 : Int32) = 0 := by decide
    have yes : (decide (o_ba O v < o_ba O i) || (decide (o_ba O i = o_ba O v) && decide (i < v))) = true → zX11_rank_9 G d mc ms Qr Qx 0 (nI v) (nI (ow_cn (fun i => decide (o_ba O v < o_ba O i) || (decide (o_ba O i = o_ba O v) && decide (i < v))) i) + 1) (nI i + 1) M (0 + 1) (0 + 6) := fun hz => by
      rw [ow_cn_t hz] at ih
      rw [nI_1, nI_1]
      exact ih
    have no : (decide (o_ba O v < o_ba O i) || (decide (o_ba O i = o_ba O v) && decide (i < v))) = false → zX11_rank_9 G d mc ms Qr Qx 0 (nI v) (nI (ow_cn (fun i => decide (o_ba O v < o_ba O i) || (decide (o_ba O i = o_ba O v) && decide (i < v))) i)) (nI i + 1) M (0 + 1) (0 + 6) := fun hz => by
      rw [ow_cn_f hz] at ih
      rw [nI_1]
      exact ih
    refine rX11_rank_9 (by omega) (by omega) ⟨_, _, I.1, rfl, _, _, I.off.1, rfl, ow_n (nI_ge hi (by omega)) ⟨_, _, I.1, rfl, I.off.ob, c_balanceOf I.off hnw hi ⟨_, rfl, _, _, I.1, rfl, I.off.ob, c_balanceOf I.off hnw hv ⟨_, rfl, fun hle => ⟨_, _, I.1, rfl, I.off.ob, c_balanceOf I.off hnw hi ⟨_, rfl, _, _, I.1, rfl, I.off.ob, c_balanceOf I.off hnw hv ⟨_, rfl, fun hne => ?_, fun heq => ⟨fun hvi => ?_, fun hvi => ?_⟩⟩⟩⟩, fun hgt => ⟨_, _, I.1, rfl, I.off.ob, c_balanceOf I.off hnw hi ⟨_, rfl, _, _, I.1, rfl, I.off.ob, c_balanceOf I.off hnw hv ⟨_, rfl, fun hne => ?_, fun heq => ⟨fun hvi => ?_, fun hvi => ?_⟩⟩⟩⟩⟩⟩⟩⟩
    · have hlt : ¬ o_ba O v < o_ba O i := Int32.not_lt.mpr hle
      exact ow_nn z0 (ow_y z0 (no (by simp [hlt, hne])))
    · have hlt : ¬ o_ba O v < o_ba O i := Int32.not_lt.mpr hle
      have : ¬ i < v := fun z => nI_ge z (by omega) hvi
      exact ow_nn z0 (ow_y z0 (no (by simp [hlt, this])))
    · have : i < v := Nat.not_le.mp fun z => hvi (nI_le z (by omega))
      exact ow_nn z0 (ow_n z1 (yes (by simp [heq, this])))
    · have hlt : o_ba O v < o_ba O i := Int32.not_le.mp hgt
      exact ow_yn z1 (yes (by simp [hlt]))
    · have hlt : o_ba O v < o_ba O i := Int32.not_le.mp hgt
      exact ow_yn z1 (yes (by simp [hlt]))
    · have hlt : o_ba O v < o_ba O i := Int32.not_le.mp hgt
      exact ow_yn z1 (yes (by simp [hlt]))
theorem c_widest {x : Int32} (hG : kz_stat G) (I : ow_CI M O hn h sv isS er ea n b l) (hO : ow_Ok1 O) (hmc : 1 ≤ mc) (hms : 6 ≤ ms) (q0 : (∀ j, j < o_wk O → x ≠ nI j) → ow_thr Qx M ow_IO) (hln : ∀ j, j < o_wk O → 0 < (o_ws O j).2.2.2.1) (q1 : ∀ j, j < o_wk O → x = nI j → Qr (some (.int (nI (sp_mx (fun i => ((o_ws O j).2.2.2.2 i).2.2.1) (o_ws O j).2.2.2.1)))) M) : kz_C G (d + 8) mc ms mX11_widest [.ref 0, .int x] M Qr Qx := by
  refine rX11_widest_0 ⟨I.ob, 1, 6, by omega, by omega, c_workOr hG I hO (by omega) (by omega) q0 fun j a hj e hw => ⟨_, rfl, ?_⟩⟩
  have hW := hO.2.2.2 j hj
  have hm := hW.2.1
  have q := q1 j hj e
  have key : ∀ i, i ≤ (o_ws O j).2.2.2.1 → 1 ≤ i → zX11_widest_11 G d mc ms Qr Qx a (nI (sp_mx (fun i => ((o_ws O j).2.2.2.2 i).2.2.1) i)) (nI i) M (0 + 1) (0 + 6) := by
    refine ow_loop (o_ws O j).2.2.2.1 ?_ ?_
    · intro _
      exact rX11_widest_11 (by omega) (by omega) ⟨hw.ob, c_wsize hw ⟨_, rfl, ow_y (nI_le (Nat.le_refl _) (by omega)) q⟩⟩
    · intro i hi ih h1
      have ih := ih (by omega)
      have hmx := sp_mx_lt (fun i => ((o_ws O j).2.2.2.2 i).2.2.1) i h1
      refine rX11_widest_11 (by omega) (by omega) ⟨hw.ob, c_wsize hw ⟨_, rfl, ow_n (nI_ge hi (by omega)) ⟨hw.ob, c_widthOf hw hm hi ⟨_, rfl, hw.ob, c_widthOf hw hm (by omega) ⟨_, rfl, fun hle => ?_, fun hle => ?_⟩⟩⟩⟩⟩
      · rw [nI_1]
        rw [sp_mx, if_pos hle] at ih
        exact ih
      · rw [nI_1]
        rw [sp_mx, if_neg hle] at ih
        exact ih
  have := key 1 (hln j hj) (Nat.le_refl _)
  rw [sp_mx_1] at this
  exact this
theorem c_longestRun {x : Int32} (hG : kz_stat G) (I : ow_CI M O hn h sv isS er ea n b l) (hO : ow_Ok1 O) (hmc : 1 ≤ mc) (hms : 6 ≤ ms) (q0 : (∀ j, j < o_wk O → x ≠ nI j) → ow_thr Qx M ow_IO) (q1 : ∀ j, j < o_wk O → x = nI j → Qr (some (.int (nI (sp_run (o_ws O j) (o_ws O j).2.2.2.1).1))) M) : kz_C G (d + 8) mc ms mX11_longestRun [.ref 0, .int x] M Qr Qx := by
  refine rX11_longestRun_0 ⟨I.ob, 1, 6, by omega, by omega, c_workOr hG I hO (by omega) (by omega) q0 fun j a hj e hw => ⟨_, rfl, ?_⟩⟩
  have hW := hO.2.2.2 j hj
  have hm := hW.2.1
  have q := q1 j hj e
  refine ow_loop (P := fun i => zX11_longestRun_14 G d mc ms Qr Qx a (nI (sp_run (o_ws O j) i).1) (nI (sp_run (o_ws O j) i).2) (nI i) M (0 + 1) (0 + 6)) (o_ws O j).2.2.2.1 ?_ ?_ 0 (Nat.zero_le _)
  · exact rX11_longestRun_14 (by omega) (by omega) ⟨hw.ob, c_wsize hw ⟨_, rfl, ow_y (nI_le (Nat.le_refl _) (by omega)) q⟩⟩
  · intro i hi ih
    obtain ⟨r1, r2⟩ := sp_run_le (o_ws O j) i
    refine rX11_longestRun_14 (by omega) (by omega) ⟨hw.ob, c_wsize hw ⟨_, rfl, ow_n (nI_ge hi (by omega)) ⟨hw.ob, c_countsAt hw hW hi ⟨_, rfl, ow_if0 (fun hc => ?_) (fun hc => ?_)⟩⟩⟩⟩
    · rw [sp_run, hc] at ih
      rw [nI_1, if_neg (nI_pos (by omega))]
      exact ih
    · rw [sp_run, if_pos hc] at ih
      rw [nI_1, nI_1]
      have e : (if nI (sp_run (o_ws O j) i).1 < nI ((sp_run (o_ws O j) i).2 + 1) then nI ((sp_run (o_ws O j) i).2 + 1) else nI (sp_run (o_ws O j) i).1) = nI (max (sp_run (o_ws O j) i).1 ((sp_run (o_ws O j) i).2 + 1)) := by
        by_cases hlt : (sp_run (o_ws O j) i).1 < (sp_run (o_ws O j) i).2 + 1
        · rw [if_pos (nI_lt hlt (by omega)), Nat.max_eq_right (by omega)]
        · rw [if_neg (nI_nlt (by omega) (by omega)), Nat.max_eq_left (by omega)]
      rw [e]
      exact ih
theorem c_hopes {x : Int32} (hG : kz_stat G) (I : ow_CI M O hn h sv isS er ea n b l) (hO : ow_Ok1 O) (hmc : 1 ≤ mc) (hms : 6 ≤ ms) (q0 : (∀ j, j < o_nw O → x ≠ nI j) → ow_thr Qx M ow_IO) (q1 : ∀ j, j < o_nw O → x = nI j → Qr (some (.int (nI (sp_hopes O j)))) M) : kz_C G (d + 8) mc ms mX11_hopes [.ref 0, .int x] M Qr Qx := by
  have hwk := hO.1.2.2.2.1
  have hnw := hO.1.2.2.1
  refine rX11_hopes_0 ⟨I.ob, 1, 6, by omega, by omega, c_checkWriter hG I hO (by omega) (by omega) q0 fun v hv e => ⟨rfl, _, _, I.1, rfl, I.off.ob, ?_⟩⟩
  subst e
  have q := q1 v hv rfl
  refine c_hasLost I.off hO (by omega) ⟨_, rfl, ow_if0 (fun hl => ?_) (fun hl => ?_)⟩
  · rw [sp_hopes, if_neg (by rw [hl]; decide)] at q
    refine ow_loop (P := fun i => zX11_hopes_22 G d mc ms Qr Qx 0 (nI v) (nI (ow_sn (fun i => if (o_ws O i).1 = v ∧ o_late O (o_ws O i) = false then ow_wc (o_ws O i) (o_ru O 5) else 0) i)) (nI i) M (0 + 1) (0 + 6)) (o_wk O) ?_ ?_ 0 (Nat.zero_le _)
    · exact rX11_hopes_22 (by omega) (by omega) ⟨_, _, I.1, rfl, _, _, I.off.1, rfl, ow_y (nI_le (Nat.le_refl _) (by omega)) q⟩
    · intro i hi ih
      rw [ow_sn] at ih
      have hW := hO.2.2.2 i hi
      refine rX11_hopes_22 (by omega) (by omega) ⟨_, _, I.1, rfl, _, _, I.off.1, rfl, ow_n (nI_ge hi (by omega)) ⟨_, _, I.1, rfl, I.off.ob, c_workOf I.off hO hi (by omega) (fun hc => ⟨_, rfl, fun _ => ?_, fun y hy => (by cases hy)⟩) (fun a hc hw => ⟨_, rfl, fun z => (by cases z), fun y hy => ?_⟩)⟩⟩
      · rw [nI_1]
        rw [if_neg (fun z => hc z.1), Nat.add_zero] at ih
        exact ih
      · cases hy
        refine ⟨_, _, I.1, rfl, I.off.ob, c_isTooLateFor I.off hO hw hW ⟨_, rfl, ow_ifn (fun hlate => ?_) (fun hlate => ⟨_, _, I.1, rfl, I.off.ob, c_rule (i := 5) I.off (by omega) ⟨_, rfl, hw.ob, c_caughtWith hw hW (by have := hO.2.1 5 (by omega); omega) ⟨_, rfl, ?_⟩⟩⟩)⟩⟩
        · rw [nI_1]
          rw [if_neg (fun z => by rw [hlate] at z; exact absurd z.2 (by decide)), Nat.add_zero] at ih
          exact ih
        · rw [nI_1, nI_add]
          rw [if_pos ⟨hc, hlate⟩] at ih
          exact ih
  · rw [sp_hopes, if_pos hl] at q
    exact q
theorem c_bestMeasure {x : Int32} (hG : kz_stat G) (I : ow_CI M O hn h sv isS er ea n b l) (hO : ow_Ok1 O) (hmc : 1 ≤ mc) (hms : 6 ≤ ms) (q0 : (∀ j, j < o_wk O → x ≠ nI j) → ow_thr Qx M ow_IO) (q1 : ∀ j, j < o_wk O → x = nI j → Qr (some (.int (nI (sp_bm O (o_ws O j).2.2.1 24).1))) M) : kz_C G (d + 8) mc ms mX11_bestMeasure [.ref 0, .int x] M Qr Qx := by
  refine rX11_bestMeasure_0 hG ⟨I.ob, 1, 6, by omega, by omega, c_workOr hG I hO (by omega) (by omega) q0 fun j a hj e hw => ⟨_, rfl, ?_⟩⟩
  have hW := hO.2.2.2 j hj
  have q := q1 j hj e
  obtain ⟨sc, al, f, w1, w2, -⟩ := hw
  refine ⟨_, _, w1, rfl, I.ob, c_payWith (me := 6) I w2 hW.1 (by omega) ⟨_, rfl, ?_⟩⟩
  have key : ∀ k, k ≤ 24 → zX11_bestMeasure_29 G d mc ms Qr Qx 0 a (nI (sp_bm O (o_ws O j).2.2.1 k).1) (sp_bm O (o_ws O j).2.2.1 k).2 (nI (7 + k)) M (0 + 1) (0 + 6) := by
    refine ow_loop 24 ?_ ?_
    · exact rX11_bestMeasure_29 (by omega) (by omega) hG (ow_y (by decide) q)
    · intro k hk ih
      refine rX11_bestMeasure_29 (by omega) (by omega) hG (ow_n (nI_nlt (a := 30) (b := 7 + k) (by omega) (by omega)) ⟨_, _, w1, rfl, I.ob, c_payWith I w2 hW.1 (by omega) ⟨_, rfl, fun hle => ?_, fun hle => ?_⟩⟩)
      · rw [nI_1]
        rw [sp_bm, if_pos hle] at ih
        exact ih
      · rw [nI_1]
        rw [sp_bm, if_neg hle] at ih
        exact ih
  exact key 0 (Nat.zero_le _)
theorem c_entry {x y : Int32} (hG : kz_stat G) (I : ow_CI M O hn h sv isS er ea n b l) (hO : ow_Ok1 O) (hmc : 1 ≤ mc) (hms : 6 ≤ ms) (q0 : (∀ j, j < o_ne O → x ≠ nI j) → ow_thr Qx M ow_IO) (q1 : ∀ j, j < o_ne O → x = nI j → (∀ k, k < 4 → y ≠ nI k) → ow_thr Qx M ow_IA) (q2 : ∀ j k, j < o_ne O → x = nI j → k < 4 → y = nI k → Qr (some (.int (o_le O (4 * j + k)))) M) : kz_C G (d + 7) mc ms mX11_entry [.ref 0, .int x, .int y] M Qr Qx := by
  have hne := hO.1.2.2.2.2
  have ge : ∀ (x : Int32) (n : Nat), n < 2 ^ 31 → nI n ≤ x → (¬ x < nI n) ∧ ∀ j, j < n → x ≠ nI j := fun x n hn hx => ⟨Int32.not_lt.mpr hx, fun j hj e => by rw [e] at hx; exact nI_ge hj hn hx⟩
  rcases pk_ix x (n := o_ne O) (by omega) with hx | hx | ⟨j, hj, rfl⟩
  · exact rX11_entry_0 hG (ow_y hx ⟨by omega, by omega, q0 fun j hj e => nI_pos (n := j) (by omega) (e ▸ hx)⟩)
  · obtain ⟨g1, g2⟩ := ge x _ (by omega) hx
    exact rX11_entry_0 hG ⟨fun _ => ⟨by omega, by omega, q0 g2⟩, fun _ => ⟨_, _, I.1, rfl, _, _, I.off.1, rfl, _, _, I.off.2.1, rfl, ow_n g1 ⟨by omega, by omega, q0 g2⟩⟩⟩
  · refine rX11_entry_0 hG (ow_n (nI_pos (by omega)) ⟨_, _, I.1, rfl, _, _, I.off.1, rfl, _, _, I.off.2.1, rfl, ow_y (nI_lt hj (by omega)) ?_⟩)
    rcases pk_ix y (n := 4) (by omega) with hy | hy | ⟨k, hk, rfl⟩
    · exact ow_y hy ⟨by omega, by omega, q1 j hj rfl fun k hk e => nI_pos (n := k) (by omega) (e ▸ hy)⟩
    · obtain ⟨g1, g2⟩ := ge y 4 (by omega) hy
      exact ⟨fun _ => ⟨by omega, by omega, q1 j hj rfl g2⟩, fun _ => ow_n g1 ⟨by omega, by omega, q1 j hj rfl g2⟩⟩
    · exact ow_n (nI_pos (by omega)) (ow_y (nI_lt (b := 4) hk (by omega)) ⟨_, _, I.1, rfl, _, _, I.off.1, rfl, ⟨_, I.off.2.1⟩, c_partOf I.off hne hj hk ⟨_, rfl, q2 j k hj rfl hk rfl⟩⟩)
end OWK
