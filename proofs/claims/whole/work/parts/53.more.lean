/-! Part 53: LineOffice: common, newWords, copiedFrom, likeLine -/
def sp_common (s t : ow_S) : Nat := ow_cn (fun i => decide (ow_tm s.2.2.1 (s.2.2.1 i) 0 i = 0) && decide (0 < ow_tm t.2.2.1 (s.2.2.1 i) 0 t.2.1)) s.2.1
def sp_ub (O : ow_O) (x : Int64) (v e : Nat) : Bool := ow_ex (fun i => decide ((o_ws O i).1 = v) && decide (0 < ow_tm (o_ws O i).2.2.1.2.2.1 x 0 (o_ws O i).2.2.1.2.1)) e
def sp_new (O : ow_O) (j : Nat) : Nat := ow_cn (fun i => decide (ow_tm (o_ws O j).2.2.1.2.2.1 ((o_ws O j).2.2.1.2.2.1 i) 0 i = 0) && !sp_ub O ((o_ws O j).2.2.1.2.2.1 i) (o_ws O j).1 j) (o_ws O j).2.2.1.2.1
/-- how much is copied most, and from where -/
def sp_cp (O : ow_O) (j : Nat) : Nat → Nat × Int32
  | 0 => (0, -1)
  | i + 1 => if (o_ws O i).1 = (o_ws O j).1 then sp_cp O j i else if ow_ws (o_ws O j) (o_ws O i) ≤ (sp_cp O j i).1 then sp_cp O j i else (ow_ws (o_ws O j) (o_ws O i), nI i)
theorem ow_ws_le (w v : ow_W) : ow_ws w v ≤ w.2.2.2.1 := ow_cn_le _ _
theorem sp_cp_le (O : ow_O) (j : Nat) : ∀ i, (sp_cp O j i).1 ≤ (o_ws O j).2.2.2.1
  | 0 => Nat.zero_le _
  | i + 1 => by
    have := sp_cp_le O j i
    rw [sp_cp]
    split
    · exact this
    · split
      · exact this
      · exact ow_ws_le _ _
def sp_like (O : ow_O) (j k : Nat) : Int32 := match ow_fs (fun i => decide ((o_ws O i).1 = (o_ws O j).1) && (ow_wf (o_ws O i) (o_ws O j).2.2.1 ((o_ws O j).2.2.2.2 k)).isSome) j with
  | some i => 100 * nI i + ow_oi (ow_wf (o_ws O i) (o_ws O j).2.2.1 ((o_ws O j).2.2.2.2 k))
  | none => if ow_oi (ow_wf (o_ws O j) (o_ws O j).2.2.1 ((o_ws O j).2.2.2.2 k)) = nI k then -1 else 100 * nI j + ow_oi (ow_wf (o_ws O j) (o_ws O j).2.2.1 ((o_ws O j).2.2.2.2 k))
section OWK
variable {G : kz_G} {d mc ms : Nat} {Qr : Option Value → kz_M → Prop} {Qx : String → kz_M → Prop} {M : kz_M} {O : ow_O} {hn : Nat} {h : Nat → ow_O} {sv : ow_O} {isS : Bool} {er : Nat} {ea : Int32} {n : Nat} {b : Nat → Nat} {l : List Nat}
theorem c_common {x y : Int32} (hG : kz_stat G) (I : ow_CI M O hn h sv isS er ea n b l) (hO : ow_Ok1 O) (hmc : 2 ≤ mc) (hms : 12 ≤ ms) (q0 : (∀ j, j < o_wk O → x ≠ nI j) → ow_thr Qx M ow_IO) (q1 : (∀ j, j < o_wk O → y ≠ nI j) → ow_thr Qx M ow_IO) (q2 : ∀ j k, j < o_wk O → x = nI j → k < o_wk O → y = nI k → Qr (some (.int (nI (sp_common (o_ws O j).2.2.1 (o_ws O k).2.2.1)))) M) : kz_C G (d + 8) mc ms mX11_common [.ref 0, .int x, .int y] M Qr Qx := by
  refine rX11_common_0 ⟨I.ob, 1, 6, by omega, by omega, c_workOr hG I hO (by omega) (by omega) q0 fun j a hj e hw => ⟨_, rfl, ?_⟩⟩
  have hW := hO.2.2.2 j hj
  have hn1 := hW.1.2.2.1
  obtain ⟨sc, al, f, w1, w2, -⟩ := hw
  refine ⟨_, _, w1, rfl, I.ob, 1, 6, by omega, by omega, c_workOr hG I hO (by omega) (by omega) q1 fun k a2 hk e2 hw2 => ⟨_, rfl, ?_⟩⟩
  have hW2 := hO.2.2.2 k hk
  have hn2 := hW2.1.2.2.1
  obtain ⟨sc2, al2, f2, w12, w22, -⟩ := hw2
  refine ⟨_, _, w12, rfl, ?_⟩
  have q := q2 j k hj e hk e2
  refine ow_loop (P := fun i => zX11_common_25 G d mc ms Qr Qx sc sc2 (nI (ow_cn (fun i => decide (ow_tm (o_ws O j).2.2.1.2.2.1 ((o_ws O j).2.2.1.2.2.1 i) 0 i = 0) && decide (0 < ow_tm (o_ws O k).2.2.1.2.2.1 ((o_ws O j).2.2.1.2.2.1 i) 0 (o_ws O k).2.2.1.2.1)) i)) (nI i) M (0 + 1 + 1) (0 + 6 + 6)) (o_ws O j).2.2.1.2.1 ?_ ?_ 0 (Nat.zero_le _)
  · exact rX11_common_25 (by omega) (by omega) ⟨w2.ob, c_size w2 ⟨_, rfl, ow_y (nI_le (Nat.le_refl _) (by omega)) q⟩⟩
  · intro i hi ih
    have hle := ow_tm_le (o_ws O k).2.2.1.2.2.1 ((o_ws O j).2.2.1.2.2.1 i) 0 (o_ws O k).2.2.1.2.1
    refine rX11_common_25 (by omega) (by omega) ⟨w2.ob, c_size w2 ⟨_, rfl, ow_n (nI_ge hi (by omega)) ⟨w2.ob, c_isNewAt (from' := 0) w2 (Nat.zero_le _) hi (by omega) ⟨_, rfl, ?_⟩⟩⟩⟩
    by_cases h0 : ow_tm (o_ws O j).2.2.1.2.2.1 ((o_ws O j).2.2.1.2.2.1 i) 0 i = 0
    · rw [if_pos h0]
      refine ow_n (by decide) ⟨w2.ob, c_wordAt w2 hi (by omega) ⟨_, rfl, w22.ob, c_size w22 ⟨_, rfl, w22.ob, c_times (from' := 0) w22 (Nat.zero_le _) (Nat.le_refl _) (by omega) ⟨_, rfl, pk_le (ow_tm (o_ws O k).2.2.1.2.2.1 ((o_ws O j).2.2.1.2.2.1 i) 0 (o_ws O k).2.2.1.2.1) 0 (fun hz => ?_) (fun hz => ?_) rfl rfl⟩⟩⟩⟩
      · rw [nI_1]
        rw [ow_cn_f (by simp [h0]; omega)] at ih
        exact ih
      · rw [nI_1, nI_1]
        rw [ow_cn_t (by simp [h0]; omega)] at ih
        exact ih
    · rw [if_neg h0]
      refine ow_y rfl ?_
      rw [nI_1]
      rw [ow_cn_f (by simp [h0])] at ih
      exact ih
theorem c_newWords {x : Int32} (hG : kz_stat G) (I : ow_CI M O hn h sv isS er ea n b l) (hO : ow_Ok1 O) (hmc : 1 ≤ mc) (hms : 6 ≤ ms) (q0 : (∀ j, j < o_wk O → x ≠ nI j) → ow_thr Qx M ow_IO) (q1 : ∀ j, j < o_wk O → x = nI j → Qr (some (.int (nI (sp_new O j)))) M) : kz_C G (d + 8) mc ms mX11_newWords [.ref 0, .int x] M Qr Qx := by
  refine rX11_newWords_0 ⟨I.ob, 1, 6, by omega, by omega, c_workOr hG I hO (by omega) (by omega) q0 fun j a hj e hw => ⟨_, rfl, ?_⟩⟩
  subst e
  have hW := hO.2.2.2 j hj
  have hn1 := hW.1.2.2.1
  have hv := hW.2.2.1
  obtain ⟨sc, al, f, w1, w2, -⟩ := hw
  have q := q1 j hj rfl
  refine ow_loop (P := fun i => zX11_newWords_11 G d mc ms Qr Qx 0 (nI j) a (nI (ow_cn (fun i => decide (ow_tm (o_ws O j).2.2.1.2.2.1 ((o_ws O j).2.2.1.2.2.1 i) 0 i = 0) && !sp_ub O ((o_ws O j).2.2.1.2.2.1 i) (o_ws O j).1 j) i)) (nI i) M (0 + 1) (0 + 6)) (o_ws O j).2.2.1.2.1 ?_ ?_ 0 (Nat.zero_le _)
  · exact rX11_newWords_11 (by omega) (by omega) ⟨_, _, w1, rfl, w2.ob, c_size w2 ⟨_, rfl, ow_y (nI_le (Nat.le_refl _) (by omega)) q⟩⟩
  · intro i hi ih
    refine rX11_newWords_11 (by omega) (by omega) ⟨_, _, w1, rfl, w2.ob, c_size w2 ⟨_, rfl, ow_n (nI_ge hi (by omega)) ⟨_, _, w1, rfl, w2.ob, c_isNewAt (from' := 0) w2 (Nat.zero_le _) hi (by omega) ⟨_, rfl, ?_⟩⟩⟩⟩
    by_cases h0 : ow_tm (o_ws O j).2.2.1.2.2.1 ((o_ws O j).2.2.1.2.2.1 i) 0 i = 0
    · rw [if_pos h0]
      refine ow_n (by decide) ⟨_, _, I.1, rfl, _, _, w1, rfl, w2.ob, c_wordAt w2 hi (by omega) ⟨_, rfl, _, _, w1, rfl, I.off.ob, c_usedBefore I.off hO (by omega) (by omega) ⟨_, rfl, ow_ifn (fun hu => ?_) (fun hu => ?_)⟩⟩⟩
      · rw [nI_1]
        rw [ow_cn_f (by rw [show sp_ub O ((o_ws O j).2.2.1.2.2.1 i) (o_ws O j).1 j = true from hu]; simp)] at ih
        exact ih
      · rw [nI_1, nI_1]
        rw [ow_cn_t (by rw [show sp_ub O ((o_ws O j).2.2.1.2.2.1 i) (o_ws O j).1 j = false from hu]; simp [h0])] at ih
        exact ih
    · rw [if_neg h0]
      refine ow_y rfl ?_
      rw [nI_1]
      rw [ow_cn_f (by simp [h0])] at ih
      exact ih
theorem c_copiedFrom {x : Int32} (hG : kz_stat G) (I : ow_CI M O hn h sv isS er ea n b l) (hO : ow_Ok1 O) (hmc : 1 ≤ mc) (hms : 6 ≤ ms) (q0 : (∀ j, j < o_wk O → x ≠ nI j) → ow_thr Qx M ow_IO) (q1 : ∀ j, j < o_wk O → x = nI j → Qr (some (.int (sp_cp O j (o_wk O)).2)) M) : kz_C G (d + 8) mc ms mX11_copiedFrom [.ref 0, .int x] M Qr Qx := by
  have hwk := hO.1.2.2.2.1
  refine rX11_copiedFrom_0 ⟨I.ob, 1, 6, by omega, by omega, c_workOr hG I hO (by omega) (by omega) q0 fun j a hj e hw => ⟨_, rfl, ?_⟩⟩
  have hW := hO.2.2.2 j hj
  have hm := hW.2.1
  have hv := hW.2.2.1
  have hw0 := hw
  obtain ⟨sc, al, f, w1, w2, -⟩ := hw
  have q := q1 j hj e
  refine ow_loop (P := fun i => zX11_copiedFrom_14 G d mc ms Qr Qx 0 a (nI (sp_cp O j i).1) (sp_cp O j i).2 (nI i) M (0 + 1) (0 + 6)) (o_wk O) ?_ ?_ 0 (Nat.zero_le _)
  · exact rX11_copiedFrom_14 (by omega) (by omega) ⟨_, _, I.1, rfl, _, _, I.off.1, rfl, ow_y (nI_le (Nat.le_refl _) (by omega)) q⟩
  · intro i hi ih
    have hWi := hO.2.2.2 i hi
    have hvi := hWi.2.2.1
    have c1 := sp_cp_le O j i
    have c2 := ow_ws_le (o_ws O j) (o_ws O i)
    refine rX11_copiedFrom_14 (by omega) (by omega) ⟨_, _, I.1, rfl, _, _, I.off.1, rfl, ow_n (nI_ge hi (by omega)) ⟨_, _, I.1, rfl, I.off.ob, c_workAtI I.off hwk hi fun a2 hw2 => ⟨_, rfl, fun z => (by cases z), fun y hy => ?_⟩⟩⟩
    cases hy
    have hw20 := hw2
    obtain ⟨sc2, al2, f2, w12, -⟩ := hw2
    refine ⟨_, _, w12, rfl, _, _, w1, rfl, ?_⟩
    rw [sp_cp] at ih
    by_cases hc : (o_ws O i).1 = (o_ws O j).1
    · refine ow_y (by rw [hc]) ?_
      rw [nI_1]
      rw [if_pos hc] at ih
      exact ih
    · rw [if_neg hc] at ih
      refine ow_n (fun z => hc ((nI_eq (by omega) (by omega)).mp z)) ⟨⟨_, w1⟩, c_linesStandingIn hw0 hW hw20 hWi ⟨_, rfl, pk_le (ow_ws (o_ws O j) (o_ws O i)) (sp_cp O j i).1 (fun hz => ?_) (fun hz => ?_) rfl rfl⟩⟩
      · rw [nI_1]
        rw [if_pos hz] at ih
        exact ih
      · rw [nI_1]
        rw [if_neg (by omega)] at ih
        exact ih
theorem c_likeLine {x y : Int32} (hG : kz_stat G) (I : ow_CI M O hn h sv isS er ea n b l) (hO : ow_Ok1 O) (hmc : 4 ≤ mc) (hms : 24 ≤ ms) (q0 : (∀ j k, j < o_wk O → k < (o_ws O j).2.2.2.1 → x = nI j → y = nI k → False) → ow_thr Qx M ow_IO) (q1 : ∀ j k, j < o_wk O → x = nI j → k < (o_ws O j).2.2.2.1 → y = nI k → Qr (some (.int (sp_like O j k))) M) : kz_C G (d + 9) mc ms mX11_likeLine [.ref 0, .int x, .int y] M Qr Qx := by
  have hwk := hO.1.2.2.2.1
  refine rX11_likeLine_0 ⟨I.ob, 2, 12, by omega, by omega, c_lineOr hG I hO (by omega) (by omega) q0 fun j k b2 sc hj e hk ek hl hs => ⟨_, rfl, I.ob, 1, 6, by omega, by omega, c_workOr hG I hO (by omega) (by omega) (fun hx => absurd e (hx j hj)) fun j' a hj' e' hw => ⟨_, rfl, ?_⟩⟩⟩
  have : j = j' := ow_inj (by omega) (by omega) e e'
  subst this
  subst e
  subst ek
  have hW := hO.2.2.2 j hj
  have hm := hW.2.1
  have hv := hW.2.2.1
  have hL := hW.2.2.2.2 k hk
  have hLL : ow_LL M b2 (o_ws O j).2.2.1 ((o_ws O j).2.2.2.2 k) := ⟨sc, hl, hs⟩
  have hw0 := hw
  obtain ⟨sc2, al, f, w1, w2, -⟩ := hw
  refine ⟨_, _, w1, rfl, ?_⟩
  have q := q1 j k hj rfl hk rfl
  have key : ∀ i, i ≤ j → (∀ i', i' < i → (fun i => decide ((o_ws O i).1 = (o_ws O j).1) && (ow_wf (o_ws O i) (o_ws O j).2.2.1 ((o_ws O j).2.2.2.2 k)).isSome) i' = false) → zX11_likeLine_20 G d mc ms Qr Qx 0 (nI j) (nI k) b2 (nI (o_ws O j).1) (nI i) M (0 + 2 + 1) (0 + 12 + 6) := by
    refine ow_loop j ?_ ?_
    · intro hno
      rw [sp_like, ow_fs_none hno] at q
      refine rX11_likeLine_20 (by omega) (by omega) (ow_y (nI_le (Nat.le_refl _) (by omega)) ⟨I.ob, 1, 6, by omega, by omega, c_workOr hG I hO (by omega) (by omega) (fun hx => absurd rfl (hx j hj)) fun j2 a2 hj2 e2 hw2 => ⟨_, rfl, hw2.ob, ?_⟩⟩)
      have : j = j2 := ow_inj (by omega) (by omega) rfl e2
      subst this
      refine c_firstLike hw2 hW hLL hW.1 hL ⟨_, rfl, fun hne => ?_, fun heq => ?_⟩
      · have q' : Qr (some (.int (if ow_oi (ow_wf (o_ws O j) (o_ws O j).2.2.1 ((o_ws O j).2.2.2.2 k)) = nI k then -1 else 100 * nI j + ow_oi (ow_wf (o_ws O j) (o_ws O j).2.2.1 ((o_ws O j).2.2.2.2 k))))) M := q
        rw [if_neg hne] at q'
        exact q'
      · have q' : Qr (some (.int (if ow_oi (ow_wf (o_ws O j) (o_ws O j).2.2.1 ((o_ws O j).2.2.2.2 k)) = nI k then -1 else 100 * nI j + ow_oi (ow_wf (o_ws O j) (o_ws O j).2.2.1 ((o_ws O j).2.2.2.2 k))))) M := q
        rw [if_pos heq] at q'
        exact q'
    · intro i hi ih hno
      have hWi := hO.2.2.2 i (by omega)
      have step : (decide ((o_ws O i).1 = (o_ws O j).1) && (ow_wf (o_ws O i) (o_ws O j).2.2.1 ((o_ws O j).2.2.2.2 k)).isSome) = false → zX11_likeLine_20 G d mc ms Qr Qx 0 (nI j) (nI k) b2 (nI (o_ws O j).1) (nI i + 1) M (0 + 2 + 1) (0 + 12 + 6) := fun hz => by
        rw [nI_1]
        refine ih fun i' hi' => ?_
        rcases Nat.lt_or_ge i' i with h1 | h1
        · exact hno i' h1
        · have : i' = i := by omega
          subst this; exact hz
      refine rX11_likeLine_20 (by omega) (by omega) (ow_n (nI_ge hi (by omega)) ⟨_, _, I.1, rfl, I.off.ob, c_workOf I.off hO (by omega) (by omega) (fun hc => ⟨_, rfl, fun _ => ow_y rfl (step (by simp [hc])), fun y hy => (by cases hy)⟩) (fun a2 hc hw2 => ⟨_, rfl, fun z => (by cases z), fun y hy => ?_⟩)⟩)
      cases hy
      refine ⟨hw2.ob, c_firstLike hw2 hWi hLL hW.1 hL ⟨_, rfl, fun hm1 => ?_, fun hm1 => ?_⟩⟩
      · have hn' := (ow_oi_m1 fun i hi => by have := ow_wf_lt hi; have := hWi.2.1; omega).mp hm1
        exact step (by rw [hn']; simp)
      · have hs' : (ow_wf (o_ws O i) (o_ws O j).2.2.1 ((o_ws O j).2.2.2.2 k)).isSome = true := by
          cases hh : ow_wf (o_ws O i) (o_ws O j).2.2.1 ((o_ws O j).2.2.2.2 k) with
          | none => rw [hh] at hm1; exact absurd rfl hm1
          | some z => rfl
        rw [sp_like, ow_fs_some (i := i) (by simp only [hs', hc]; simp) hno hi] at q
        exact q
  exact key 0 (Nat.zero_le _) fun j hj => absurd hj (Nat.not_lt_zero j)
end OWK
