/-! Part 69: the reference: more questions -/
theorem sp_mx_max (f : Nat → Int32) : ∀ n, (∀ i, i < n → f i ≤ f (sp_mx f n)) ∧ ∀ i, i < sp_mx f n → f i < f (sp_mx f n)
  | 0 => ⟨fun i hi => absurd hi (Nat.not_lt_zero i), fun i hi => absurd hi (Nat.not_lt_zero i)⟩
  | n + 1 => by
    obtain ⟨h1, h2⟩ := sp_mx_max f n
    rw [sp_mx]
    split
    · rename_i hle
      refine ⟨fun i hi => ?_, h2⟩
      rcases Nat.lt_or_ge i n with h | h
      · exact h1 i h
      · have : i = n := by omega
        subst this; exact hle
    · rename_i hle
      have hlt := Int32.not_le.mp hle
      refine ⟨fun i hi => ?_, fun i hi => ?_⟩
      · rcases Nat.lt_or_ge i n with h | h
        · exact Int32.le_of_lt (Int32.lt_of_le_of_lt (h1 i h) hlt)
        · have : i = n := by omega
          subst this; exact Int32.le_refl _
      · exact Int32.lt_of_le_of_lt (h1 i hi) hlt
theorem sp_rank_mx (O : ow_O) (hw : 0 < o_nw O) : sp_rank O (sp_mx (o_ba O) (o_nw O)) = 0 ∧ ∀ k, k < sp_mx (o_ba O) (o_nw O) → 0 < sp_rank O k := by
  obtain ⟨h1, h2⟩ := sp_mx_max (o_ba O) (o_nw O)
  have hlt := sp_mx_lt (o_ba O) (o_nw O) hw
  constructor
  · refine ow_cn_0 fun i hi => ?_
    have h3 := h1 i hi
    rw [decide_eq_false (Int32.not_lt.mpr h3)]
    by_cases h4 : i < sp_mx (o_ba O) (o_nw O)
    · have h5 := h2 i h4
      rw [decide_eq_false (p := o_ba O i = _) (fun z => by rw [z] at h5; exact Int32.lt_irrefl h5)]
      rfl
    · rw [decide_eq_false (p := i < _) h4, Bool.and_false]
      rfl
  · intro k hk
    exact ow_cn_pos.mpr ⟨sp_mx (o_ba O) (o_nw O), hlt, by rw [decide_eq_true (h2 k hk)]; rfl⟩
section MOA
variable {G : kz_G} {d : Nat} {Qr : Option Value → kz_M → Prop} {Qx : String → kz_M → Prop} {M : kz_M} {O : ow_O} {s : Nat → Int32} {rb : Int64} {hn : Nat} {h : Nat → ow_O} {sv : ow_O} {isS : Bool} {er : Nat} {ea : Int32} {n : Nat} {b : Nat → Nat} {l : List Nat}
theorem m_letters {x y : Int32} (I : mo_I M O hn h sv isS er ea n b l s rb) (hO : ow_Ok2 O) (q0 : (∀ j k, j < o_wk O → k < (o_ws O j).2.2.1.2.1 → x = nI j → y = nI k → False) → mo_K M O hn h sv isS er ea n b l 1 (Qr (some (.int 0)))) (q1 : ∀ j k, j < o_wk O → k < (o_ws O j).2.2.1.2.1 → x = nI j → y = nI k → mo_K M O hn h sv isS er ea n b l 0 (Qr (some (.int (nI (ow_lw ((o_ws O j).2.2.1.2.2.1 k))))))) : kz_C G (d + 2) 0 0 mX12_letters [.ref 99, .int x, .int y] M Qr Qx := by
  have I0 := I.th' 0
  have C0 := I.cf 0
  have h9 : upd s 9 0 9 = nI 0 := rfl
  refine rX12_letters_0 ⟨_, I.1, ow_l rfl, ?_⟩
  generalize kz_up M 99 (.inl (11, (mo_fs s rb).set 9 (.int 0))) = M0 at I0 C0 ⊢
  generalize upd s 9 0 = s0 at I0 h9
  obtain ⟨f, g, D, W⟩ := I0.D
  have hwk := hO.1.1.2.2.2.1
  have hnw := hO.1.1.2.2.1
  have ix : ∀ a j : Nat, (OfNat.ofNat a : Int32) + nI j = nI (a + j) := fun a j => nI_add a j
  refine ⟨D.ob, m_noWork D W hO.1 (fun hx => ⟨_, rfl, fun _ => (q0 fun j k hj hk e _ => hx j hj e).fl C0 I0 rfl, fun z => absurd z (by decide)⟩) fun j hj e => ⟨_, rfl, fun z => absurd rfl z, fun _ => ?_⟩⟩
  have hW := hO.1.2.2.2 j hj
  have hn60 := hW.1.2.2.1
  have Q0 : (∀ k, k < (o_ws O j).2.2.1.2.1 → y ≠ nI k) → _ := fun hy => q0 fun j' k hj' hk e' ek => by
    have : j = j' := ow_inj (by omega) (by omega) e e'
    subst this
    exact hy k hk ek
  subst e
  exact ⟨D.ob, m_of (k := 3) D (by omega) (by omega) (W.ww hj).2.2.2.1 ⟨_, rfl, m_in (mo_rng (by omega)).symm ⟨_, rfl, mo_if (by omega) (fun hy => ⟨D.ob, m_fails1 D.1 ⟨_, rfl, fun z => absurd z (by decide), fun _ => (Q0 hy).fl C0 I0 rfl⟩⟩) (fun k hk ek => ⟨D.ob, m_fails0 ⟨_, rfl, fun _ => ⟨D.ob, by subst ek; exact m_word D (by omega) (by omega) (W.wd hj hk) ⟨_, rfl, m_lettersW (hW.1.2.2.2 k hk) ⟨_, rfl, (q1 j k hj hk rfl rfl).go C0 I0 h9⟩⟩⟩, fun z => absurd rfl z⟩⟩)⟩⟩⟩

theorem m_work {x y : Int32} (I : mo_I M O hn h sv isS er ea n b l s rb) (hO : ow_Ok2 O) (q0 : (∀ j, j < o_wk O → x ≠ nI j) → mo_K M O hn h sv isS er ea n b l 1 (Qr (some (.int 0)))) (q1 : ∀ j, j < o_wk O → x = nI j → (∀ k, k < 8 → y ≠ nI k) → mo_K M O hn h sv isS er ea n b l 2 (Qr (some (.int 0)))) (q2 : ∀ j k, j < o_wk O → x = nI j → k < 8 → y = nI k → mo_K M O hn h sv isS er ea n b l 0 (Qr (some (.int (sp_wk (o_ws O j) k))))) : kz_C G (d + 4) 0 0 mX12_work [.ref 99, .int x, .int y] M Qr Qx := by
  have I0 := I.th' 0
  have C0 := I.cf 0
  have h9 : upd s 9 0 9 = nI 0 := rfl
  refine rX12_work_0 ⟨_, I.1, ow_l rfl, ?_⟩
  generalize kz_up M 99 (.inl (11, (mo_fs s rb).set 9 (.int 0))) = M0 at I0 C0 ⊢
  generalize upd s 9 0 = s0 at I0 h9
  obtain ⟨f, g, D, W⟩ := I0.D
  have hwk := hO.1.1.2.2.2.1
  have hnw := hO.1.1.2.2.1
  have ix : ∀ a j : Nat, (OfNat.ofNat a : Int32) + nI j = nI (a + j) := fun a j => nI_add a j
  refine ⟨D.ob, m_noWork D W hO.1 (fun hx => ⟨_, rfl, fun _ => (q0 hx).fl C0 I0 rfl, fun z => absurd z (by decide)⟩) fun j hj e => ⟨_, rfl, fun z => absurd rfl z, fun _ => ?_⟩⟩
  have Q1 := q1 j hj e
  subst e
  refine m_in (mo_rng (n := 8) (by omega)).symm ⟨_, rfl, mo_if (by omega) (fun hy => ⟨D.ob, m_fails1 D.1 ⟨_, rfl, fun z => absurd z (by decide), fun _ => (Q1 hy).fl C0 I0 rfl⟩⟩) (fun k hk ek => ⟨D.ob, m_fails0 ⟨_, rfl, fun _ => ?_, fun z => absurd rfl z⟩⟩)⟩
  subst ek
  rcases (by omega : k = 0 ∨ k = 1 ∨ k = 2 ∨ k = 3 ∨ k = 4 ∨ k = 5 ∨ k = 6 ∨ k = 7) with rfl | rfl | rfl | rfl | rfl | rfl | rfl | rfl
  · exact ow_n (by decide) ⟨D.ob, m_of (k := 0) D (by omega) (by omega) (W.ww hj).1 ⟨_, rfl, (q2 j 0 hj rfl (by omega) rfl).go C0 I0 h9⟩⟩
  · exact ow_n (by decide) ⟨D.ob, m_of (k := 1) D (by omega) (by omega) (W.ww hj).2.1 ⟨_, rfl, (q2 j 1 hj rfl (by omega) rfl).go C0 I0 h9⟩⟩
  · exact ow_n (by decide) ⟨D.ob, m_of (k := 2) D (by omega) (by omega) (W.ww hj).2.2.1 ⟨_, rfl, (q2 j 2 hj rfl (by omega) rfl).go C0 I0 h9⟩⟩
  · exact ow_n (by decide) ⟨D.ob, m_of (k := 3) D (by omega) (by omega) (W.ww hj).2.2.2.1 ⟨_, rfl, (q2 j 3 hj rfl (by omega) rfl).go C0 I0 h9⟩⟩
  · exact ow_n (by decide) ⟨D.ob, m_of (k := 4) D (by omega) (by omega) (W.ww hj).2.2.2.2.1 ⟨_, rfl, (q2 j 4 hj rfl (by omega) rfl).go C0 I0 h9⟩⟩
  · exact ow_y (by decide) (ow_nn rfl ⟨D.ob, m_countingIn D W hO.1 hj ⟨_, rfl, (q2 j 5 hj rfl (by omega) rfl).go C0 I0 h9⟩⟩)
  · exact ow_y (by decide) (ow_yn (by decide) (ow_nn rfl ⟨D.ob, m_paysNow D W hO.1 hj ⟨_, rfl, (q2 j 6 hj rfl (by omega) rfl).go C0 I0 h9⟩⟩))
  · exact ow_y (by decide) (ow_yn (by decide) (ow_yn (by decide) ⟨D.ob, m_distinctIn D W hO.1 hj ⟨_, rfl, (q2 j 7 hj rfl (by omega) rfl).go C0 I0 h9⟩⟩))

theorem m_line {x y z : Int32} (I : mo_I M O hn h sv isS er ea n b l s rb) (hO : ow_Ok2 O) (q0 : (∀ j k, j < o_wk O → k < (o_ws O j).2.2.2.1 → x = nI j → y = nI k → False) → mo_K M O hn h sv isS er ea n b l 1 (Qr (some (.int 0)))) (q1 : ∀ j k, j < o_wk O → x = nI j → k < (o_ws O j).2.2.2.1 → y = nI k → (∀ i, i < 7 → z ≠ nI i) → mo_K M O hn h sv isS er ea n b l 2 (Qr (some (.int 0)))) (q2 : ∀ j k i, j < o_wk O → x = nI j → k < (o_ws O j).2.2.2.1 → y = nI k → i < 7 → z = nI i → mo_K M O hn h sv isS er ea n b l 0 (Qr (some (.int (sp_ln (o_ws O j).2.2.1 ((o_ws O j).2.2.2.2 k) i))))) : kz_C G (d + 4) 0 0 mX12_line [.ref 99, .int x, .int y, .int z] M Qr Qx := by
  have I0 := I.th' 0
  have C0 := I.cf 0
  have h9 : upd s 9 0 9 = nI 0 := rfl
  refine rX12_line_0 ⟨_, I.1, ow_l rfl, ?_⟩
  generalize kz_up M 99 (.inl (11, (mo_fs s rb).set 9 (.int 0))) = M0 at I0 C0 ⊢
  generalize upd s 9 0 = s0 at I0 h9
  obtain ⟨f, g, D, W⟩ := I0.D
  have hwk := hO.1.1.2.2.2.1
  have hnw := hO.1.1.2.2.1
  have ix : ∀ a j : Nat, (OfNat.ofNat a : Int32) + nI j = nI (a + j) := fun a j => nI_add a j
  refine ⟨D.ob, m_noLine D W hO.1 (fun hx => ⟨_, rfl, fun z => absurd z (by decide), fun _ => (q0 hx).fl C0 I0 rfl⟩) fun j k hj e hk ek => ⟨_, rfl, fun _ => ?_, fun z => absurd rfl z⟩⟩
  have Q1 := q1 j k hj e hk ek
  subst e
  subst ek
  have h60 := (hO.1.2.2.2 j hj).2.1
  have hL := ((hO.2.2.2 j hj).2 k hk).1
  refine ⟨fun e2 => ⟨D.ob, m_ofL (k := 0) D (by omega) (by omega) (by omega) (W.ln hj hk).1 ⟨_, rfl, (q2 j k 0 hj rfl hk rfl (by omega) e2).go C0 I0 h9⟩⟩, fun e2 => ⟨D.ob, m_ofL (k := 1) D (by omega) (by omega) (by omega) (W.ln hj hk).2.1 ⟨_, rfl, (q2 j k 1 hj rfl hk rfl (by omega) e2).go C0 I0 h9⟩⟩, fun e2 => ⟨D.ob, m_widthOf D W hO.1 hj hk hL.2.2 ⟨_, rfl, ?_⟩⟩, fun e2 => ⟨D.ob, m_ofL (k := 2) D (by omega) (by omega) (by omega) (W.ln hj hk).2.2.1 ⟨_, rfl, (q2 j k 3 hj rfl hk rfl (by omega) e2).go C0 I0 h9⟩⟩, fun e2 => ⟨D.ob, m_ofL (k := 3) D (by omega) (by omega) (by omega) (W.ln hj hk).2.2.2.1 ⟨_, rfl, (q2 j k 4 hj rfl hk rfl (by omega) e2).go C0 I0 h9⟩⟩, fun e2 => ⟨D.ob, m_ofL (k := 4) D (by omega) (by omega) (by omega) (W.ln hj hk).2.2.2.2 ⟨_, rfl, (q2 j k 5 hj rfl hk rfl (by omega) e2).go C0 I0 h9⟩⟩, fun e2 => ⟨D.ob, m_distinctOf D W hO.1 hj hk ⟨_, rfl, (q2 j k 6 hj rfl hk rfl (by omega) e2).go C0 I0 h9⟩⟩, fun n0 n1 n2 n3 n4 n5 n6 => ⟨_, I0.1, ow_l rfl, (Q1 (ow_7 n0 n1 n2 n3 n4 n5 n6)).fl' C0 I0 rfl⟩⟩
  rw [← hL.1]
  exact (q2 j k 2 hj rfl hk rfl (by omega) e2).go C0 I0 h9

theorem m_entry {x y : Int32} (I : mo_I M O hn h sv isS er ea n b l s rb) (hO : ow_Ok2 O) (q0 : (∀ j, j < o_ne O → x ≠ nI j) → mo_K M O hn h sv isS er ea n b l 1 (Qr (some (.int 0)))) (q1 : ∀ j, j < o_ne O → x = nI j → (∀ k, k < 4 → y ≠ nI k) → mo_K M O hn h sv isS er ea n b l 2 (Qr (some (.int 0)))) (q2 : ∀ j k, j < o_ne O → x = nI j → k < 4 → y = nI k → mo_K M O hn h sv isS er ea n b l 0 (Qr (some (.int (o_le O (4 * j + k)))))) : kz_C G (d + 1) 0 0 mX12_entry [.ref 99, .int x, .int y] M Qr Qx := by
  have I0 := I.th' 0
  have C0 := I.cf 0
  have h9 : upd s 9 0 9 = nI 0 := rfl
  refine rX12_entry_0 ⟨_, I.1, ow_l rfl, ?_⟩
  generalize kz_up M 99 (.inl (11, (mo_fs s rb).set 9 (.int 0))) = M0 at I0 C0 ⊢
  generalize upd s 9 0 = s0 at I0 h9
  obtain ⟨f, g, D, W⟩ := I0.D
  have hne := hO.1.1.2.2.2.2
  refine ⟨_, _, D.1, rfl, _, _, D.2.1, mo_in4, ?_⟩
  rw [W.at4]
  refine m_in (mo_rng (by omega)).symm ⟨_, rfl, mo_if (by omega) (fun hx => ⟨D.ob, m_fails1 D.1 ⟨_, rfl, fun _ => (q0 hx).fl C0 I0 rfl, fun z => absurd z (by decide)⟩⟩) (fun j hj e => ⟨D.ob, m_fails0 ⟨_, rfl, fun z => absurd rfl z, fun _ => ?_⟩⟩)⟩
  have Q1 := q1 j hj e
  subst e
  refine m_in (mo_rng (n := 4) (by omega)).symm ⟨_, rfl, mo_if (by omega) (fun hy => ⟨D.ob, m_fails1 D.1 ⟨_, rfl, fun z => absurd z (by decide), fun _ => (Q1 hy).fl C0 I0 rfl⟩⟩) (fun k hk ek => ⟨D.ob, m_fails0 ⟨_, rfl, fun _ => ?_, fun z => absurd rfl z⟩⟩)⟩
  subst ek
  refine ⟨_, _, D.1, rfl, _, _, D.2.1, ?_⟩
  rw [show (3693 : Int32) + 4 * nI j + nI k = nI (3693 + (4 * j + k)) by rw [show (4 : Int32) * nI j = nI (4 * j) from pk_mul 4 j, show (3693 : Int32) + nI (4 * j) = nI (3693 + 4 * j) from nI_add 3693 _, nI_add, Nat.add_assoc], nI_clamp (by omega), W.le (by omega)]
  exact ⟨vp_in_nI (by omega) (by omega), (q2 j k hj rfl hk rfl).go C0 I0 h9⟩

theorem m_booked {x y z : Int32} (I : mo_I M O hn h sv isS er ea n b l s rb) (hO : ow_Ok2 O) (q0 : (∀ j, j < o_nw O → x ≠ nI j) → mo_K M O hn h sv isS er ea n b l 1 (Qr (some (.int 0)))) (q1 : ∀ j, j < o_nw O → x = nI j → mo_K M O hn h sv isS er ea n b l 0 (Qr (some (.int (o_bkd O j y z))))) : kz_C G (d + 2) 0 0 mX12_booked [.ref 99, .int x, .int y, .int z] M Qr Qx := by
  have I0 := I.th' 0
  have C0 := I.cf 0
  have h9 : upd s 9 0 9 = nI 0 := rfl
  refine rX12_booked_0 ⟨_, I.1, ow_l rfl, ?_⟩
  generalize kz_up M 99 (.inl (11, (mo_fs s rb).set 9 (.int 0))) = M0 at I0 C0 ⊢
  generalize upd s 9 0 = s0 at I0 h9
  obtain ⟨f, g, D, W⟩ := I0.D
  have hwk := hO.1.1.2.2.2.1
  have hnw := hO.1.1.2.2.1
  have ix : ∀ a j : Nat, (OfNat.ofNat a : Int32) + nI j = nI (a + j) := fun a j => nI_add a j
  have hne := hO.1.1.2.2.2.2
  refine ⟨D.ob, m_noWriter D W hO.1 (fun hx => ⟨_, rfl, fun z => absurd z (by decide), fun _ => (q0 hx).fl C0 I0 rfl⟩) fun j hj e => ⟨_, rfl, fun _ => ?_, fun z => absurd rfl z⟩⟩
  have Q1 := q1 j hj e
  subst e
  have ad : ∀ a b : Nat, nI a + (OfNat.ofNat b : Int32) = nI (a + b) := fun a b => nI_add a b
  have bd : (3693 : Int32) + 4 * nI (o_ne O) = nI (3693 + 4 * o_ne O) := by rw [show (4 : Int32) * nI (o_ne O) = nI (4 * o_ne O) from pk_mul 4 _]; exact nI_add 3693 _
  refine ow_loop (P := fun i => zX12_booked_23 G d Qr Qx 99 (nI j) y z (ow_sm (fun i => if o_le O (4 * i + 1) = nI j ∧ ¬ o_le O (4 * i) < y ∧ ¬ z < o_le O (4 * i) then o_le O (4 * i + 3) else 0) i) (nI (3693 + 4 * i)) M0) (o_ne O) ?_ ?_ 0 (Nat.zero_le _)
  · refine rX12_booked_23 ⟨_, _, D.1, rfl, _, _, D.2.1, mo_in4, ?_⟩
    rw [W.at4, bd]
    exact ow_y (nI_le (Nat.le_refl _) (by omega)) (Q1.go C0 I0 h9)
  · intro i hi ih
    rw [ow_sm, show 3693 + 4 * (i + 1) = 3693 + 4 * i + 4 by omega] at ih
    refine rX12_booked_23 ⟨_, _, D.1, rfl, _, _, D.2.1, mo_in4, ?_⟩
    rw [W.at4, bd]
    refine ow_n (nI_ge (by omega) (by omega)) ⟨_, _, D.1, rfl, _, _, D.2.1, ?_⟩
    have a1 : f (3693 + 4 * i + 1) = o_le O (4 * i + 1) := by rw [Nat.add_assoc]; exact W.le (by omega)
    have a0 : f (3693 + 4 * i) = o_le O (4 * i) := W.le (by omega)
    have a3 : f (3693 + 4 * i + 3) = o_le O (4 * i + 3) := by rw [Nat.add_assoc]; exact W.le (by omega)
    rw [ad _ 1, nI_clamp (by omega), a1]
    refine ⟨vp_in_nI (by omega) (by omega), fun hv => ?_, fun hv => ⟨_, _, D.1, rfl, _, _, D.2.1, vp_in_nI (by omega) (by omega), ?_⟩⟩
    · rw [ad _ 4, Int32.add_zero]
      rw [if_neg (fun z => hv z.1), Int32.add_zero] at ih
      exact ih
    · rw [nI_clamp (by omega), a0]
      refine m_in rfl ⟨_, rfl, ow_if0 (fun hz => ?_) (fun hz => ⟨_, _, D.1, rfl, _, _, D.2.1, ?_⟩)⟩
      · rw [ad _ 4, Int32.add_zero]
        rw [if_neg (fun t => by rw [decide_eq_false t.2.1, decide_eq_false t.2.2] at hz; cases hz), Int32.add_zero] at ih
        exact ih
      · rw [ad _ 3, nI_clamp (by omega), a3, ad _ 4]
        have h2 := (Bool.and_eq_true _ _ ▸ hz : _ ∧ _)
        have h3 : ¬ o_le O (4 * i) < y := by simpa using h2.1
        have h4 : ¬ z < o_le O (4 * i) := by simpa using h2.2
        rw [if_pos ⟨hv, h3, h4⟩] at ih
        exact ⟨vp_in_nI (by omega) (by omega), ih⟩

theorem m_richest {c : Nat} (I : mo_I M O hn h sv isS er ea n b l s rb) (hO : ow_Ok2 O) (hB : ow_Bd O c) (hc : c < 2 ^ 30) (q : mo_K M O hn h sv isS er ea n b l 0 (Qr (some (.int (nI (sp_mx (o_ba O) (o_nw O))))))) : kz_C G (d + 1) 0 0 mX12_richest [.ref 99] M Qr Qx := by
  have I0 := I.th' 0
  have C0 := I.cf 0
  have h9 : upd s 9 0 9 = nI 0 := rfl
  refine rX12_richest_0 ⟨_, I.1, ow_l rfl, ?_⟩
  generalize kz_up M 99 (.inl (11, (mo_fs s rb).set 9 (.int 0))) = M0 at I0 C0 ⊢
  generalize upd s 9 0 = s0 at I0 h9
  obtain ⟨f, g, D, W⟩ := I0.D
  have hwk := hO.1.1.2.2.2.1
  have hnw := hO.1.1.2.2.1
  have ix : ∀ a j : Nat, (OfNat.ofNat a : Int32) + nI j = nI (a + j) := fun a j => nI_add a j
  obtain ⟨r1, r2⟩ := sp_rank_mx O hO.2.2.1
  have hlt := sp_mx_lt (o_ba O) (o_nw O) hO.2.2.1
  refine ow_loop (P := fun k => zX12_richest_7 G d Qr Qx 99 (nI k) M0) (sp_mx (o_ba O) (o_nw O)) ?_ ?_ 0 (Nat.zero_le _)
  · refine rX12_richest_7 ⟨D.ob, m_aheadOf D W hO.1 hB hc hlt ⟨_, rfl, ?_⟩⟩
    rw [r1]
    exact ow_y (by decide) (q.go C0 I0 h9)
  · intro k hk ih
    have hle : sp_rank O k ≤ o_nw O := ow_cn_le _ _
    have hp := r2 k hk
    refine rX12_richest_7 ⟨D.ob, m_aheadOf D W hO.1 hB hc (by omega) ⟨_, rfl, pk_le (sp_rank O k) 0 (fun z => absurd z (by omega)) (fun _ => ?_) rfl rfl⟩⟩
    rw [nI_1]; exact ih

theorem m_rank {c : Nat} {x : Int32} (I : mo_I M O hn h sv isS er ea n b l s rb) (hO : ow_Ok2 O) (hB : ow_Bd O c) (hc : c < 2 ^ 30) (q0 : (∀ j, j < o_nw O → x ≠ nI j) → mo_K M O hn h sv isS er ea n b l 1 (Qr (some (.int 0)))) (q1 : ∀ j, j < o_nw O → x = nI j → mo_K M O hn h sv isS er ea n b l 0 (Qr (some (.int (nI (sp_rank O j)))))) : kz_C G (d + 2) 0 0 mX12_rank [.ref 99, .int x] M Qr Qx := by
  have I0 := I.th' 0
  have C0 := I.cf 0
  have h9 : upd s 9 0 9 = nI 0 := rfl
  refine rX12_rank_0 ⟨_, I.1, ow_l rfl, ?_⟩
  generalize kz_up M 99 (.inl (11, (mo_fs s rb).set 9 (.int 0))) = M0 at I0 C0 ⊢
  generalize upd s 9 0 = s0 at I0 h9
  obtain ⟨f, g, D, W⟩ := I0.D
  refine ⟨D.ob, m_noWriter D W hO.1 (fun hx => ⟨_, rfl, fun z => absurd z (by decide), fun _ => (q0 hx).fl C0 I0 rfl⟩) fun j hj e => ⟨_, rfl, fun _ => ?_, fun z => absurd rfl z⟩⟩
  subst e
  exact ⟨D.ob, m_aheadOf D W hO.1 hB hc hj ⟨_, rfl, (q1 j hj rfl).go C0 I0 h9⟩⟩

theorem m_meanWidth {x : Int32} (I : mo_I M O hn h sv isS er ea n b l s rb) (hO : ow_Ok2 O) (q0 : (∀ j, j < o_wk O → x ≠ nI j) → mo_K M O hn h sv isS er ea n b l 1 (Qr (some (.double FP.dconst0)))) (q1 : ∀ j, j < o_wk O → x = nI j → mo_K M O hn h sv isS er ea n b l 0 (Qr (some (.double (FP.ddiv (FP.i2d (nI (sp_mw (o_ws O j) (o_ws O j).2.2.2.1))) (FP.i2d (nI (o_ws O j).2.2.2.1))))))) : kz_C G (d + 4) 0 0 mX12_meanWidth [.ref 99, .int x] M Qr Qx := by
  have I0 := I.th' 0
  have C0 := I.cf 0
  have h9 : upd s 9 0 9 = nI 0 := rfl
  refine rX12_meanWidth_0 ⟨_, I.1, ow_l rfl, ?_⟩
  generalize kz_up M 99 (.inl (11, (mo_fs s rb).set 9 (.int 0))) = M0 at I0 C0 ⊢
  generalize upd s 9 0 = s0 at I0 h9
  obtain ⟨f, g, D, W⟩ := I0.D
  have hwk := hO.1.1.2.2.2.1
  have hnw := hO.1.1.2.2.1
  have ix : ∀ a j : Nat, (OfNat.ofNat a : Int32) + nI j = nI (a + j) := fun a j => nI_add a j
  refine ⟨D.ob, m_noWork D W hO.1 (fun hx => ⟨_, rfl, fun z => absurd z (by decide), fun _ => (q0 hx).fl C0 I0 rfl⟩) fun j hj e => ⟨_, rfl, fun _ => ?_, fun z => absurd rfl z⟩⟩
  subst e
  have h60 := (hO.1.2.2.2 j hj).2.1
  obtain ⟨w1, w2⟩ := hO.2.2.2 j hj
  have hb : sp_mw (o_ws O j) (o_ws O j).2.2.2.1 ≤ 30 * (o_ws O j).2.2.2.1 := ow_sn_le fun k hk => (w2 k hk).1.2.1
  refine ow_loop (P := fun i => zX12_meanWidth_19 G d Qr Qx 99 (nI j) (nI (sp_mw (o_ws O j) i)) (nI i) M0) (o_ws O j).2.2.2.1 ?_ ?_ 0 (Nat.zero_le _)
  · exact rX12_meanWidth_19 ⟨D.ob, m_of (k := 4) D (by omega) (by omega) (W.ww hj).2.2.2.2.1 ⟨_, rfl, ow_y (nI_le (Nat.le_refl _) (by omega)) ⟨D.ob, m_of (k := 4) D (by omega) (by omega) (W.ww hj).2.2.2.2.1 ⟨_, rfl, fq_n64 (fq_ddiv (by omega) (by omega) (by omega)), (q1 j hj rfl).go C0 I0 h9⟩⟩⟩⟩
  · intro i hi ih
    refine rX12_meanWidth_19 ⟨D.ob, m_of (k := 4) D (by omega) (by omega) (W.ww hj).2.2.2.2.1 ⟨_, rfl, ow_n (nI_ge hi (by omega)) ⟨D.ob, m_widthOf D W hO.1 hj hi (w2 i hi).1.2.2 ⟨_, rfl, ?_⟩⟩⟩⟩
    rw [nI_1, nI_add]
    exact ih

theorem m_caughtShare {x : Int32} (I : mo_I M O hn h sv isS er ea n b l s rb) (hO : ow_Ok2 O) (q0 : (∀ j, j < o_nw O → x ≠ nI j) → mo_K M O hn h sv isS er ea n b l 1 (Qr (some (.float FP.fconst0)))) (q1 : ∀ j, j < o_nw O → x = nI j → mo_K M O hn h sv isS er ea n b l 0 (Qr (some (.float (if o_ln O (fun w => decide (w = j)) 0 = 0 then FP.fconst0 else FP.fdiv (FP.i2f (nI (o_ln O (fun w => decide (w = j)) 2))) (FP.i2f (nI (o_ln O (fun w => decide (w = j)) 0)))))))) : kz_C G (d + 4) 0 0 mX12_caughtShare [.ref 99, .int x] M Qr Qx := by
  have I0 := I.th' 0
  have C0 := I.cf 0
  have h9 : upd s 9 0 9 = nI 0 := rfl
  refine rX12_caughtShare_0 ⟨_, I.1, ow_l rfl, ?_⟩
  generalize kz_up M 99 (.inl (11, (mo_fs s rb).set 9 (.int 0))) = M0 at I0 C0 ⊢
  generalize upd s 9 0 = s0 at I0 h9
  obtain ⟨f, g, D, W⟩ := I0.D
  have hwk := hO.1.1.2.2.2.1
  have hnw := hO.1.1.2.2.1
  have ix : ∀ a j : Nat, (OfNat.ofNat a : Int32) + nI j = nI (a + j) := fun a j => nI_add a j
  refine ⟨D.ob, m_noWriter D W hO.1 (fun hx => ⟨_, rfl, fun z => absurd z (by decide), fun _ => (q0 hx).fl C0 I0 rfl⟩) fun j hj e => ⟨_, rfl, fun _ => ?_, fun z => absurd rfl z⟩⟩
  have Q1 := q1 j hj e
  subst e
  have h0 := o_ln_le hO.1 (fun w => decide (w = j)) 0
  have h2 := o_ln_le hO.1 (fun w => decide (w = j)) 2
  refine ⟨D.ob, m_linesInAll (o := some j) D W hO.1 (fun v hv => by cases hv; omega) ⟨_, rfl, (pk_eq (o_ln O (fun w => decide (w = j)) 0) 0 (fun hz => ?_) (fun hz => ⟨D.ob, m_caughtOf D W hO (by omega) ⟨_, rfl, fq_n32 (fq_fdiv (n := o_ln O (fun w => decide (w = j)) 0) (by omega) (by omega) (by omega)), ?_⟩⟩) rfl rfl).symm⟩⟩
  · rw [if_pos hz] at Q1
    exact Q1.go C0 I0 h9
  · rw [if_neg hz] at Q1
    exact Q1.go C0 I0 h9

theorem m_outputByte {x : Int32} (I : mo_I M O hn h sv isS er ea n b l s rb) (hO : ow_Ok2 O) (q0 : (∀ j, j < l.length → x ≠ nI j) → mo_K M O hn h sv isS er ea n b l 0 (Qr (some (.int (-1))))) (q1 : ∀ j, j < l.length → x = nI j → mo_K M O hn h sv isS er ea n b l 0 (Qr (some (.int (nI (l.getD j 0)))))) : kz_C G (d + 1) 0 0 mX12_outputByte [.ref 99, .int x] M Qr Qx := by
  have I0 := I.th' 0
  have C0 := I.cf 0
  have h9 : upd s 9 0 9 = nI 0 := rfl
  refine rX12_outputByte_0 ⟨_, I.1, ow_l rfl, ?_⟩
  generalize kz_up M 99 (.inl (11, (mo_fs s rb).set 9 (.int 0))) = M0 at I0 C0 ⊢
  generalize upd s 9 0 = s0 at I0 h9
  obtain ⟨f, g, D, W⟩ := I0.D
  obtain ⟨f2, a1, a2, a3⟩ := I0.2.2.2.2.2.2.2.2
  refine ⟨_, _, I0.1, rfl, ?_⟩
  rw [I0.2.1.2.2.2.2.2]
  refine m_in (mo_rng (by omega)).symm ⟨_, rfl, (mo_if (by omega) (fun hx => (q0 hx).go C0 I0 h9) (fun j hj e => ⟨_, _, I0.1, rfl, _, _, a1, ?_⟩)).symm⟩
  subst e
  rw [nI_clamp (by omega), a3 j hj]
  exact ⟨vp_in_nI (by omega) (by omega), (q1 j hj rfl).go C0 I0 h9⟩

end MOA
