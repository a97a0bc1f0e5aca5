/-! Part 99: the law's loop and its start -/
theorem nI_sub6 {n : Nat} (h : n ≤ 3072) : (Int32.ofNat n - 6).toInt = (n : Int) - 6 := by
  have e : (Int32.ofNat n).toInt = n := by
    rw [Int32.toInt_ofNat_of_lt (by omega)]
  rw [Int32.toInt_sub, e]
  show (((n : Int) - 6)).bmod (2 ^ 32) = _
  rw [Int.bmod_eq_of_le (by omega) (by omega)]
theorem lw_end {n i : Nat} (h : n ≤ 3072) (hi : i ≤ 4000) : ¬ (Int32.ofNat n - 6 < nI i) ↔ i + 6 ≤ n := by
  have e : (nI i).toInt = i := by
    show (Int32.ofNat i).toInt = i
    rw [Int32.toInt_ofNat_of_lt (by omega)]
  rw [Int32.lt_iff_toInt_lt, nI_sub6 h, e]
  omega
section LWL
variable {G : kz_G} {N : Nat} {xs : Nat → Int32} {d mc ms : Nat} {Qr : Option Value → kz_M → Prop} {Qx : String → kz_M → Prop} {x0 : Nat} {M : kz_M} {c sl : Nat}
theorem lw_loop (hG : kz_stat G) (hN : kz_nc G) (hX : va_X (G.2.2.2 x0) N xs G.2.2.1 G.2.2.1.heap) (hb : G.2.2.2 x0 < G.2.2.1.heap.size) (hL : N ≤ 3072) (q : ∀ M, Qr (some (.int 1)) M) (c0 s0 : Nat) (hc : c0 + 67 * 513 ≤ mc) (hs : s0 + 619 * 513 ≤ ms) : ∀ f k M c sl, k + f = 513 → lw_J M k → c ≤ c0 + 67 * k → sl ≤ s0 + 619 * k → zL_law_28 G d mc ms Qr Qx x0 0 99 114 115 (nI (6 * k)) M c sl := by
  intro f
  induction f with
  | zero =>
    intro k M c sl hk J h1 h2
    refine rL_law_28 (by omega) (by omega) hX hb ⟨fun _ => q M, fun z => ?_⟩
    have z' := (lw_end hL (by omega)).mp z
    omega
  | succ f ih =>
    intro k M c sl hk J h1 h2
    refine rL_law_28 (by omega) (by omega) hX hb ⟨fun _ => q M, fun z => ?_⟩
    have z' := (lw_end hL (by omega)).mp z
    have hv : ∀ i : Nat, i < 6 → vp_in (nI (6 * k) + nI i) N := fun i hi => by
      rw [nI_add]
      exact vp_in_nI (by omega) (by omega)
    have K : ∀ M' c' sl', lw_J M' (k + 1) → c' ≤ c + 67 → sl' ≤ sl + 619 → zL_law_2913 G d mc ms Qr Qx x0 0 99 114 115 (nI (6 * k)) M' c' sl' := fun M' c' sl' J' g1 g2 => by
      refine rL_law_2913 (by omega) (by omega) hX hb ?_
      have e : nI (6 * k) + 6 = nI (6 * (k + 1)) := by
        show nI (6 * k) + nI 6 = _
        rw [nI_add]
        rfl
      rw [e]
      have a1 : k + 1 + f = 513 := by omega
      have a2 : c' ≤ c0 + 67 * (k + 1) := by
        have e1 : 67 * (k + 1) = 67 * k + 67 := Nat.mul_succ 67 k
        rw [e1, ← Nat.add_assoc]
        exact Nat.le_trans g1 (Nat.add_le_add_right h1 67)
      have a3 : sl' ≤ s0 + 619 * (k + 1) := by
        have e1 : 619 * (k + 1) = 619 * k + 619 := Nat.mul_succ 619 k
        rw [e1, ← Nat.add_assoc]
        exact Nat.le_trans g2 (Nat.add_le_add_right h2 619)
      exact ih (k + 1) M' c' sl' a1 J' a2 a3
    have gc : c + 67 ≤ mc := by omega
    have gs : sl + 619 ≤ ms := by omega
    have gk : k < 600 := by omega
    refine ⟨vp_in_nI (by omega) (by omega), fun _ => lw_appendInput hG hN gc gs hX hb hv gk J K, fun _ => lw_truncateInput hG hN gc gs hX hb hv gk J K, fun _ => lw_loadOffice hG hN gc gs hX hb hv gk J K, fun _ => lw_errorCode hG hN gc gs hX hb hv gk J K, fun _ => lw_errorOffset hG hN gc gs hX hb hv gk J K, fun _ => lw_count hG hN gc gs hX hb hv gk J K, fun _ => lw_setting hG hN gc gs hX hb hv gk J K, fun _ => lw_writer hG hN gc gs hX hb hv gk J K, fun _ => lw_work hG hN gc gs hX hb hv gk J K, fun _ => lw_line hG hN gc gs hX hb hv gk J K, fun _ => lw_likeLine hG hN gc gs hX hb hv gk J K, fun _ => lw_letters hG hN gc gs hX hb hv gk J K, fun _ => lw_uses hG hN gc gs hX hb hv gk J K, fun _ => lw_favourite hG hN gc gs hX hb hv gk J K, fun _ => lw_common hG hN gc gs hX hb hv gk J K, fun _ => lw_newWords hG hN gc gs hX hb hv gk J K, fun _ => lw_widest hG hN gc gs hX hb hv gk J K, fun _ => lw_copiedFrom hG hN gc gs hX hb hv gk J K, fun _ => lw_entry hG hN gc gs hX hb hv gk J K, fun _ => lw_booked hG hN gc gs hX hb hv gk J K, fun _ => lw_richest hG hN gc gs hX hb hv gk J K, fun _ => lw_rank hG hN gc gs hX hb hv gk J K, fun _ => lw_meanWidth hG hN gc gs hX hb hv gk J K, fun _ => lw_caughtShare hG hN gc gs hX hb hv gk J K, fun _ => lw_linesIf hG hN gc gs hX hb hv gk J K, fun _ => lw_payIf hG hN gc gs hX hb hv gk J K, fun _ => lw_bestMeasure hG hN gc gs hX hb hv gk J K, fun _ => lw_wouldCount hG hN gc gs hX hb hv gk J K, fun _ => lw_wouldPay hG hN gc gs hX hb hv gk J K, fun _ => lw_countsIf hG hN gc gs hX hb hv gk J K, fun _ => lw_whyNot hG hN gc gs hX hb hv gk J K, fun _ => lw_hopes hG hN gc gs hX hb hv gk J K, fun _ => lw_longestRun hG hN gc gs hX hb hv gk J K, fun _ => lw_submit hG hN gc gs hX hb hv gk J K, fun _ => lw_appeal hG hN gc gs hX hb hv gk J K, fun _ => lw_payOut hG hN gc gs hX hb hv gk J K, fun _ => lw_advance hG hN gc gs hX hb hv gk J K, fun _ => lw_addWriter hG hN gc gs hX hb hv gk J K, fun _ => lw_endow hG hN gc gs hX hb hv gk J K, fun _ => lw_pass hG hN gc gs hX hb hv gk J K, fun _ => lw_set hG hN gc gs hX hb hv gk J K, fun _ => lw_undo hG hN gc gs hX hb hv gk J K, fun _ => lw_printLine hG hN gc gs hX hb hv gk J K, fun _ => lw_printWork hG hN gc gs hX hb hv gk J K, fun _ => lw_printBalances hG hN gc gs hX hb hv gk J K, fun _ => lw_outputByte hG hN gc gs hX hb hv gk J K, fun _ => lw_saveState hG hN gc gs hX hb hv gk J K, fun _ => lw_restoreState hG hN gc gs hX hb hv gk J K, fun _ _ _ _ _ _ _ _ _ _ _ _ _ _ _ _ _ _ _ _ _ _ _ _ _ _ _ _ _ _ _ _ _ _ _ _ _ _ _ _ _ _ _ _ _ _ _ _ => ?_⟩
    obtain ⟨O, hn, h, sv, isS, er, ea, n, b, l, s, rb, CI, MI, ok, ho⟩ := J
    exact K M c sl ⟨O, hn, h, sv, isS, er, ea, n, b, l, s, rb, CI, MI, ok.mono (by omega), ho⟩ (by omega) (by omega)
theorem lw_C0 {M M1 : kz_M} (h : ow_C0 M) (K : ow_Kp M M1) (g : ∀ k, k < 99 → M1.1 k = M.1 k) (e : ow_K ≤ M1.2) : ow_CI M1 o_1 0 (fun _ => o_0) o_0 false 0 (-1) 0 (fun _ => 0) [] := by
  obtain ⟨h2, h0, h3, h4, h5, h6, h7, h8, h9⟩ := h
  exact ⟨(g 0 (by omega)).trans h0, h3.mv (g 1 (by omega)) (g 2 (by omega)), h4.mv (g 3 (by omega)) (g 4 (by omega)), h5.mv K fun k h1 h2 => g k (by omega), h6.mv K fun k h1 h2 => g k (by omega), h7.mv K fun k hk => g k (by have := hk.2; omega), ⟨_, _, _, _, _, h8.mv K fun k hk => g k (by have := hk.2; omega)⟩, ⟨_, _, h9.mv K (g 97 (by omega)) (g 98 (by omega))⟩, e⟩
theorem lw_start (hG : kz_stat G) (hN : kz_nc G) (hX : va_X (G.2.2.2 x0) N xs G.2.2.1 G.2.2.1.heap) (hb : G.2.2.2 x0 < G.2.2.1.heap.size) (hL : N ≤ 3072) (q : ∀ M, Qr (some (.int 1)) M) (hM : M.2 = 0) (hc : 120 + 67 * 513 ≤ mc) (hs : 60000 + 619 * 513 ≤ ms) : zL_law_0 G d mc ms Qr Qx x0 M 0 0 := by
  refine rL_law_0 (by omega) (by omega) hX hb ⟨by omega, by omega, 98, 3564, by omega, by omega, ?_⟩
  rw [hM]
  have h0 : (kz_nw M (.inl (10, [.null, .null, .null, .null, .null, .null, .null, .int 0, .int 0, .int 0]))).1 0 = some (.inl (10, [.null, .null, .null, .null, .null, .null, .null, .int 0, .int 0, .int 0])) := if_pos hM.symm
  have h2 : (kz_nw M (.inl (10, [.null, .null, .null, .null, .null, .null, .null, .int 0, .int 0, .int 0]))).2 = 1 := congrArg (· + 1) hM
  refine c_make hG h0 h2 (by omega) (by omega) fun M2 C0 => ⟨rfl, by omega, by omega, fun M6 e6 => ⟨14, 50563, by omega, by omega, ?_⟩⟩
  have m2 : M2.2 = 99 := C0.1
  rw [m2]
  refine kz_Cfr fun hf => ?_
  have m6 : M6.2 = 100 := by rw [e6]; exact congrArg (· + 1) m2
  have n6 : ∀ k, k ≠ 99 → M6.1 k = M2.1 k := fun k hk => by rw [e6]; exact if_neg (by omega)
  refine m_make (by rw [e6]; exact if_pos m2.symm) m6 (by omega) (by omega) fun M7 s7 m7 c7 I7 _ => ⟨rfl, 1, by decide, rfl, by decide, by omega, by omega, 1, by decide, rfl, by decide, by omega, by omega, ?_⟩
  rw [kz_nw_2, m7]
  refine lw_loop hG hN hX hb hL q 120 60000 hc hs 513 0 _ _ _ rfl ?_ (by omega) (by omega)
  have e8 : ∀ k, k < 114 → (kz_nw (kz_nw M7 (.inr (.long, 1, .inr (.inl (fun _ => 0))))) (.inr (.double, 1, .inr (.inr (.inr (.inl (fun _ => 0))))))).1 k = M7.1 k := fun k hk => (kz_nw_ne (by rw [kz_nw_2]; omega)).trans (kz_nw_ne (by omega))
  refine ⟨o_1, 0, _, o_0, false, 0, -1, 0, _, [], s7, 0, lw_C0 C0 ?_ ?_ ?_, I7.cl fun k h1 h2 => e8 k h2, ⟨mo_ok_1 _, fun i hi => absurd hi (Nat.not_lt_zero i), o_0_ok, fun z => by cases z⟩, ⟨fun _ => 0, ?_⟩, ⟨fun _ => 0, ?_⟩⟩
  · intro k x hk he
    have hk' : 116 ≤ k := hk
    rw [← n6 k (by omega)] at he
    have := hf k x he
    omega
  · intro k hk
    exact (e8 k (by omega)).trans ((c7 k hk).trans (n6 k (by omega)))
  · show 116 ≤ M7.2 + 1 + 1
    omega
  · exact (kz_nw_ne (by rw [kz_nw_2]; omega)).trans (if_pos m7.symm)
  · exact if_pos (by rw [kz_nw_2, m7])
end LWL
