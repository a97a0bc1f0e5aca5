/-! Part 68: the law's cells, parts of a cell, its lines -/
/-- a part of a cell, as a number -/
def jbt (x : Int32) (f m : Nat) : Nat := (Int32.toUInt32 x >>> UInt32.ofNat f).toNat % 2 ^ m
theorem jbt_lt (x : Int32) (f m : Nat) : jbt x f m < 2 ^ m := Nat.mod_lt _ (Nat.two_pow_pos m)
theorem jbm : ∀ m, m < 9 → ((1 : Int32) <<< (nI m &&& 31)) - 1 = nI (2 ^ m - 1) := by decide +kernel
theorem jbf : ∀ f, f < 32 → (Int32.toUInt32 (nI f) &&& Int32.toUInt32 31) = UInt32.ofNat f := by decide +kernel
theorem jbx : ∀ m, m < 9 → 2 ^ m - 1 < 2 ^ 32 := by decide
theorem jba (u : UInt32) (m : Nat) (hm : m < 9) : u.toInt32 &&& nI (2 ^ m - 1) = nI (u.toNat % 2 ^ m) := by
  apply Int32.toBitVec_inj.mp
  apply BitVec.eq_of_toNat_eq
  have h1 := jbx m hm
  have h2 : u.toNat % 2 ^ m < 2 ^ 32 := Nat.lt_of_lt_of_le (Nat.mod_lt _ (Nat.two_pow_pos m)) (by omega)
  show (u.toBitVec &&& BitVec.ofNat 32 (2 ^ m - 1)).toNat = (BitVec.ofNat 32 (u.toNat % 2 ^ m)).toNat
  rw [BitVec.toNat_and, BitVec.toNat_ofNat, BitVec.toNat_ofNat, Nat.mod_eq_of_lt h1, Nat.mod_eq_of_lt h2, Nat.and_two_pow_sub_one_eq_mod]
  rfl
/-- the four words -/
def jc (q : Nat) : Nat := [34, 1091, 4, ((((((((1 * 32 + 2) * 32 + 3) * 32 + 4) * 32 + 5) * 32 + 6) * 32 + 7) * 32 + 8) * 32 + 9)].getD q 0
def jlt (q : Nat) : Nat := [2, 3, 1, 9].getD q 0
theorem jc_inj : ∀ q, q < 4 → ∀ p, p < 4 → lN (jc q) = lN (jc p) → q = p := by decide +kernel
theorem jc_lw : ∀ q, q < 4 → ow_lw (lN (jc q)) = jlt q := by decide +kernel
theorem jlt_b : ∀ q, q < 4 → 1 ≤ jlt q ∧ jlt q ≤ 9 := by decide
theorem jc_ok : ∀ q, q < 4 → 0 < jc q ∧ jc q < 2 ^ 60 := by decide +kernel
/-- a row's words are those of a script -/
def jFw (f : Nat → Int32) (w : Nat → Int64) (a n : Nat) : Prop := ∀ k, k < n → ∃ q, q < 4 ∧ f k = nI q ∧ w (a + k) = lN (jc q)
/-- a line of the law's -/
def jLn (M : kz_M) (a : Nat) (s : ow_S) (l : ow_L) : Prop := ∃ aw f, M.1 a = some (.inl (11, [.ref aw, .int (nI (l.2.1 - l.1)), .int l.2.2.1, .int l.2.2.2.1, .int (nI l.2.2.2.2.1), .int (nI l.2.2.2.2.2)])) ∧ M.1 aw = some (.inr (.int, 20, .inl f)) ∧ (f 100000 = 1 ∧ l.2.1 < 2 ^ 20 ∧ 99 ≤ aw ∧ 99 ≤ a) ∧ (l.1 ≤ l.2.1 ∧ l.2.1 ≤ l.1 + 20 ∧ jFw f s.2.2.1 l.1 (l.2.1 - l.1))
theorem jLn.bd {M : kz_M} {a : Nat} {s : ow_S} {l : ow_L} (h : jLn M a s l) : l.2.1 < 2 ^ 20 := by
  obtain ⟨aw, f, -, -, h, -⟩ := h
  exact h.2.1
theorem jLn.ob {M : kz_M} {a : Nat} {s : ow_S} {l : ow_L} (h : jLn M a s l) : ∃ fs, M.1 a = some (.inl (11, fs)) := by
  obtain ⟨aw, f, h, -⟩ := h
  exact ⟨_, h⟩
section JLN
variable {G : kz_G} {d mc ms : Nat} {Qr : Option Value → kz_M → Prop} {Qx : String → kz_M → Prop} {M : kz_M}
theorem c_bits {x y z : Int32} {f m : Nat} (hy : y = nI f) (hz : z = nI m) (hf : f < 32) (hm : m < 9) (Q : Qr (some (.int (nI (jbt x f m)))) M) : kz_C G d 0 0 mL_bits [.int x, .int y, .int z] M Qr Qx := by
  subst hy hz
  refine rL_bits_0 ?_
  rw [jbm m hm, jbf f hf, jba _ m hm]
  exact Q
theorem c_cell {p k N : Nat} {xs : Nat → Int32} {y : Int32} (hy : y = nI k) (hX : va_X (G.2.2.2 p) N xs G.2.2.1 G.2.2.1.heap) (hbs : G.2.2.2 p < G.2.2.1.heap.size) (hN : N < 2 ^ 31) (hk : k < 1000) (Q : ∀ x, Qr (some (.int x)) M) : kz_C G d 0 0 mL_cell [.retAddr p, .int y] M Qr Qx := by
  subst hy
  refine rL_cell_0 hX hbs ⟨fun _ => Q _, fun hz => ⟨vp_in_nI ?_ hN, Q _⟩⟩
  rcases Nat.lt_or_ge k N with g | g
  · exact g
  · exact absurd (nI_le g (by omega)) hz
theorem c_letters {q : Nat} (hq : q < 4) (Q : Qr (some (.int (nI (jlt q)))) M) : kz_C G d 0 0 mL_letters [.int (nI q)] M Qr Qx := by
  have hc : q = 0 ∨ q = 1 ∨ q = 2 ∨ q = 3 := by omega
  rcases hc with rfl | rfl | rfl | rfl
  · exact rL_letters_0 (ow_nn rfl Q)
  · exact rL_letters_0 (ow_yn (by decide) (ow_nn rfl Q))
  · exact rL_letters_0 (ow_yn (by decide) (ow_yn (by decide) (ow_nn rfl Q)))
  · exact rL_letters_0 (ow_yn (by decide) (ow_yn (by decide) (ow_yn (by decide) Q)))
theorem c_many {a q : Nat} {s : ow_S} {l : ow_L} (h : jLn M a s l) (hq : q < 4) (Q : Qr (some (.int (nI (ow_tm s.2.2.1 (lN (jc q)) l.1 l.2.1)))) M) : kz_C G d 0 0 mL_many [.ref a, .int (nI q)] M Qr Qx := by
  obtain ⟨aw, f, h1, h2, -, h3, h4, h5⟩ := h
  refine rL_many_0 ?_
  have key : ∀ i, i ≤ l.2.1 - l.1 → zL_many_4 G d Qr Qx a (nI q) (nI (ow_tm s.2.2.1 (lN (jc q)) l.1 (l.1 + i))) (nI i) M := by
    refine ow_loop _ ?_ ?_
    · rw [show l.1 + (l.2.1 - l.1) = l.2.1 by omega]
      exact rL_many_4 ⟨_, _, h1, rfl, ow_y (nI_le (Nat.le_refl _) (by omega)) Q⟩
    · intro i hi ih
      refine rL_many_4 ⟨_, _, h1, rfl, ow_n (nI_ge hi (by omega)) ⟨_, _, h1, rfl, _, _, h2, vp_in_nI (by omega) (by decide), ?_⟩⟩
      rw [nI_clamp (by omega), nI_1]
      obtain ⟨p, hp, e1, e2⟩ := h5 i hi
      by_cases hc : p = q
      · subst hc
        refine ow_nn e1 ?_
        rw [nI_1]
        rw [show l.1 + (i + 1) = l.1 + i + 1 from rfl, show ow_tm s.2.2.1 (lN (jc p)) l.1 (l.1 + i + 1) = ow_tm s.2.2.1 (lN (jc p)) l.1 (l.1 + i) + 1 from ow_cn_t (by simp [e2])] at ih
        exact ih
      · refine ow_yn (fun z => hc ((nI_eq (by omega) (by omega)).mp (e1.symm.trans z))) ?_
        rw [show l.1 + (i + 1) = l.1 + i + 1 from rfl, show ow_tm s.2.2.1 (lN (jc q)) l.1 (l.1 + i + 1) = ow_tm s.2.2.1 (lN (jc q)) l.1 (l.1 + i) from ow_cn_f (by
          have : ¬ s.2.2.1 (l.1 + i) = lN (jc q) := fun z => hc (jc_inj p hp q hq (e2.symm.trans z))
          simp [this])] at ih
        rw [show nI (ow_tm s.2.2.1 (lN (jc q)) l.1 (l.1 + i)) + 0 = nI (ow_tm s.2.2.1 (lN (jc q)) l.1 (l.1 + i)) from nI_add _ 0]
        exact ih
  have := key 0 (Nat.zero_le _)
  rw [Nat.add_zero, ow_tm0] at this
  exact this
theorem c_areAlike {a b : Nat} {s t : ow_S} {l o : ow_L} (h : jLn M a s l) (g : jLn M b t o) (hn : l.2.1 < 2 ^ 20 ∧ o.2.1 < 2 ^ 20) (Q : Qr (some (.int (ow_b (ow_lk s l t o)))) M) : kz_C G d 0 0 mL_areAlike [.ref a, .ref b] M Qr Qx := by
  obtain ⟨aw, f, h1, h2, -, h3, h4, h5⟩ := h
  obtain ⟨bw, f', g1, g2, -, g3, g4, g5⟩ := g
  by_cases hl : l.2.1 - l.1 = o.2.1 - o.1
  · have key : ∀ i, i ≤ l.2.1 - l.1 → (∀ j, j < i → s.2.2.1 (l.1 + j) = t.2.2.1 (o.1 + j)) → zL_areAlike_15 G d Qr Qx a b (nI i) M := by
      refine ow_loop _ ?_ ?_
      · intro he
        refine rL_areAlike_15 ⟨_, _, h1, rfl, ow_y (nI_le (Nat.le_refl _) (by omega)) ?_⟩
        rw [ow_bt (b := ow_lk s l t o) (by
          unfold ow_lk
          rw [decide_eq_true hl, ow_ex_f.mpr fun i hi => by simp [he i hi]]
          rfl)] at Q
        exact Q
      · intro i hi ih he
        obtain ⟨p, hp, e1, e2⟩ := h5 i hi
        obtain ⟨p', hp', e1', e2'⟩ := g5 i (by omega)
        refine rL_areAlike_15 ⟨_, _, h1, rfl, ow_n (nI_ge hi (by omega)) ⟨_, _, h1, rfl, _, _, h2, vp_in_nI (by omega) (by decide), _, _, g1, rfl, _, _, g2, vp_in_nI (by omega) (by decide), ?_⟩⟩
        rw [nI_clamp (by omega), nI_1, e1, e1']
        by_cases hc : p = p'
        · subst hc
          refine ow_y rfl (ih fun j hj => ?_)
          rcases Nat.lt_or_ge j i with k | k
          · exact he j k
          · rw [show j = i by omega, e2, e2']
        · refine ow_n (fun z => hc ((nI_eq (by omega) (by omega)).mp z)) ?_
          rw [ow_bf (b := ow_lk s l t o) (by
            unfold ow_lk
            rw [ow_ex_iff.mpr ⟨i, hi, by rw [e2, e2']; exact decide_eq_true fun z => hc (jc_inj p hp p' hp' z)⟩]
            simp)] at Q
          exact Q
    exact rL_areAlike_0 ⟨_, _, h1, rfl, _, _, g1, rfl, ow_y (by rw [hl]) (key 0 (Nat.zero_le _) fun j hj => absurd hj (Nat.not_lt_zero j))⟩
  · refine rL_areAlike_0 ⟨_, _, h1, rfl, _, _, g1, rfl, ow_n (fun z => hl ((nI_eq (by omega) (by omega)).mp z)) ?_⟩
    rw [ow_bf (b := ow_lk s l t o) (by unfold ow_lk; rw [decide_eq_false hl]; rfl)] at Q
    exact Q
/-- one more of a bounded number holds -/
theorem ow_cn_one {p r : Nat → Bool} {q : Nat} : ∀ {n : Nat}, q < n → (∀ i, i ≠ q → r i = p i) → r q = true → ow_cn r n = ow_cn p n + (if p q then 0 else 1)
  | n + 1, h, h1, h2 => by
    rw [ow_cn, ow_cn]
    by_cases hq : q = n
    · subst hq
      rw [ow_cn_ext (p := r) (q := p) fun i hi => h1 i (by omega), h2]
      cases p q <;> simp
    · rw [ow_cn_one (n := n) (by omega) h1 h2, h1 n (by omega)]
      cases p q <;> simp <;> omega
theorem jdf (w : Nat → Int64) (a : Nat) : ∀ n, (∀ k, k < n → ∃ q, q < 4 ∧ w (a + k) = lN (jc q)) → ow_df w a (a + n) = ow_cn (fun q => decide (0 < ow_tm w (lN (jc q)) a (a + n))) 4
  | 0, _ => by
    rw [Nat.add_zero, show ow_df w a a = 0 from ow_cn_0 fun i hi => by simp; omega]
    exact (ow_cn_0 fun q _ => by rw [ow_tm0]; rfl).symm
  | n + 1, h => by
    obtain ⟨q, hq, e⟩ := h n (by omega)
    have ih := jdf w a n fun k hk => h k (by omega)
    have hup : ∀ p, p < 4 → ow_tm w (lN (jc p)) a (a + n + 1) = ow_tm w (lN (jc p)) a (a + n) + (if p = q then 1 else 0) := fun p hp => by
      by_cases hpq : p = q
      · subst hpq
        rw [if_pos rfl]
        exact ow_cn_t (by simp [e])
      · rw [if_neg hpq]
        exact ow_cn_f (by
          have : ¬ w (a + n) = lN (jc p) := fun z => hpq (jc_inj p hp q hq (z.symm.trans e))
          simp [this])
    have key := ow_cn_one (p := fun q => decide (0 < ow_tm w (lN (jc q)) a (a + n))) (r := fun p => if p < 4 then decide (0 < ow_tm w (lN (jc p)) a (a + n + 1)) else decide (0 < ow_tm w (lN (jc p)) a (a + n))) (q := q) (n := 4) hq (fun i hi => by
      by_cases h4 : i < 4
      · simp only [if_pos h4]
        rw [hup i h4, if_neg hi, Nat.add_zero]
      · simp only [if_neg h4]) (by
      simp only [if_pos hq]
      rw [hup q hq, if_pos rfl]
      simp)
    rw [ow_cn_ext (p := fun p => if p < 4 then decide (0 < ow_tm w (lN (jc p)) a (a + n + 1)) else decide (0 < ow_tm w (lN (jc p)) a (a + n))) (q := fun q => decide (0 < ow_tm w (lN (jc q)) a (a + n + 1))) (fun i hi => by simp only [if_pos hi])] at key
    rw [show a + (n + 1) = a + n + 1 from rfl, key, ← ih]
    show ow_cn _ (a + n + 1) = _
    rw [ow_cn]
    show ow_df w a (a + n) + _ = _
    by_cases h0 : ow_tm w (lN (jc q)) a (a + n) = 0
    · rw [if_pos (by simp [e, h0]), if_neg (by simp [h0])]
    · rw [if_neg (by simp [e, h0]), if_pos (by simp; omega)]
theorem jLn.df {M : kz_M} {a : Nat} {s : ow_S} {l : ow_L} (h : jLn M a s l) : ow_df s.2.2.1 l.1 l.2.1 = ow_cn (fun q => decide (0 < ow_tm s.2.2.1 (lN (jc q)) l.1 l.2.1)) 4 := by
  obtain ⟨aw, f, h1, h2, -, h3, h4, h5⟩ := h
  have := jdf s.2.2.1 l.1 (l.2.1 - l.1) fun k hk => by
    obtain ⟨q, hq, -, e⟩ := h5 k hk
    exact ⟨q, hq, e⟩
  rwa [show l.1 + (l.2.1 - l.1) = l.2.1 by omega] at this
theorem jLn.tm {M : kz_M} {a : Nat} {s : ow_S} {l : ow_L} (h : jLn M a s l) (x : Int64) (hn : l.2.1 < 2 ^ 20) : ow_tm s.2.2.1 x l.1 l.2.1 < 2 ^ 20 := Nat.lt_of_le_of_lt (ow_tm_le _ _ _ _) hn
theorem c_distinctOf {a : Nat} {s : ow_S} {l : ow_L} (h : jLn M a s l) (hn : l.2.1 < 2 ^ 20) (Q : Qr (some (.int (nI (ow_df s.2.2.1 l.1 l.2.1)))) M) : kz_C G (d + 1) 0 0 mL_distinctOf [.ref a] M Qr Qx := by
  rw [h.df] at Q
  refine rL_distinctOf_0 ?_
  have key : ∀ i, i ≤ 4 → zL_distinctOf_4 G d Qr Qx a (nI (ow_cn (fun q => decide (0 < ow_tm s.2.2.1 (lN (jc q)) l.1 l.2.1)) i)) (nI i) M := by
    refine ow_loop 4 ?_ ?_
    · exact rL_distinctOf_4 (ow_y (nI_le (Nat.le_refl 4) (by decide)) Q)
    · intro i hi ih
      refine rL_distinctOf_4 (ow_n (nI_ge (b := 4) hi (by decide)) (c_many h hi ⟨_, rfl, ?_⟩))
      have hb := h.tm (lN (jc i)) hn
      rw [nI_1]
      by_cases hc : 0 < ow_tm s.2.2.1 (lN (jc i)) l.1 l.2.1
      · refine ow_n (nI_nle hc (by omega)) ?_
        rw [nI_1]
        rw [ow_cn_t (decide_eq_true hc)] at ih
        exact ih
      · refine ow_y (nI_le (b := 0) (by omega) (by decide)) ?_
        rw [ow_cn_f (decide_eq_false hc)] at ih
        rw [show ∀ z, nI z + 0 = nI z from fun z => nI_add z 0]
        exact ih
  exact key 0 (Nat.zero_le _)
end JLN
