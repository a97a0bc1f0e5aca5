/-! Part 39f: Output: what is printed, as a list of signs -/
def ow_RT (M : kz_M) (l : List Nat) : Prop := M.1 3 = some (.inl (4, [.ref 4, .int (nI l.length)])) ∧ l.length ≤ 256 ∧ (∀ c ∈ l, c < 128) ∧ ∃ f, M.1 4 = some (.inr (.byte, 256, .inl f)) ∧ ∀ i, i < l.length → f i = nI (l.getD i 0)
theorem ow_RT.mv {M M1 : kz_M} {l : List Nat} (h : ow_RT M l) (e1 : M1.1 3 = M.1 3) (e2 : M1.1 4 = M.1 4) : ow_RT M1 l := by
  obtain ⟨h1, h2, h3, f, h4, h5⟩ := h
  exact ⟨e1.trans h1, h2, h3, f, e2.trans h4, h5⟩
abbrev ow_inT (k : Nat) : Prop := k = 3 ∨ k = 4
/-- a word's letters, of its last k ones -/
def ow_wo (x : Nat) : Nat → List Nat
  | 0 => []
  | k + 1 => (96 + x / 2 ^ (5 * k) % 32) :: ow_wo x k
theorem ow_wo_len (x : Nat) : ∀ k, (ow_wo x k).length = k
  | 0 => rfl
  | k + 1 => by rw [ow_wo, List.length_cons, ow_wo_len]
/-- a number's digits, of its last k ones -/
def ow_dg (m : Nat) : Nat → List Nat
  | 0 => []
  | k + 1 => (if 10 ^ k ≤ m ∨ k = 0 then [48 + m / 10 ^ k % 10] else []) ++ ow_dg m k
def ow_num (v : Int32) : List Nat := (if v < 0 then [45] else []) ++ ow_dg v.toInt.natAbs 10
theorem ow_dg_le (m : Nat) : ∀ k, (ow_dg m k).length ≤ k
  | 0 => Nat.le_refl _
  | k + 1 => by
    have := ow_dg_le m k
    rw [ow_dg, List.length_append]
    split <;> simp <;> omega
theorem ow_dg_lt (m : Nat) (n : Nat) (hm : m < 10 ^ n) : ∀ k, (ow_dg m k).length ≤ max 1 n
  | 0 => Nat.zero_le _
  | k + 1 => by
    have ih := ow_dg_lt m n hm k
    have h2 := ow_dg_le m k
    rw [ow_dg, List.length_append]
    split
    · rename_i hc
      rcases hc with hc | hc
      · have : k < n := by
          rcases Nat.lt_or_ge k n with h | h
          · exact h
          · have := Nat.pow_le_pow_right (n := 10) (by omega) h
            omega
        have h1 : ([48 + m / 10 ^ k % 10] : List Nat).length = 1 := rfl
        omega
      · subst hc
        have h0 : (ow_dg m 0).length = 0 := rfl
        have h1 : ([48 + m / 10 ^ 0 % 10] : List Nat).length = 1 := rfl
        omega
    · have : ([] : List Nat).length = 0 := rfl
      omega
theorem ow_abs (v : Int32) : (if 0 < v.toInt64 then v.toInt64 else -v.toInt64) = lN v.toInt.natAbs := by
  have h1 := v.minValue_le_toInt
  have h2 := v.toInt_le
  have e1 : Int32.minValue.toInt = -2147483648 := by decide
  have e2 : Int32.maxValue.toInt = 2147483647 := by decide
  have h2' := h2
  have h3 : v.toInt ≤ 2147483647 := by
    have := v.toInt_lt
    omega
  have h4 : -2147483648 ≤ v.toInt := by
    rw [← e1]; exact h1
  have z : (0 : Int64).toInt = 0 := by decide
  apply Int64.toInt_inj.mp
  rw [pk_lT (by omega)]
  split
  · rename_i h
    rw [Int64.lt_iff_toInt_lt, z, Int32.toInt_toInt64] at h
    rw [Int32.toInt_toInt64]
    omega
  · rename_i h
    rw [Int64.lt_iff_toInt_lt, z, Int32.toInt_toInt64] at h
    rw [Int64.toInt_neg, Int32.toInt_toInt64, Int.bmod_eq_of_le (by omega) (by omega)]
    omega
section OWT
variable {G : kz_G} {d : Nat} {Qr : Option Value → kz_M → Prop} {Qx : String → kz_M → Prop} {M : kz_M} {l : List Nat}
theorem ow_RT.ob (h : ow_RT M l) : ∃ fs, M.1 3 = some (.inl (4, fs)) := ⟨_, h.1⟩
theorem ow_n8 {c : Nat} (hc : c < 128) : vp_nar .byte ((nI c).toInt8.toInt32) = nI c := by
  rw [pk_vb]
  have : ∀ c, c < 128 → (nI c).toInt8.toInt32 = nI c := by decide +kernel
  exact this c hc
theorem c_write {c : Nat} (h : ow_RT M l) (hl : l.length < 256) (hc : c < 128) (q : ∀ M1, ow_Sm ow_inT M M1 → M1.2 = M.2 → ow_RT M1 (l ++ [c]) → Qr none M1) : kz_C G d 0 0 mX4_write [.ref 3, .int (nI c)] M Qr Qx := by
  obtain ⟨h1, h2, h3, f, h4, h5⟩ := h
  refine rX4_write_0 ⟨_, _, h1, rfl, ow_n (nI_pos (by omega)) ⟨_, _, h1, rfl, _, _, h1, rfl, _, _, h4, ow_n (nI_ge hl (by omega)) ⟨_, _, h1, rfl, _, _, h1, rfl, _, _, h4, vp_in_nI hl (by omega), _, _, (kz_up_ne (by omega)).trans h1, rfl, _, (kz_up_ne (by omega)).trans h1, ow_l rfl, fun M1 e1 => ?_⟩⟩⟩
  rw [nI_1, nI_clamp (by omega), ow_n8 hc] at e1
  rw [e1]
  have hlen : (l ++ [c]).length = l.length + 1 := by simp
  refine q _ (((ow_Sm.rfl' _ M).up (Or.inr rfl)).up (Or.inl rfl)) rfl ⟨?_, by omega, fun x hx => ?_, _, (kz_up_ne (by omega)).trans (kz_up_same _ _ _), fun i hi => ?_⟩
  · rw [hlen]; exact kz_up_same _ _ _
  · rcases List.mem_append.mp hx with hx | hx
    · exact h3 x hx
    · rw [List.mem_singleton.mp hx]; exact hc
  · rw [hlen] at hi
    unfold upd
    by_cases hil : i = l.length
    · rw [if_pos hil, hil]
      congr 1
      simp
    · rw [if_neg hil, h5 i (by omega)]
      congr 1
      simp only [List.getD_eq_getElem?_getD]
      rw [List.getElem?_append_left (by omega)]
theorem c_separate (h : ow_RT M l) (hl : l.length < 256) (q : ∀ M1, ow_Sm ow_inT M M1 → M1.2 = M.2 → ow_RT M1 (l ++ (if l.length = 0 then [] else [32])) → Qr none M1) : kz_C G (d + 1) 0 0 mX4_separate [.ref 3] M Qr Qx := by
  have h0 := h
  obtain ⟨h1, h2, h3, f, h4, h5⟩ := h
  refine rX4_separate_0 ⟨_, _, h1, rfl, pk_le l.length 0 (fun hz => ?_) (fun hz => ⟨⟨_, h1⟩, c_write (c := 32) h0 hl (by omega) fun M1 g1 g2 g3 => ⟨rfl, ?_⟩⟩) rfl rfl⟩
  · rw [if_pos (by omega), List.append_nil] at q
    exact q M (ow_Sm.rfl' _ _) rfl h0
  · rw [if_neg (by omega)] at q
    exact q M1 g1 g2 g3
theorem ow_sh11 : ∀ i, i < 12 → ((((5 : Int32) * nI i).toInt64 &&& 63).toBitVec.smod 64).toNat = 5 * i := fun i hi => ow_sh12 i (by omega)
theorem c_writeWord {x : Nat} (h : ow_RT M l) (hx : x < 2 ^ 60) (hl : l.length + ow_ln x ≤ 256) (q : ∀ M1, ow_Sm ow_inT M M1 → M1.2 = M.2 → ow_RT M1 (l ++ ow_wo x (ow_ln x)) → Qr none M1) : kz_C G (d + 1) 0 0 mX4_writeWord [.ref 3, .long (lN x)] M Qr Qx := by
  have h12 := ow_ln_le x
  refine rX4_writeWord_0 (c_lengthOf hx ⟨_, rfl, ?_⟩)
  have key : ∀ k, k ≤ ow_ln x → ∀ M1 m, ow_Sm ow_inT M M1 → M1.2 = M.2 → ow_RT M1 m → m ++ ow_wo x k = l ++ ow_wo x (ow_ln x) → zX4_writeWord_7 G d Qr Qx 3 (lN x) (nI k - 1) M1 := by
    intro k
    induction k with
    | zero =>
      intro _ M1 m g1 g2 g3 g4
      refine rX4_writeWord_7 (ow_y (by decide) (q M1 g1 g2 ?_))
      rw [← g4, ow_wo, List.append_nil]
      exact g3
    | succ k ih =>
      intro hk M1 m g1 g2 g3 g4
      rw [show nI (k + 1) - 1 = nI k from nI_pred k]
      have hml : m.length + (k + 1) = l.length + ow_ln x := by
        have := congrArg List.length g4
        rw [List.length_append, List.length_append, ow_wo_len, ow_wo_len] at this
        exact this
      have hdiv : x / 2 ^ (5 * k) ≤ x := Nat.div_le_self _ _
      have e : (97 + (((lN x >>> ((5 * nI k).toInt64 &&& 63) : Int64).toInt32) &&& 31)) - 1 = nI (96 + x / 2 ^ (5 * k) % 32) := by
        rw [ow_shr (ow_sh12 k (by omega)) (by omega), lN_i]
        have e1 : nI (x / 2 ^ (5 * k)) &&& 31 = nI (x / 2 ^ (5 * k) % 32) := by
          rw [pk_and _ (m := 31) 5 (by decide)]
          congr 1
          show (BitVec.ofNat 32 _).toNat % 2 ^ 5 = _
          rw [BitVec.toNat_ofNat]
          omega
        rw [e1, show (97 : Int32) + nI (x / 2 ^ (5 * k) % 32) = nI (97 + x / 2 ^ (5 * k) % 32) from nI_add 97 _, show 97 + x / 2 ^ (5 * k) % 32 = (96 + x / 2 ^ (5 * k) % 32) + 1 by omega]
        exact nI_pred _
      refine rX4_writeWord_7 (ow_n (nI_pos (by omega)) ⟨g3.ob, ?_⟩)
      rw [e]
      refine c_write g3 (by omega) (by omega) fun M2 k1 k2 k3 => ⟨rfl, ?_⟩
      rw [show nI k + -1 = nI k - 1 from (Int32.sub_eq_add_neg _ _).symm]
      refine ih (by omega) M2 _ (g1.trans k1) (k2.trans g2) k3 ?_
      rw [← g4, ow_wo, List.append_assoc, List.singleton_append]
  exact key _ (Nat.le_refl _) M l (ow_Sm.rfl' _ _) rfl h rfl
theorem c_writeNumber {v : Int32} (h : ow_RT M l) (hl : l.length + 11 ≤ 256) (q : ∀ M1, ow_Sm ow_inT M M1 → M1.2 = M.2 → ow_RT M1 (l ++ ow_num v) → Qr none M1) : kz_C G (d + 1) 0 0 mX4_writeNumber [.ref 3, .int v] M Qr Qx := by
  have h4 := v.toInt_lt
  have h5 := v.le_toInt
  have key : ∀ (l0 : List Nat), l0.length + 10 ≤ 256 → l0 ++ ow_dg v.toInt.natAbs 10 = l ++ ow_num v → ∀ M0, ow_Sm ow_inT M M0 → M0.2 = M.2 → ow_RT M0 l0 → zX4_writeNumber_21 G d Qr Qx 3 (lN v.toInt.natAbs) 1000000000 M0 := by
    intro l0 hl0 el0 M0 s1 s2 s3
    have loop : ∀ k, k ≤ 10 → ∀ M1 m, ow_Sm ow_inT M M1 → M1.2 = M.2 → ow_RT M1 m → m.length + k ≤ 256 → m ++ ow_dg v.toInt.natAbs k = l ++ ow_num v → zX4_writeNumber_21 G d Qr Qx 3 (lN v.toInt.natAbs) (if k = 0 then 0 else lN (10 ^ (k - 1))) M1 := by
      intro k
      induction k with
      | zero =>
        intro _ M1 m g1 g2 g3 _ g4
        refine rX4_writeNumber_21 (ow_y (by decide) (q M1 g1 g2 ?_))
        rw [← g4, ow_dg, List.append_nil]
        exact g3
      | succ k ih =>
        intro hk M1 m g1 g2 g3 g5 g4
        rw [if_neg (by omega), show k + 1 - 1 = k from rfl]
        have hp : 10 ^ k ≤ 10 ^ 9 := Nat.pow_le_pow_right (by omega) (by omega)
        have hp0 : 0 < 10 ^ k := Nat.pow_pos (by omega)
        have hne : ¬ lN (10 ^ k) = 0 := fun e => by
          have := (pk_lEQ (b := 0) (by omega) (by omega)).mp e
          omega
        have hpos : ¬ lN (10 ^ k) ≤ 0 := fun e => by
          have := (pk_lLE (b := 0) (by omega) (by omega)).mp e
          omega
        have hdv : lN (10 ^ k) / 10 = if k = 0 then 0 else lN (10 ^ (k - 1)) := by
          rw [show lN (10 ^ k) / 10 = lN (10 ^ k / 10) from pk_lDiv (b := 10) (by omega) (by omega) (by omega)]
          by_cases hk0 : k = 0
          · subst hk0; rfl
          · rw [if_neg hk0]
            obtain ⟨j, rfl⟩ : ∃ j, k = j + 1 := ⟨k - 1, by omega⟩
            rw [Nat.pow_succ, Nat.mul_div_cancel _ (by omega)]
            rfl
        have hA : v.toInt.natAbs < 2 ^ 32 := by omega
        have hd1 : lN v.toInt.natAbs / lN (10 ^ k) = lN (v.toInt.natAbs / 10 ^ k) := pk_lDiv (by omega) hp0 (by omega)
        have hd2 : v.toInt.natAbs / 10 ^ k ≤ v.toInt.natAbs := Nat.div_le_self _ _
        have hd3 : lN (v.toInt.natAbs / 10 ^ k) - lN (v.toInt.natAbs / 10 ^ k) / 10 * 10 = lN (v.toInt.natAbs / 10 ^ k % 10) := pk_lRem (b := 10) (by omega) (by omega) (by omega)
        have hw : (10 ^ k ≤ v.toInt.natAbs ∨ k = 0) → ∀ M2, M2 = M1 → kz_C G (d + 0) 0 0 mX4_write [.ref 3, .int (48 + (((lN v.toInt.natAbs / lN (10 ^ k)) - (lN v.toInt.natAbs / lN (10 ^ k)) / 10 * 10 : Int64).toInt32))] M2 (fun v' M1 => v' = none ∧ (zX4_writeNumber_21 G d Qr Qx 3 (lN v.toInt.natAbs) (lN (10 ^ k) / 10) M1)) Qx := by
          intro hc M2 e2
          subst e2
          rw [hd1, hd3, lN_i, show (48 : Int32) + nI (v.toInt.natAbs / 10 ^ k % 10) = nI (48 + v.toInt.natAbs / 10 ^ k % 10) from nI_add 48 _]
          refine c_write g3 (by omega) (by omega) fun M3 k1 k2 k3 => ⟨rfl, ?_⟩
          rw [hdv]
          refine ih (by omega) M3 _ (g1.trans k1) (k2.trans g2) k3 ?_ ?_
          · rw [List.length_append, List.length_singleton]; omega
          · rw [← g4, ow_dg, if_pos hc, List.append_assoc]
        refine rX4_writeNumber_21 (ow_n hpos ⟨fun hle => ⟨hne, g3.ob, hw (Or.inl ((pk_lLE (by omega) (by omega)).mp hle)) M1 rfl⟩, fun hnle => ⟨fun h1 => ?_, fun h1 => ⟨hne, g3.ob, hw (Or.inr ?_) M1 rfl⟩⟩⟩)
        · rw [hdv]
          have hno : ¬ (10 ^ k ≤ v.toInt.natAbs ∨ k = 0) := by
            rintro (hc | hc)
            · exact hnle ((pk_lLE (by omega) (by omega)).mpr hc)
            · exact h1 (by rw [hc]; rfl)
          refine ih (by omega) M1 m g1 g2 g3 (by omega) ?_
          rw [← g4, ow_dg, if_neg hno, List.nil_append]
        · have := (pk_lEQ (b := 1) (by omega) (by omega)).mp h1
          rcases Nat.eq_zero_or_pos k with hk0 | hk0
          · exact hk0
          · obtain ⟨j, rfl⟩ : ∃ j, k = j + 1 := ⟨k - 1, by omega⟩
            rw [Nat.pow_succ] at this
            omega
    exact loop 10 (Nat.le_refl _) M0 l0 s1 s2 s3 hl0 el0
  refine rX4_writeNumber_0 ⟨fun h0 => ?_, fun h0 => ⟨h.ob, c_write (c := 45) h (by omega) (by omega) fun M1 g1 g2 g3 => ⟨rfl, ?_⟩⟩⟩
  · rw [ow_abs]
    refine key l (by omega) ?_ M (ow_Sm.rfl' _ _) rfl h
    have : ¬ v < 0 := fun hz => by
      rw [Int32.lt_iff_toInt_lt] at hz
      rw [Int32.le_iff_toInt_le] at h0
      omega
    rw [ow_num, if_neg this, List.nil_append]
  · rw [ow_abs]
    have : v < 0 := by
      rw [Int32.lt_iff_toInt_lt]
      rw [Int32.le_iff_toInt_le] at h0
      omega
    refine key (l ++ [45]) (by rw [List.length_append, List.length_singleton]; omega) ?_ M1 g1 g2 g3
    rw [ow_num, if_pos this, List.append_assoc]
theorem c_osignAt {x : Int32} (h : ow_RT M l) (q0 : (∀ j, j < l.length → x ≠ nI j) → Qr (some (.int (-1))) M) (q1 : ∀ j, j < l.length → x = nI j → Qr (some (.int (nI (l.getD j 0)))) M) : kz_C G d 0 0 mX4_signAt [.ref 3, .int x] M Qr Qx := by
  obtain ⟨h1, h2, h3, f, h4, h5⟩ := h
  rcases pk_ix x (n := l.length) (by omega) with hx | hx | ⟨j, hj, rfl⟩
  · exact rX4_signAt_0 (ow_y hx (q0 fun j hj e => nI_pos (n := j) (by omega) (e ▸ hx)))
  · refine rX4_signAt_0 ⟨fun hz => q0 fun j hj e => ?_, fun hz => ⟨_, _, h1, rfl, ow_y hx (q0 fun j hj e => ?_)⟩⟩
    · exact nI_pos (n := j) (by omega) (e ▸ hz)
    · rw [e] at hx
      exact nI_ge hj (by omega) hx
  · refine rX4_signAt_0 (ow_n (nI_pos (by omega)) ⟨_, _, h1, rfl, ow_n (nI_ge hj (by omega)) ⟨_, _, h1, rfl, _, _, h4, ow_n (nI_ge (by omega) (by omega)) ⟨_, _, h1, rfl, _, _, h4, vp_in_nI (by omega) (by omega), ?_⟩⟩⟩)
    rw [nI_clamp (by omega), h5 j hj]
    exact q1 j hj rfl
theorem c_initOutput {mc ms : Nat} (h : M.1 3 = some (.inl (4, [.null, .int 0]))) (h2 : M.2 = 4) (hmc : 1 ≤ mc) (hms : 256 ≤ ms) (q : ∀ M1, ow_Nw (· = 3) M M1 → M1.2 = 5 → ow_RT M1 [] → Qr none M1) : kz_C G (d + 1) mc ms mX4_init [.ref 3] M Qr Qx := by
  refine rX4_init_0 ⟨256, by decide, by decide, by omega, by omega, by omega, _, (kz_nw_ne (by omega)).trans h, ow_l rfl, ?_⟩
  rw [h2]
  refine q _ ⟨fun k hk hk1 => ?_, ?_⟩ ?_ ⟨kz_up_same _ _ _, Nat.zero_le _, fun c hc => (by cases hc), fun _ => 0, ?_, fun i hi => absurd hi (Nat.not_lt_zero i)⟩
  · rw [kz_up_ne hk1, kz_nw_ne (by omega)]
  · rw [kz_up_2, kz_nw_2]; omega
  · rw [kz_up_2, kz_nw_2]; omega
  · refine (kz_up_ne (by omega)).trans ?_
    rw [← h2]
    exact kz_nw_same _ _
end OWT
