/-! Part 86: the reference writes -/
theorem mo_31 {y : Nat} (hy : y < 2 ^ 63) : (lN y &&& 31 : Int64).toInt32 = nI (y % 32) := by
  have e : (lN y &&& 31 : Int64) = lN (y % 32) := by
    apply Int64.toBitVec_inj.mp
    show BitVec.ofNat 64 y &&& 31#64 = BitVec.ofNat 64 (y % 32)
    apply BitVec.eq_of_toNat_eq
    rw [BitVec.toNat_and, BitVec.toNat_ofNat, BitVec.toNat_ofNat]
    show y % 2 ^ 64 &&& 31 = y % 32 % 2 ^ 64
    rw [Nat.mod_eq_of_lt (show y < 2 ^ 64 by omega), Nat.mod_eq_of_lt (show y % 32 < 2 ^ 64 by omega)]
    exact Nat.and_two_pow_sub_one_eq_mod _ 5
  rw [e, lN_i]
theorem mo_abs (v : Int32) (hv : v.toInt.natAbs < 2 ^ 31) : (if 0 ≤ v then v else 0 - v) = nI v.toInt.natAbs := by
  have z : (0 : Int32).toInt = 0 := by decide
  by_cases h : 0 ≤ v
  · rw [if_pos h]
    rw [Int32.le_iff_toInt_le, z] at h
    apply Int32.toInt_inj.mp
    rw [nI_toInt hv]
    omega
  · rw [if_neg h]
    rw [Int32.le_iff_toInt_le, z] at h
    apply Int32.toInt_inj.mp
    rw [nI_toInt hv, Int32.toInt_sub, z]
    have e : (0 - v.toInt) = (v.toInt.natAbs : Int) := by omega
    rw [e]
    exact Int.bmod_eq_of_le (by omega) (by omega)
theorem ow_dg_cut (m : Nat) {a : Nat} : ∀ {c : Nat}, (∀ i, a ≤ i → i < a + c → ¬ (10 ^ i ≤ m ∨ i = 0)) → ow_dg m (a + c) = ow_dg m a
  | 0, _ => rfl
  | c + 1, h => by
    rw [← Nat.add_assoc, ow_dg, if_neg (h (a + c) (by omega) (by omega)), List.nil_append]
    exact ow_dg_cut m fun i h1 h2 => h i h1 (by omega)
theorem mo_p27_div {b : Nat → Nat} {k : Nat} (hb : mo_lt b k) : ∀ j, j ≤ k → mo_p27 b k / 27 ^ j = mo_p27 b (k - j)
  | 0, _ => by rw [Nat.pow_zero, Nat.div_one, Nat.sub_zero]
  | j + 1, h => by
    have ih := mo_p27_div hb j (by omega)
    have h1 := hb (k - (j + 1)) (by omega)
    rw [Nat.pow_succ, ← Nat.div_div_eq_div_mul, ih, show k - j = (k - (j + 1)) + 1 by omega, mo_p27]
    omega
theorem ow_nm_div {b : Nat → Nat} {k : Nat} (hb : mo_lt b k) : ∀ j, j ≤ k → ow_nm b 0 k / 2 ^ (5 * j) = ow_nm b 0 (k - j)
  | 0, _ => by rw [Nat.mul_zero, Nat.pow_zero, Nat.div_one, Nat.sub_zero]
  | j + 1, h => by
    have ih := ow_nm_div hb j (by omega)
    have h1 := hb (k - (j + 1)) (by omega)
    rw [show 5 * (j + 1) = 5 * j + 5 by omega, Nat.pow_add, ← Nat.div_div_eq_div_mul, ih, show k - j = (k - (j + 1)) + 1 by omega, ow_nm]
    omega
section MOA
variable {G : kz_G} {d : Nat} {Qr : Option Value → kz_M → Prop} {Qx : String → kz_M → Prop} {M : kz_M} {O : ow_O} {s : Nat → Int32} {rb : Int64} {hn : Nat} {h : Nat → ow_O} {sv : ow_O} {isS : Bool} {er : Nat} {ea : Int32} {n : Nat} {b : Nat → Nat} {l : List Nat} {f : Nat → Int32} {g : Nat → Int64}
theorem m_write {c : Nat} (I : mo_I M O hn h sv isS er ea n b (l) s rb) (hl : l.length < 256) (q : ∀ M1 s1, mo_Cf M M1 → mo_I M1 O hn h sv isS er ea n b (l ++ [c]) s1 rb → s1 9 = s 9 → Qr none M1) : kz_C G d 0 0 mX12_write [.ref 99, .int (nI c)] M Qr Qx := by
  obtain ⟨i1, ⟨i2, i3, i4, i5, i6, i7⟩, A⟩ := I
  have A0 := A
  obtain ⟨-, -, -, -, -, -, f11, c3, c4, c5⟩ := A0
  refine rX12_write_0 ⟨_, _, i1, rfl, _, _, i1, rfl, ?_⟩
  rw [i7]
  refine ⟨_, _, c3, vp_in_nI (by omega) (by omega), _, _, (kz_up_ne (by omega)).trans i1, rfl, _, (kz_up_ne (by omega)).trans i1, ow_l rfl, ?_⟩
  rw [i7, nI_1, nI_clamp (by omega)]
  have hlen : (l ++ [c]).length = l.length + 1 := by simp
  have S : ow_Sm (fun z => z = 99 ∨ z = 113) M (kz_up (kz_up M 113 (.inr (.int, 400, .inl (upd f11 l.length (nI c))))) 99 (.inl (11, (mo_fs s rb).set 31 (.int (nI (l.length + 1)))))) := fun z hz => by rw [kz_up_ne (by omega), kz_up_ne (by omega)]
  refine q _ (upd s 31 (nI (l.length + 1))) ((mo_Cf.refl M).sm2 S rfl (fun z hz => by omega)) ⟨kz_up_same _ _ _, ⟨i2, i3, i4, i5, i6, by rw [hlen]; rfl⟩, A.out S ⟨upd f11 l.length (nI c), (kz_up_ne (by omega)).trans (kz_up_same _ _ _), by omega, fun i hi => ?_⟩⟩ rfl
  rw [hlen] at hi
  unfold upd
  by_cases hil : i = l.length
  · rw [if_pos hil, hil]
    congr 1
    simp
  · rw [if_neg hil, c5 i (by omega)]
    congr 1
    simp only [List.getD_eq_getElem?_getD]
    rw [List.getElem?_append_left (by omega)]
theorem m_writeWord {x : Nat} (I : mo_I M O hn h sv isS er ea n b (l) s rb) (hx : x < 2 ^ 60) (hl : l.length + ow_ln x ≤ 256) (q : ∀ M1 s1, mo_Cf M M1 → mo_I M1 O hn h sv isS er ea n b (l ++ ow_wo x (ow_ln x)) s1 rb → s1 9 = s 9 → Qr none M1) : kz_C G (d + 1) 0 0 mX12_writeWord [.ref 99, .long (lN x)] M Qr Qx := by
  have h12 := ow_ln_le x
  refine rX12_writeWord_0 (m_lettersOf hx ⟨_, rfl, ?_⟩)
  have key : ∀ k, k ≤ ow_ln x → ∀ M1 s1 m, mo_Cf M M1 → mo_I M1 O hn h sv isS er ea n b (m) s1 rb → s1 9 = s 9 → m ++ ow_wo x k = l ++ ow_wo x (ow_ln x) → zX12_writeWord_9 G d Qr Qx 99 (lN x) ((5 * nI k) - 5) M1 := by
    intro k
    induction k with
    | zero =>
      intro _ M1 s1 m C1 I1 e1 g4
      rw [ow_wo, List.append_nil] at g4
      subst g4
      exact rX12_writeWord_9 (ow_y (by decide) (q M1 s1 C1 I1 e1))
    | succ k ih =>
      intro hk M1 s1 m C1 I1 e1 g4
      have hml : m.length + (k + 1) = l.length + ow_ln x := by
        have := congrArg List.length g4
        rw [List.length_append, List.length_append, ow_wo_len, ow_wo_len] at this
        exact this
      rw [show (5 : Int32) * nI (k + 1) = nI (5 * (k + 1)) from pk_mul 5 _, show nI (5 * (k + 1)) - 5 = nI (5 * k) by rw [show nI (5 * (k + 1)) - 5 = nI (5 * (k + 1) - 5) from pk_sub (b := 5) (by omega), show 5 * (k + 1) - 5 = 5 * k by omega]]
      have hdiv : x / 2 ^ (5 * k) ≤ x := Nat.div_le_self _ _
      have e : (96 : Int32) + (((lN x >>> ((nI (5 * k)).toInt64 &&& 63)) &&& 31 : Int64).toInt32) = nI (96 + x / 2 ^ (5 * k) % 32) := by
        rw [ow_shr (mo_sm63 (5 * k) (by omega)) (by omega), mo_31 (by omega)]
        exact nI_add 96 _
      refine rX12_writeWord_9 (ow_n (nI_pos (by omega)) ⟨I1.ob, ?_⟩)
      rw [e]
      refine m_write I1 (by omega) fun M2 s2 C2 I2 e2 => ⟨rfl, ?_⟩
      rw [show nI (5 * k) + -5 = 5 * nI k - 5 by rw [show (5 : Int32) * nI k = nI (5 * k) from pk_mul 5 _]; exact (Int32.sub_eq_add_neg _ _).symm]
      refine ih (by omega) M2 s2 _ (C1.trans C2) I2 (e2.trans e1) ?_
      rw [← g4, ow_wo, List.append_assoc, List.singleton_append]
  exact key _ (Nat.le_refl _) M s l (mo_Cf.refl M) I rfl rfl
theorem m_writeNumber {v : Int32} (I : mo_I M O hn h sv isS er ea n b (l) s rb) (hv : v.toInt.natAbs < 10 ^ 9) (hl : l.length + 11 ≤ 256) (q : ∀ M1 s1, mo_Cf M M1 → mo_I M1 O hn h sv isS er ea n b (l ++ ow_num v) s1 rb → s1 9 = s 9 → Qr none M1) : kz_C G (d + 1) 0 0 mX12_writeNumber [.ref 99, .int v] M Qr Qx := by
  have hv' : v.toInt.natAbs < 2 ^ 31 := by omega
  have P9 : (10 : Nat) ^ 9 < 2 ^ 31 := by decide
  have key : ∀ (l0 : List Nat) M0 s0, mo_Cf M M0 → mo_I M0 O hn h sv isS er ea n b (l0) s0 rb → s0 9 = s 9 → l0.length + 10 ≤ 256 → l0 ++ ow_dg v.toInt.natAbs 10 = l ++ ow_num v → zX12_writeNumber_17 G d Qr Qx 99 (nI v.toInt.natAbs) 1 M0 := by
    intro l0 M0 s0 C0 I0 e0 hl0 el0
    have loop2 : ∀ K, K ≤ 8 → (K = 0 ∨ 10 ^ K ≤ v.toInt.natAbs) → ∀ k, k ≤ K + 1 → ∀ M1 s1 m, mo_Cf M M1 → mo_I M1 O hn h sv isS er ea n b (m) s1 rb → s1 9 = s 9 → m.length + k ≤ 256 → m ++ ow_dg v.toInt.natAbs k = l ++ ow_num v → zX12_writeNumber_33 G d Qr Qx 99 (nI v.toInt.natAbs) (if k = 0 then 0 else nI (10 ^ (k - 1))) M1 := by
      intro K hK8 hK k
      induction k with
      | zero =>
        intro _ M1 s1 m C1 I1 e1 _ g4
        rw [ow_dg, List.append_nil] at g4
        subst g4
        exact rX12_writeNumber_33 (ow_y (by decide) (q M1 s1 C1 I1 e1))
      | succ k ih =>
        intro hk M1 s1 m C1 I1 e1 hm g4
        rw [if_neg (by omega), show k + 1 - 1 = k from rfl]
        have hp : 10 ^ k ≤ 10 ^ 9 := Nat.pow_le_pow_right (by omega) (by omega)
        have hp0 : 0 < 10 ^ k := Nat.pow_pos (by omega)
        have hc : 10 ^ k ≤ v.toInt.natAbs ∨ k = 0 := by
          rcases Nat.eq_zero_or_pos k with h0 | h0
          · exact Or.inr h0
          · rcases hK with h1 | h1
            · omega
            · exact Or.inl (Nat.le_trans (Nat.pow_le_pow_right (by omega) (by omega)) h1)
        have hne : ¬ nI (10 ^ k) = 0 := fun e => by
          have := (nI_eq (b := 0) (by omega) (by omega)).mp e
          omega
        have hd2 : v.toInt.natAbs / 10 ^ k ≤ v.toInt.natAbs := Nat.div_le_self _ _
        have e : (48 : Int32) + ((nI v.toInt.natAbs / nI (10 ^ k)) - (nI v.toInt.natAbs / nI (10 ^ k)) / 10 * 10) = nI (48 + v.toInt.natAbs / 10 ^ k % 10) := by
          rw [pk_div hv' hp0 (by omega), show nI (v.toInt.natAbs / 10 ^ k) - nI (v.toInt.natAbs / 10 ^ k) / 10 * 10 = nI (v.toInt.natAbs / 10 ^ k % 10) from pk_rem (d := 10) (by omega) (by omega) (by omega)]
          exact nI_add 48 _
        refine rX12_writeNumber_33 (ow_n (nI_ge (a := 0) hp0 (by omega)) ⟨hne, I1.ob, ?_⟩)
        rw [e]
        refine m_write I1 (by omega) fun M2 s2 C2 I2 e2 => ⟨rfl, ?_⟩
        have hdv : nI (10 ^ k) / 10 = if k = 0 then 0 else nI (10 ^ (k - 1)) := by
          rw [show nI (10 ^ k) / 10 = nI (10 ^ k / 10) from pk_div (d := 10) (by omega) (by omega) (by omega)]
          by_cases hk0 : k = 0
          · subst hk0; rfl
          · rw [if_neg hk0]
            obtain ⟨j, rfl⟩ : ∃ j, k = j + 1 := ⟨k - 1, by omega⟩
            rw [Nat.pow_succ, Nat.mul_div_cancel _ (by omega)]
            rfl
        rw [hdv]
        refine ih (by omega) M2 s2 _ (C1.trans C2) I2 (e2.trans e1) ?_ ?_
        · rw [List.length_append, List.length_singleton]; omega
        · rw [← g4, ow_dg, if_pos hc, List.append_assoc]
    have loop1 : ∀ f k, k + f = 9 → (k = 0 ∨ 10 ^ k ≤ v.toInt.natAbs) → zX12_writeNumber_17 G d Qr Qx 99 (nI v.toInt.natAbs) (nI (10 ^ k)) M0 := by
      intro f
      induction f with
      | zero =>
        intro k hk hc
        have : k = 9 := by omega
        subst this
        omega
      | succ f ih =>
        intro k hk hc
        have hp : 10 ^ k ≤ 10 ^ 9 := Nat.pow_le_pow_right (by omega) (by omega)
        have hp0 : 0 < 10 ^ k := Nat.pow_pos (by omega)
        have hd2 : v.toInt.natAbs / 10 ^ k ≤ v.toInt.natAbs := Nat.div_le_self _ _
        have hne : ¬ nI (10 ^ k) = 0 := fun e => by
          have := (nI_eq (b := 0) (by omega) (by omega)).mp e
          omega
        refine rX12_writeNumber_17 ⟨hne, pk_le (v.toInt.natAbs / 10 ^ k) 9 (fun h9 => ?_) (fun h9 => ?_) (pk_div hv' hp0 (by omega)) rfl⟩
        · have hlt : v.toInt.natAbs < 10 ^ (k + 1) := by
            rw [Nat.pow_succ, Nat.mul_comm]
            exact (Nat.div_lt_iff_lt_mul hp0).mp (by omega)
          have hcut : ow_dg v.toInt.natAbs 10 = ow_dg v.toInt.natAbs (k + 1) := by
            have := ow_dg_cut v.toInt.natAbs (a := k + 1) (c := 10 - (k + 1)) fun i h1 h2 => by
              rintro (h3 | h3)
              · have := Nat.pow_le_pow_right (n := 10) (by omega) h1
                omega
              · omega
            rw [show k + 1 + (10 - (k + 1)) = 10 by omega] at this
            exact this
          have := loop2 k (by omega) hc (k + 1) (Nat.le_refl _) M0 s0 l0 C0 I0 e0 (by omega) (by rw [← hcut]; exact el0)
          rw [if_neg (by omega), show k + 1 - 1 = k from rfl] at this
          exact this
        · rw [show nI (10 ^ k) * 10 = nI (10 ^ (k + 1)) by rw [Nat.pow_succ]; exact pk_mul _ 10]
          refine ih (k + 1) (by omega) (Or.inr ?_)
          rw [Nat.pow_succ]
          have h1 := (Nat.le_div_iff_mul_le hp0).mp (show 10 ≤ v.toInt.natAbs / 10 ^ k by omega)
          rw [Nat.mul_comm]
          exact h1
    exact loop1 9 0 rfl (Or.inl rfl)
  refine rX12_writeNumber_0 ⟨fun h0 => ?_, fun h0 => ⟨I.ob, m_write (c := 45) I (by omega) fun M1 s1 C1 I1 e1 => ⟨rfl, ?_⟩⟩⟩
  · rw [mo_abs v hv']
    refine key l M s (mo_Cf.refl M) I rfl (by omega) ?_
    have : ¬ v < 0 := fun hz => by
      rw [Int32.lt_iff_toInt_lt] at hz
      rw [Int32.le_iff_toInt_le] at h0
      omega
    rw [ow_num, if_neg this, List.nil_append]
  · rw [mo_abs v hv']
    have : v < 0 := by
      rw [Int32.lt_iff_toInt_lt]
      rw [Int32.le_iff_toInt_le] at h0
      omega
    refine key (l ++ [45]) M1 s1 C1 I1 e1 (by rw [List.length_append, List.length_singleton]; omega) ?_
    rw [ow_num, if_pos this, List.append_assoc]
theorem m_writeName {i : Nat} (I : mo_I M O hn h sv isS er ea n b (l) s rb) (hO : ow_Ok1 O) (hi : i < o_nw O) (hN : ow_Nm (o_nm O i)) (hl : l.length + ow_ln (o_nm O i) ≤ 256) (q : ∀ M1 s1, mo_Cf M M1 → mo_I M1 O hn h sv isS er ea n b (l ++ ow_wo (o_nm O i) (ow_ln (o_nm O i))) s1 rb → s1 9 = s 9 → Qr none M1) : kz_C G (d + 1) 0 0 mX12_writeName [.ref 99, .int (nI i)] M Qr Qx := by
  have hnw := hO.1.2.2.1
  have hlt := hN.lt
  obtain ⟨c, k, h1, h6, hc, hx⟩ := hN
  have hln : ow_ln (o_nm O i) = k := by rw [hx]; exact ow_ln_nm (by omega) hc
  have hp27 : mo_nm (o_nm O i) = mo_p27 c k := by rw [hx]; exact mo_nm_nm (by omega) hc
  rw [hln] at hl q
  have i15 : (15 : Int32) + nI i = nI (15 + i) := nI_add 15 i
  rw [hp27] at hlt
  have P6 : (27 : Nat) ^ 6 < 2 ^ 31 := by decide
  have rd : ∀ {M1 : kz_M} {s1 : Nat → Int32} {m : List Nat}, mo_I M1 O hn h sv isS er ea n b (m) s1 rb → ∃ f, M1.1 99 = some (.inl (11, mo_fs s1 rb)) ∧ M1.1 100 = some (.inr (.int, 3813, .inl f)) ∧ f (15 + i) = nI (mo_p27 c k) := fun I1 => by
    obtain ⟨f, g, D1, W1⟩ := I1.D
    exact ⟨f, D1.1, D1.2.1, by rw [W1.nm hi, hp27]⟩
  have loop2 : ∀ j, j ≤ k → ∀ M1 s1 m, mo_Cf M M1 → mo_I M1 O hn h sv isS er ea n b (m) s1 rb → s1 9 = s 9 → m ++ ow_wo (o_nm O i) j = l ++ ow_wo (o_nm O i) k → zX12_writeName_26 G d Qr Qx 99 (nI i) (if j = 0 then 0 else nI (27 ^ (j - 1))) M1 := by
    intro j
    induction j with
    | zero =>
      intro _ M1 s1 m C1 I1 e1 g4
      rw [ow_wo, List.append_nil] at g4
      subst g4
      exact rX12_writeName_26 (ow_y (by decide) (q M1 s1 C1 I1 e1))
    | succ j ih =>
      intro hj M1 s1 m C1 I1 e1 g4
      have hml : m.length + (j + 1) = l.length + k := by
        have := congrArg List.length g4
        rw [List.length_append, List.length_append, ow_wo_len, ow_wo_len] at this
        exact this
      rw [if_neg (by omega), show j + 1 - 1 = j from rfl]
      have hp : 27 ^ j ≤ 27 ^ 6 := Nat.pow_le_pow_right (by omega) (by omega)
      have hp0 : 0 < 27 ^ j := Nat.pow_pos (by omega)
      have hne : ¬ nI (27 ^ j) = 0 := fun e => by
        have := (nI_eq (b := 0) (by omega) (by omega)).mp e
        omega
      obtain ⟨f, x1, x2, x3⟩ := rd I1
      have hd1 := mo_p27_div hc j (by omega)
      have hd2 := ow_nm_div hc j (by omega)
      have hcj := hc (k - (j + 1)) (by omega)
      have eq1 : mo_p27 c (k - j) % 27 = c (k - (j + 1)) - 96 := by
        rw [show k - j = (k - (j + 1)) + 1 by omega, mo_p27]; omega
      have eq2 : ow_nm c 0 (k - j) % 32 = c (k - (j + 1)) - 96 := by
        rw [show k - j = (k - (j + 1)) + 1 by omega, ow_nm]; omega
      have hlt2 : mo_p27 c (k - j) < 2 ^ 31 := by
        have := mo_p27_lt (hc.le (j := k - j) (by omega))
        have h2 : 27 ^ (k - j) ≤ 27 ^ 6 := Nat.pow_le_pow_right (by omega) (by omega)
        omega
      refine rX12_writeName_26 (ow_n (nI_ge (a := 0) hp0 (by omega)) ⟨_, _, x1, rfl, _, _, x2, ?_, hne, I1.ob, ?_⟩)
      · rw [i15]; exact vp_in_nI (by omega) (by omega)
      rw [i15, nI_clamp (n := 15 + i) (by omega), x3]
      have e : (96 : Int32) + ((nI (mo_p27 c k) / nI (27 ^ j)) - (nI (mo_p27 c k) / nI (27 ^ j)) / 27 * 27) = nI (96 + o_nm O i / 2 ^ (5 * j) % 32) := by
        rw [pk_div hlt hp0 (by omega), hd1, show nI (mo_p27 c (k - j)) - nI (mo_p27 c (k - j)) / 27 * 27 = nI (mo_p27 c (k - j) % 27) from pk_rem (d := 27) hlt2 (by omega) (by omega), eq1, hx, hd2, eq2]
        exact nI_add 96 _
      rw [e]
      refine m_write I1 (by omega) fun M2 s2 C2 I2 e2 => ⟨rfl, ?_⟩
      have hdv : nI (27 ^ j) / 27 = if j = 0 then 0 else nI (27 ^ (j - 1)) := by
        rw [show nI (27 ^ j) / 27 = nI (27 ^ j / 27) from pk_div (d := 27) (by omega) (by omega) (by omega)]
        by_cases hk0 : j = 0
        · subst hk0; rfl
        · rw [if_neg hk0]
          obtain ⟨j, rfl⟩ : ∃ m, j = m + 1 := ⟨j - 1, by omega⟩
          rw [Nat.pow_succ, Nat.mul_div_cancel _ (by omega)]
          rfl
      rw [hdv]
      refine ih (by omega) M2 s2 _ (C1.trans C2) I2 (e2.trans e1) ?_
      rw [← g4, ow_wo, List.append_assoc, List.singleton_append]
  have loop1 : ∀ f j, j + 1 + f = k → zX12_writeName_2 G d Qr Qx 99 (nI i) (nI (27 ^ j)) M := by
    obtain ⟨fw, x1, x2, x3⟩ := rd I
    intro f
    induction f with
    | zero =>
      intro j hj
      have hp : 27 ^ j ≤ 27 ^ 6 := Nat.pow_le_pow_right (by omega) (by omega)
      have hp0 : 0 < 27 ^ j := Nat.pow_pos (by omega)
      have hne : ¬ nI (27 ^ j) = 0 := fun e => by
        have := (nI_eq (b := 0) (by omega) (by omega)).mp e
        omega
      have hd1 := mo_p27_div hc j (by omega)
      refine rX12_writeName_2 ⟨_, _, x1, rfl, _, _, x2, ?_, hne, ?_⟩
      · rw [i15]; exact vp_in_nI (by omega) (by omega)
      rw [i15, nI_clamp (n := 15 + i) (by omega), x3, pk_div hlt hp0 (by omega), hd1]
      have h0 := hc 0 (by omega)
      have hs : mo_p27 c (k - j) ≤ 26 := by
        rw [show k - j = 0 + 1 by omega, mo_p27, mo_p27]; omega
      refine ow_y (nI_le (b := 26) hs (by omega)) ?_
      have := loop2 (j + 1) (by omega) M s l (mo_Cf.refl M) I rfl (by rw [show j + 1 = k by omega])
      rw [if_neg (by omega), show j + 1 - 1 = j from rfl] at this
      exact this
    | succ f ih =>
      intro j hj
      have hp : 27 ^ j ≤ 27 ^ 6 := Nat.pow_le_pow_right (by omega) (by omega)
      have hp0 : 0 < 27 ^ j := Nat.pow_pos (by omega)
      have hne : ¬ nI (27 ^ j) = 0 := fun e => by
        have := (nI_eq (b := 0) (by omega) (by omega)).mp e
        omega
      have hd1 := mo_p27_div hc j (by omega)
      refine rX12_writeName_2 ⟨_, _, x1, rfl, _, _, x2, ?_, hne, ?_⟩
      · rw [i15]; exact vp_in_nI (by omega) (by omega)
      rw [i15, nI_clamp (n := 15 + i) (by omega), x3, pk_div hlt hp0 (by omega), hd1]
      have h0 := hc (k - j - 1) (by omega)
      have h2 := hc (k - j - 2) (by omega)
      have hs : 26 < mo_p27 c (k - j) := by
        rw [show k - j = ((k - j - 2) + 1) + 1 by omega, mo_p27, mo_p27, show k - j - 2 + 1 = k - j - 1 by omega]
        omega
      have hlt2 : mo_p27 c (k - j) < 2 ^ 31 := by
        have := mo_p27_lt (hc.le (j := k - j) (by omega))
        have h2 : 27 ^ (k - j) ≤ 27 ^ 6 := Nat.pow_le_pow_right (by omega) (by omega)
        omega
      refine ow_n (nI_ge (a := 26) hs hlt2) ?_
      rw [show nI (27 ^ j) * 27 = nI (27 ^ (j + 1)) by rw [Nat.pow_succ]; exact pk_mul _ 27]
      exact ih (j + 1) (by omega)
  exact rX12_writeName_0 (loop1 (k - 1) 0 (by omega))
end MOA
