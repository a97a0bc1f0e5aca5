/-! Part 65b: numbers are appended -/
def jN (x : Nat) : List Nat := if x < 10 then [48 + x] else if x < 100 then [48 + x / 10, 48 + x % 10] else [48 + x / 100, 48 + x % 100 / 10, 48 + x % 10]
theorem jN_A {x : Nat} (h : x < 1000) : jA (jN x) := by
  intro y hy
  unfold jN at hy
  split at hy
  · simp only [List.mem_singleton] at hy; omega
  · split at hy
    · simp only [List.mem_cons, List.not_mem_nil, or_false] at hy; omega
    · simp only [List.mem_cons, List.not_mem_nil, or_false] at hy; omega
theorem jN_len (x : Nat) : (jN x).length = if x < 10 then 1 else if x < 100 then 2 else 3 := by
  unfold jN
  split
  · rfl
  · split <;> rfl
theorem jN_c1 : ∀ x, x < 1000 → (decide (-(nI x) ≤ (-10 : Int32)) = decide (10 ≤ x)) := by decide +kernel
theorem jN_c2 : ∀ x, x < 1000 → (decide (-(nI x) ≤ (10 * (-10) : Int32)) = decide (100 ≤ x)) := by decide +kernel
theorem jN_c3 : ∀ x, x < 1000 → ¬ (-(nI x) ≤ (10 * (10 * (-10)) : Int32)) := by decide +kernel
theorem jN_c4 : ∀ x, x < 1000 → (decide ((-100 : Int32) < -(nI x)) = decide (x < 100)) := by decide +kernel
theorem jN_c5 : ∀ x, x < 100 → (decide ((-9 : Int32) ≤ -(nI x)) = decide (x < 10)) := by decide +kernel
theorem jN_d : ∀ x, x < 1000 → -(nI x) / 100 = -(nI (x / 100)) ∧ (-(nI x) / 100) * 100 - -(nI x) = nI (x % 100) := by decide +kernel
theorem nI_m1 (k : Nat) : nI (k + 1) + (-1) = nI k := by
  rw [nI_succ, Int32.add_assoc, show (1 : Int32) + (-1) = 0 from by decide, Int32.add_zero]
theorem dcd {p q : Prop} [Decidable p] [Decidable q] (h : decide p = decide q) : p ↔ q := by
  by_cases hp : p <;> by_cases hq : q <;> simp_all
theorem jb_two {l : List Nat} {a b : Nat} : upd (upd (jb l) (l.length + 1) (nI b)) l.length (nI a) = jb (l ++ [a, b]) := by
  funext j
  unfold upd
  split
  · rename_i h; subst h; rw [jb_r (Nat.le_refl _), Nat.sub_self]; rfl
  · split
    · rename_i h; subst h; rw [jb_r (by omega), show l.length + 1 - l.length = 1 by omega]; rfl
    · rcases Nat.lt_or_ge j l.length with h | h
      · rw [jb_l h]
      · rw [jb_out h, jb_out (by rw [List.length_append]; show l.length + 2 ≤ j; omega)]
theorem jb_three {l : List Nat} {a b c : Nat} : upd (upd (upd (jb l) (l.length + 2) (nI c)) (l.length + 1) (nI b)) l.length (nI a) = jb (l ++ [a, b, c]) := by
  funext j
  unfold upd
  split
  · rename_i h; subst h; rw [jb_r (Nat.le_refl _), Nat.sub_self]; rfl
  · split
    · rename_i h; subst h; rw [jb_r (by omega), show l.length + 1 - l.length = 1 by omega]; rfl
    · split
      · rename_i h; subst h; rw [jb_r (by omega), show l.length + 2 - l.length = 2 by omega]; rfl
      · rcases Nat.lt_or_ge j l.length with h | h
        · rw [jb_l h]
        · rw [jb_out h, jb_out (by rw [List.length_append]; show l.length + 3 ≤ j; omega)]
section JSN
variable {G : kz_G} {d mc ms : Nat} {Qr : Option Value → kz_M → Prop} {Qx : String → kz_M → Prop} {M : kz_M}
theorem c_digits {x : Nat} (hx : x < 1000) (q : Qr (some (.int (nI (jN x).length))) M) : kz_C G d 0 0 mJ6_stringSize_0f7a4 [.int (nI x)] M Qr Qx := by
  rw [jN_len] at q
  refine rJ6_stringSize_0f7a4_0 ⟨fun hz => absurd hz (nI_pos (by omega)), fun _ => ?_⟩
  refine rJ6_stringSize_0f7a4_16 ⟨fun hz => absurd hz (by decide), fun _ => ⟨fun h1 => ?_, fun h1 => ?_⟩⟩
  · have g1 : 10 ≤ x := (dcd (jN_c1 x hx)).mp h1
    rw [if_neg (by omega)] at q
    refine rJ6_stringSize_0f7a4_16 ⟨fun hz => absurd hz (by decide), fun _ => ⟨fun h2 => ?_, fun h2 => ?_⟩⟩
    · have g2 : 100 ≤ x := (dcd (jN_c2 x hx)).mp h2
      rw [if_neg (by omega)] at q
      exact rJ6_stringSize_0f7a4_16 ⟨fun hz => absurd hz (by decide), fun _ => ⟨fun h3 => absurd h3 (jN_c3 x hx), fun _ => q⟩⟩
    · have g2 : ¬ 100 ≤ x := fun z => h2 ((dcd (jN_c2 x hx)).mpr z)
      rw [if_pos (by omega)] at q
      exact q
  · have g1 : ¬ 10 ≤ x := fun z => h1 ((dcd (jN_c1 x hx)).mpr z)
    rw [if_pos (by omega)] at q
    exact q
theorem c_getC {x v cap : Nat} {l : List Nat} {i : Int32} (hx : x < 1000) (hi : i = nI (l.length + (jN x).length)) (hG2 : kz_stat2 G) (h : M.1 v = some (.inr (.byte, cap, .inl (jb l)))) (hn : l.length + (jN x).length ≤ cap) (hc : cap ≤ 1000) (Q : ∀ M1 : kz_M, (∀ k, k ≠ v → M1.1 k = M.1 k) → M1.2 = M.2 → M1.1 v = some (.inr (.byte, cap, .inl (jb (l ++ jN x)))) → Qr (some (.int (nI l.length))) M1) : kz_C G d 0 0 mJ6_getChars_ba4f3 [.int (nI x), .int i, .ref v] M Qr Qx := by
  subst hi
  have hnn : ∀ z : Int32, -(-z) = z := fun z => Int32.neg_neg
  have nr : ∀ z, z < 128 → vp_nar .byte (nI z) = nI z := jb_nar0
  refine rJ6_getChars_ba4f3_0 ⟨fun _ => ⟨fun hz => absurd rfl hz, fun _ => ?_⟩, fun hz => absurd (nI_pos' (by omega)) hz⟩
  by_cases h1 : x < 100
  · by_cases h2 : x < 10
    · have el : (jN x).length = 1 := by rw [jN_len, if_pos h2]
      have en : jN x = [48 + x] := if_pos h2
      rw [el] at hn ⊢
      rw [en] at Q
      refine rJ6_getChars_ba4f3_22 hG2 ⟨fun _ => ⟨?_, cap, jb l, h, ?_, fun _ => ⟨fun _ => ?_, fun hz => absurd rfl hz⟩, fun hz => absurd ((dcd (jN_c5 x h1)).mpr h2) hz⟩, fun hz => absurd ((dcd (jN_c4 x hx)).mpr h1) hz⟩
      · rw [hnn]; exact vp_in_nI (by omega) (by decide)
      · rw [nI_m1]; exact vp_in_nI (by omega) (by omega)
      · rw [nI_m1, hnn, nI_clamp (by omega), nI_clamp (by omega), nr _ (by omega), Nat.mod_eq_of_lt h2, jb_one]
        exact Q _ (fun k hk => kz_up_ne hk) rfl (kz_up_same _ _ _)
    · have el : (jN x).length = 2 := by rw [jN_len, if_neg h2, if_pos h1]
      have en : jN x = [48 + x / 10, 48 + x % 10] := by unfold jN; rw [if_neg h2, if_pos h1]
      rw [el] at hn ⊢
      rw [en] at Q
      refine rJ6_getChars_ba4f3_22 hG2 ⟨fun _ => ⟨?_, cap, jb l, h, ?_, fun hz => absurd ((dcd (jN_c5 x h1)).mp hz) h2, fun _ => ⟨?_, cap, _, kz_up_same _ _ _, ?_, fun M2 e2 => ⟨fun _ => ?_, fun hz => absurd rfl hz⟩⟩⟩, fun hz => absurd ((dcd (jN_c4 x hx)).mpr h1) hz⟩
      · rw [hnn]; exact vp_in_nI (by omega) (by decide)
      · rw [show l.length + 2 = l.length + 1 + 1 from rfl, nI_m1]; exact vp_in_nI (by omega) (by omega)
      · rw [hnn]; exact vp_in_nI (by omega) (by decide)
      · rw [show l.length + 2 = l.length + 1 + 1 from rfl, nI_m1, nI_m1]; exact vp_in_nI (by omega) (by omega)
      · rw [show l.length + 2 = l.length + 1 + 1 from rfl, nI_m1, nI_m1, hnn, nI_clamp (n := x) (by omega), nI_clamp (n := l.length + 1) (by omega), nI_clamp (n := l.length) (by omega), nr _ (by omega), nr _ (by omega), jb_two] at e2
        rw [show l.length + 2 = l.length + 1 + 1 from rfl, nI_m1, nI_m1]
        refine Q M2 (fun k hk => ?_) ?_ ?_
        · rw [e2, kz_up_ne hk, kz_up_ne hk]
        · rw [e2]; rfl
        · rw [e2, kz_up_same]
  · have el : (jN x).length = 3 := by rw [jN_len, if_neg (by omega), if_neg h1]
    have en : jN x = [48 + x / 100, 48 + x % 100 / 10, 48 + x % 10] := by unfold jN; rw [if_neg (by omega), if_neg h1]
    obtain ⟨d1, d2⟩ := jN_d x hx
    rw [el] at hn ⊢
    rw [en] at Q
    refine rJ6_getChars_ba4f3_22 hG2 ⟨fun hz => absurd ((dcd (jN_c4 x hx)).mp hz) h1, fun _ => ?_⟩
    rw [d2, d1]
    have a3 : l.length + 3 = l.length + 2 + 1 := rfl
    have a2 : l.length + 2 = l.length + 1 + 1 := rfl
    rw [a3, nI_m1, a2, nI_m1, nI_clamp (n := x % 100) (by omega), nI_clamp (n := l.length + 1 + 1) (by omega), nI_clamp (n := l.length + 1) (by omega), nr _ (by omega), nr _ (by omega)]
    refine ⟨vp_in_nI (by omega) (by decide), cap, jb l, h, vp_in_nI (by omega) (by omega), fun M2 e2 => ⟨vp_in_nI (by omega) (by decide), cap, upd (jb l) (l.length + 1 + 1) (nI (48 + x % 100 % 10)), by rw [e2, kz_up_same], vp_in_nI (by omega) (by omega), fun M3 e3 => ?_⟩⟩
    have h3 : M3.1 v = some (.inr (.byte, cap, .inl (upd (upd (jb l) (l.length + 1 + 1) (nI (48 + x % 100 % 10))) (l.length + 1) (nI (48 + x % 100 / 10))))) := by rw [e3, kz_up_same]
    have hq : x / 100 < 10 := by omega
    refine rJ6_getChars_ba4f3_22 hG2 ⟨fun _ => ⟨?_, cap, _, h3, ?_, fun _ => ⟨fun _ => ?_, fun hz => absurd rfl hz⟩, fun hz => absurd ((dcd (jN_c5 (x / 100) (by omega))).mpr hq) hz⟩, fun hz => absurd ((dcd (jN_c4 (x / 100) (by omega))).mpr (by omega)) hz⟩
    · rw [hnn]; exact vp_in_nI (by omega) (by decide)
    · rw [nI_m1]; exact vp_in_nI (by omega) (by omega)
    · rw [nI_m1, hnn, nI_clamp (by omega), nI_clamp (by omega), nr _ (by omega), Nat.mod_eq_of_lt hq, show x % 100 % 10 = x % 10 by omega, jb_three]
      refine Q _ (fun k hk => ?_) ?_ (kz_up_same _ _ _)
      · rw [kz_up_ne hk, e3, kz_up_ne hk, e2, kz_up_ne hk]
      · rw [kz_up_2, e3, e2]; rfl
theorem c_appI {a v cap x : Nat} {l : List Nat} (hG : kz_stat G) (hG2 : kz_stat2 G) (hP : kz_statP G) (h : jS M a v cap l) (hx : x < 1000) (hn : l.length + 3 ≤ 480) (hmc : 1 ≤ mc) (hms : 1000 ≤ ms) (Q : ∀ M1 v' cap', ow_Nw (jI a v) M M1 → M1.2 ≤ M.2 + 1 → jS M1 a v' cap' (l ++ jN x) → (v' = v ∨ (v' = M.2 ∧ M1.2 = M.2 + 1)) → Qr (some (.ref a)) M1) : kz_C G (d + 5) mc ms mJ4_append_bf812 [.ref a, .int (nI x)] M Qr Qx := by
  have hj3 : (jN x).length ≤ 3 := by
    rw [jN_len]
    split
    · omega
    · split <;> omega
  refine kz_Cfr fun hf => ?_
  have ha := hf _ _ h.1
  have hv := hf _ _ h.2.1
  refine rJ4_append_bf812_0 ⟨⟨_, h.1⟩, 1, 1000, by omega, by omega, ?_⟩
  refine rJ5_append_c97b9_0 hP ⟨_, _, h.1, rfl, c_digits hx ⟨_, rfl, ⟨_, h.1⟩, 1, 1000, by omega, by omega, ?_⟩⟩
  rw [nI_add]
  refine c_ensure hP (q := l.length + (jN x).length) rfl h (by omega) (by omega) (by omega) fun M1 v' cap' g1 g2 g3 g4 g5 => ⟨rfl, ⟨_, g3.1⟩, c_isLat hG g3 ⟨_, rfl, fun hz => absurd hz (by decide), fun _ => ⟨_, _, g3.1, rfl, ?_⟩⟩⟩
  have hav : a ≠ v' := fun z => by have := g3.1; rw [z, g3.2.1] at this; cases this
  have g12 := g1.2
  have hv' : v' < M1.2 := by rcases g5 with rfl | ⟨rfl, g6⟩ <;> omega
  refine c_getC hx rfl hG2 g3.2.1 g4 g3.2.2.1.2.1 fun M2 k1 k2 k3 => ⟨_, rfl, _, (k1 a hav).trans g3.1, ow_l rfl, ?_⟩
  refine ⟨_, rfl, ?_⟩
  refine Q _ v' cap' ⟨fun k hk hkp => ?_, ?_⟩ ?_ ⟨?_, (kz_up_ne hav.symm).trans k3, ⟨by rw [List.length_append]; exact g4, g3.2.2.1.2.1, by rw [List.length_append]; omega⟩, jA_app h.2.2.2 (jN_A hx)⟩ (g5.imp id fun g => ⟨g.1, by rw [kz_up_2, k2]; exact g.2⟩)
  · have hka : k ≠ a := fun z => hkp (Or.inl z)
    have hkv : k ≠ v' := fun z => by
      rcases g5 with g | ⟨g, g6⟩
      · exact hkp (Or.inr (z.trans g))
      · omega
    rw [kz_up_ne hka, k1 k hkv]
    exact g1.1 k hk hka
  · rw [kz_up_2, k2]; exact g1.2
  · rw [kz_up_2, k2]; exact g2
  · rw [kz_up_same, List.length_append]
    rfl
end JSN
