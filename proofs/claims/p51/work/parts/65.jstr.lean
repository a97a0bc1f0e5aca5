/-! Part 65: builders of texts, and texts -/
/-- letters of a byte -/
def jA (l : List Nat) : Prop := ∀ x ∈ l, x < 128
def jb (l : List Nat) : Nat → Int32 := fun i => nI (l.getD i 0)
theorem jA_get {l : List Nat} (h : jA l) (i : Nat) : l.getD i 0 < 128 := by
  rw [List.getD_eq_getElem?_getD]
  cases hi : l[i]? with
  | none => show 0 < 128; decide
  | some x => exact h x (List.mem_of_getElem? hi)
theorem jA_app {l m : List Nat} (h : jA l) (g : jA m) : jA (l ++ m) := fun x hx => (List.mem_append.mp hx).elim (h x) (g x)
theorem jb_fit0 : ∀ x, x < 128 → fits .byte (.int (nI x)) = true := by decide +kernel
theorem jb_nar0 : ∀ x, x < 128 → vp_nar .byte (nI x) = nI x := by decide +kernel
theorem jb_i2b : ∀ x, x < 128 → (nI x).toInt8.toInt32 = nI x := by decide +kernel
theorem jb_255 : ∀ x, x < 128 → ((nI x &&& 255).toUInt32 % 65536).toInt32 = nI x := by decide +kernel
theorem jb_fit {l : List Nat} (h : jA l) (i : Nat) : fits .byte (.int (jb l i)) = true := jb_fit0 _ (jA_get h i)
theorem jb_out {l : List Nat} {i : Nat} (h : l.length ≤ i) : jb l i = 0 := by
  unfold jb
  rw [List.getD_eq_getElem?_getD, List.getElem?_eq_none h]
  rfl
theorem jb_l {l m : List Nat} {i : Nat} (h : i < l.length) : jb (l ++ m) i = jb l i := by
  unfold jb
  rw [List.getD_eq_getElem?_getD, List.getD_eq_getElem?_getD, List.getElem?_append_left h]
theorem jb_r {l m : List Nat} {i : Nat} (h : l.length ≤ i) : jb (l ++ m) i = jb m (i - l.length) := by
  unfold jb
  rw [List.getD_eq_getElem?_getD, List.getD_eq_getElem?_getD, List.getElem?_append_right h]
theorem jb_cpy {l : List Nat} {n : Nat} (h : l.length ≤ n) : va_cpy (jb l) (fun _ => 0) 0 0 n = jb l := by
  funext j
  unfold va_cpy
  split
  · congr 1; omega
  · rw [jb_out (by omega)]
theorem jb_put {l m : List Nat} : va_cpy (jb m) (jb l) 0 l.length m.length = jb (l ++ m) := by
  funext j
  unfold va_cpy
  split
  · rw [jb_r (by omega)]; congr 1; omega
  · rcases Nat.lt_or_ge j l.length with h | h
    · rw [jb_l h]
    · rw [jb_out h, jb_out (by rw [List.length_append]; omega)]
theorem jb_one {l : List Nat} {c : Nat} : upd (jb l) l.length (nI c) = jb (l ++ [c]) := by
  funext j
  unfold upd
  split
  · rename_i h
    subst h
    rw [jb_r (Nat.le_refl _), Nat.sub_self]
    rfl
  · rcases Nat.lt_or_ge j l.length with h | h
    · rw [jb_l h]
    · rw [jb_out h, jb_out (by rw [List.length_append, List.length_singleton]; omega)]
/-- a builder at a with its row v of so many places -/
def jS (M : kz_M) (a v cap : Nat) (l : List Nat) : Prop := M.1 a = some (.inl (15, [.ref v, .int 0, .int 0, .int (nI l.length)])) ∧ M.1 v = some (.inr (.byte, cap, .inl (jb l))) ∧ (l.length ≤ cap ∧ cap ≤ 1000 ∧ l.length ≤ 480) ∧ jA l
/-- a text -/
def jT (M : kz_M) (a : Nat) (l : List Nat) : Prop := ∃ v cap, M.1 a = some (.inl (14, [.ref v, .int 0, .int 0, .int 0])) ∧ M.1 v = some (.inr (.byte, cap, .inl (jb l))) ∧ cap = l.length ∧ l.length ≤ 480 ∧ jA l ∧ a ≤ v
section JST
variable {G : kz_G} {d mc ms : Nat} {Qr : Option Value → kz_M → Prop} {Qx : String → kz_M → Prop} {M : kz_M}
theorem c_newLen {a b p m : Nat} {x y z : Int32} (hx : x = nI a) (hy : y = nI b) (hz : z = nI p) (hm : m = a + (if b < p then p else b)) (h : a < 2 ^ 20 ∧ b < 2 ^ 20 ∧ p < 2 ^ 20) (h0 : 0 < m) (q : Qr (some (.int (nI m))) M) : kz_C G (d + 1) 0 0 mJ8_newLength_cabcc [.int x, .int y, .int z] M Qr Qx := by
  subst hx hy hz
  have e : nI a + (if nI b < nI p then nI p else nI b) = nI m := by
    by_cases hb : b < p
    · rw [if_pos (nI_lt hb (by omega)), nI_add, hm, if_pos hb]
    · rw [if_neg (nI_nlt (by omega) (by omega)), nI_add, hm, if_neg hb]
  have hmm : m < 2 ^ 22 := by rw [hm]; split <;> omega
  refine rJ8_newLength_cabcc_0 ?_
  rw [e]
  exact ⟨fun hz => absurd hz (nI_nle h0 (by omega)), fun _ => ⟨fun hz => absurd hz (nI_nlt (a := 2147483639) (b := m) (by omega) (by decide)), fun _ => q⟩⟩
theorem c_newCap {a v cap q : Nat} {l : List Nat} (h : jS M a v cap l) (hq : cap < q) (hq2 : q ≤ 480) (Q : Qr (some (.int (nI (if q < 2 * cap + 2 then 2 * cap + 2 else q)))) M) : kz_C G (d + 2) 0 0 mJ5_newCapacity_0f7a4 [.ref a, .int (nI q)] M Qr Qx := by
  obtain ⟨h1, h2, h3, h4⟩ := h
  refine rJ5_newCapacity_0f7a4_0 ⟨_, _, h1, rfl, _, _, h2, _, _, h1, rfl, _, _, h1, rfl, ?_⟩
  refine c_newLen (a := cap) (b := q - cap) (p := cap + 2) (m := if q < 2 * cap + 2 then 2 * cap + 2 else q) rfl ?_ ?_ ?_ (by omega) (by split <;> omega) ⟨_, rfl, fun _ => ⟨_, _, h1, rfl, ?_⟩, fun hz => ?_⟩
  · rw [sb_shl0]; exact pk_sub (by omega)
  · rw [sb_shl0]; exact nI_add cap 2
  · split <;> split <;> omega
  · rw [sb_shr0]; exact Q
  · have := (nI_eq (a := if q < 2 * cap + 2 then 2 * cap + 2 else q) (b := 2147483647) (by split <;> omega) (by decide)).mp hz
    split at this <;> omega
theorem c_copyB {p cap q : Nat} {l : List Nat} {x : Int32} (hx : x = nI q) (h : M.1 p = some (.inr (.byte, cap, .inl (jb l)))) (hl : l.length ≤ cap) (hA : jA l) (hq : cap < q) (hq2 : q ≤ 1000) (hmc : 1 ≤ mc) (hms : q ≤ ms) (Q : ∀ M1, ow_Nw (fun _ => False) M M1 → M1.2 = M.2 + 1 → M1.1 M.2 = some (.inr (.byte, q, .inl (jb l))) → Qr (some (.ref M.2)) M1) : kz_C G (d + 1) mc ms mJ7_copyOf_9075b [.ref p, .int x] M Qr Qx := by
  subst hx
  refine kz_Cfr fun hf => ?_
  have hp := hf _ _ h
  have h1 : (kz_nw M (.inr (.byte, q, .inl (fun _ => 0)))).1 p = some (.inr (.byte, cap, .inl (jb l))) := (kz_nw_ne (by omega)).trans h
  have e : (if nI q < Int32.ofNat cap then nI q else Int32.ofNat cap) = nI cap := if_neg (nI_nlt (by omega) (by omega))
  refine rJ7_copyOf_9075b_0 ⟨_, _, h, ⟨fun _ => ?_, fun hz => ?_⟩⟩
  · refine ⟨q, nI_pos (by omega), nI_clamp (by omega), by omega, by omega, by omega, _, _, h1, _, _, _, _, h1, kz_nw_same _ _, fun i _ => jb_fit hA i, by decide, by decide, ?_⟩
    dsimp only
    rw [e, nI_clamp (by omega)]
    refine ⟨nI_pos (by omega), by show 0 + cap ≤ cap; omega, by show 0 + cap ≤ q; omega, fun M1 e1 => ?_⟩
    refine Q M1 ⟨fun k hk _ => ?_, ?_⟩ ?_ ?_
    · rw [e1, kz_up_ne (by omega), kz_nw_ne (by omega)]
    · rw [e1, kz_up_2, kz_nw_2]; omega
    · rw [e1, kz_up_2, kz_nw_2]
    · rw [e1, kz_up_same]
      show some (Sum.inr (FieldType.byte, q, Sum.inl (va_cpy (jb l) (fun _ => 0) 0 0 cap))) = _
      rw [jb_cpy hl]
  · have := (nI_eq (a := q) (b := cap) (by omega) (by omega)).mp hz
    omega
/-- room for q letters -/
theorem c_ensure {a v cap q : Nat} {l : List Nat} {x : Int32} (hP : kz_statP G) (hx : x = nI q) (h : jS M a v cap l) (hq2 : q ≤ 480) (hmc : 1 ≤ mc) (hms : 1000 ≤ ms) (Q : ∀ M1 v' cap', ow_Nw (fun k => k = a) M M1 → M1.2 ≤ M.2 + 1 → jS M1 a v' cap' l → q ≤ cap' → (v' = v ∨ (v' = M.2 ∧ M1.2 = M.2 + 1)) → Qr none M1) : kz_C G (d + 3) mc ms mJ5_ensureCapacityInternal_d00df [.ref a, .int x] M Qr Qx := by
  subst hx
  refine kz_Cfr fun hf => ?_
  obtain ⟨h1, h2, h3, h4⟩ := h
  have ha := hf _ _ h1
  have hv := hf _ _ h2
  refine rJ5_ensureCapacityInternal_d00df_0 hP ⟨_, _, h1, rfl, _, _, h2, _, _, h1, rfl, ?_⟩
  dsimp only
  rw [sb_shr0]
  have e0 : (nI q - Int32.ofNat cap).toInt = (q : Int) - cap := pk_sub_toInt (by omega) (by omega)
  refine ⟨fun hz => ?_, fun hz => ?_⟩
  · rw [Int32.le_iff_toInt_le, e0] at hz
    have h0 : (0 : Int32).toInt = 0 := by decide
    exact Q M v cap ⟨fun _ _ _ => rfl, Nat.le_refl _⟩ (Nat.le_succ _) ⟨h1, h2, h3, h4⟩ (by omega) (Or.inl rfl)
  · have hlt : cap < q := by
      rcases Nat.lt_or_ge cap q with g | g
      · exact g
      · exfalso
        apply hz
        rw [Int32.le_iff_toInt_le, e0]
        have h0 : (0 : Int32).toInt = 0 := by decide
        omega
    refine ⟨_, _, h1, rfl, ⟨_, h1⟩, c_newCap ⟨h1, h2, h3, h4⟩ hlt hq2 ⟨_, rfl, _, _, h1, rfl, 1, 1000, by omega, by omega, ?_⟩⟩
    refine c_copyB (q := if q < 2 * cap + 2 then 2 * cap + 2 else q) (sb_shl0 _) h2 h3.1 h4 (by split <;> omega) (by split <;> omega) (by omega) (by split <;> omega) fun M1 g1 g2 g3 => ⟨_, rfl, _, (g1.1 a ha (fun z => z)).trans h1, ow_l rfl, ?_⟩
    refine Q _ M.2 (if q < 2 * cap + 2 then 2 * cap + 2 else q) ⟨fun k hk hka => ?_, ?_⟩ ?_ ⟨kz_up_same _ _ _, (kz_up_ne (by omega)).trans g3, ⟨by split <;> omega, by split <;> omega, h3.2.2⟩, h4⟩ (by split <;> omega) (Or.inr ⟨rfl, by rw [kz_up_2, g2]⟩)
    · rw [kz_up_ne hka]; exact g1.1 k hk (fun z => z)
    · rw [kz_up_2, g2]; omega
    · rw [kz_up_2, g2]; omega
theorem c_isLat {a v cap : Nat} {l : List Nat} (hG : kz_stat G) (h : jS M a v cap l) (Q : Qr (some (.int 1)) M) : kz_C G d 0 0 mJ5_isLatin1_aae02 [.ref a] M Qr Qx :=
  rJ5_isLatin1_aae02_0 hG ⟨fun hz => absurd hz (by decide), fun _ => ⟨_, _, h.1, rfl, fun hz => absurd rfl hz, fun _ => Q⟩⟩
/-- what the builder's changes leave -/
abbrev jI (a v : Nat) : Nat → Prop := fun k => k = a ∨ k = v
theorem c_appS {a v cap j : Nat} {l w : List Nat} (hG : kz_stat G) (hP : kz_statP G) (h : jS M a v cap l) (hL : kz_lit G j) (hw : kz_txt j = w.map nI) (hA : jA w) (hn : l.length + w.length ≤ 480) (hmc : 1 ≤ mc) (hms : 1000 ≤ ms) (Q : ∀ M1 v' cap', ow_Nw (jI a v) M M1 → M1.2 ≤ M.2 + 1 → jS M1 a v' cap' (l ++ w) → (v' = v ∨ (v' = M.2 ∧ M1.2 = M.2 + 1)) → Qr (some (.ref a)) M1) : kz_C G (d + 5) mc ms mJ4_append_15ec4 [.ref a, .retAddr j] M Qr Qx := by
  have hlen : (kz_txt j).length = w.length := by rw [hw, List.length_map]
  have hget : (fun k => (kz_txt j).getD k 0) = jb w := by
    funext k
    rw [hw]
    unfold jb
    rw [List.getD_eq_getElem?_getD, List.getD_eq_getElem?_getD, List.getElem?_map]
    cases w[k]? <;> rfl
  refine kz_Cfr fun hf => ?_
  have ha := hf _ _ h.1
  have hv := hf _ _ h.2.1
  refine rJ4_append_15ec4_0 ⟨⟨_, h.1⟩, 1, 1000, by omega, by omega, ?_⟩
  refine rJ5_append_cf1ce_0 hP ⟨hL, kz_lengthL hG hL ⟨_, rfl, _, _, h.1, rfl, ⟨_, h.1⟩, 1, 1000, by omega, by omega, ?_⟩⟩
  refine c_ensure hP (q := l.length + w.length) (by rw [hlen]; exact nI_add _ _) h hn (by omega) (by omega) fun M1 v' cap' g1 g2 g3 g4 g5 => ⟨rfl, _, _, g3.1, rfl, ⟨_, g3.1⟩, ?_⟩
  refine rJ5_putStringAt_47b60_0 hP ⟨⟨_, g3.1⟩, rJ5_inflateIfNeededFor_a7421_0 hG ⟨fun hz => absurd hz (by decide), fun _ => ⟨_, _, g3.1, rfl, hL, kz_coderL hG hL ⟨_, rfl, fun _ => ⟨rfl, _, _, g3.1, rfl, _, _, g3.1, rfl, hL, ?_⟩, fun hz => absurd rfl hz⟩⟩⟩⟩
  refine rJ0_getBytes_840e7_0 ⟨hL, kz_coderL hG hL ⟨_, rfl, fun hz => absurd rfl hz, fun _ => ⟨hL, hL, hL, _, _, hL, g3.2.1, fun i _ => ?_, by decide, ?_, ?_, ?_, ?_, fun M2 e2 => ⟨rfl, ?_⟩⟩⟩⟩
  · have : (kz_txt j).getD i 0 = jb w i := congrFun hget i
    rw [this]; exact jb_fit hA i
  · rw [sb_shl0]; exact nI_pos (by omega)
  · rw [hlen]; exact nI_pos (by omega)
  · rw [hlen]; show 0 + (nI w.length).toNatClampNeg ≤ w.length; rw [nI_clamp (by omega)]; omega
  · rw [sb_shl0, hlen]; show (nI l.length).toNatClampNeg + (nI w.length).toNatClampNeg ≤ cap'; rw [nI_clamp (by omega), nI_clamp (by omega)]; exact g4
  · have hav : a ≠ v' := fun z => by have := g3.1; rw [z, g3.2.1] at this; cases this
    have e3 : M2.1 v' = some (.inr (.byte, cap', .inl (jb (l ++ w)))) := by
      rw [e2, kz_up_same, hget, hlen, sb_shl0]
      show some (Sum.inr (FieldType.byte, cap', Sum.inl (va_cpy (jb w) (jb l) 0 (nI l.length).toNatClampNeg (nI w.length).toNatClampNeg))) = _
      rw [nI_clamp (by omega), nI_clamp (by omega), jb_put]
    have e4 : M2.1 a = _ := (congrFun (congrArg Prod.fst e2) a).trans ((kz_up_ne hav).trans g3.1)
    refine ⟨rfl, _, _, e4, rfl, _, e4, ow_l rfl, ⟨_, rfl, ?_⟩⟩
    have g12 := g1.2
    have hv' : v' < M1.2 := by rcases g5 with rfl | ⟨rfl, g6⟩ <;> omega
    refine Q _ v' cap' ⟨fun k hk hkp => ?_, ?_⟩ ?_ ⟨?_, (kz_up_ne hav.symm).trans e3, ⟨by rw [List.length_append]; exact g4, g3.2.2.1.2.1, by rw [List.length_append]; exact hn⟩, jA_app h.2.2.2 hA⟩ (g5.imp id fun g => ⟨g.1, by rw [kz_up_2, e2, kz_up_2]; exact g.2⟩)
    · have hka : k ≠ a := fun z => hkp (Or.inl z)
      have hkv : k ≠ v' := fun z => by
        rcases g5 with g | ⟨g, g6⟩
        · exact hkp (Or.inr (z.trans g))
        · omega
      rw [kz_up_ne hka, e2, kz_up_ne hkv]
      exact g1.1 k hk hka
    · rw [kz_up_2, e2, kz_up_2]; exact g1.2
    · rw [kz_up_2, e2, kz_up_2]; exact g2
    · rw [kz_up_same, hlen, List.length_append]
      show some (Sum.inl (15, [Value.ref v', Value.int 0, Value.int 0, Value.int (nI l.length + nI w.length)])) = _
      rw [nI_add]
theorem c_appC {a v cap c : Nat} {l : List Nat} (hG : kz_stat G) (hP : kz_statP G) (h : jS M a v cap l) (hc : c < 128) (hn : l.length + 1 ≤ 480) (hmc : 1 ≤ mc) (hms : 1000 ≤ ms) (Q : ∀ M1 v' cap', ow_Nw (jI a v) M M1 → M1.2 ≤ M.2 + 1 → jS M1 a v' cap' (l ++ [c]) → (v' = v ∨ (v' = M.2 ∧ M1.2 = M.2 + 1)) → Qr (some (.ref a)) M1) : kz_C G (d + 5) mc ms mJ4_append_cf468 [.ref a, .int (nI c)] M Qr Qx := by
  refine kz_Cfr fun hf => ?_
  have ha := hf _ _ h.1
  have hv := hf _ _ h.2.1
  refine rJ4_append_cf468_0 ⟨⟨_, h.1⟩, 1, 1000, by omega, by omega, ?_⟩
  refine rJ5_append_3fe6f_0 hP ⟨_, _, h.1, rfl, ⟨_, h.1⟩, 1, 1000, by omega, by omega, ?_⟩
  refine c_ensure hP (q := l.length + 1) (by rw [nI_1]) h hn (by omega) (by omega) fun M1 v' cap' g1 g2 g3 g4 g5 => ⟨rfl, ⟨_, g3.1⟩, c_isLat hG g3 ⟨_, rfl, fun hz => absurd hz (by decide), fun _ => rJ1_canEncode_fc78d_0 ⟨fun hz => absurd hz (nI_nlt (a := 255) (b := c) (by omega) (by decide)), fun _ => ⟨_, rfl, fun hz => absurd hz (by decide), fun _ => ?_⟩⟩⟩⟩
  have hav : a ≠ v' := fun z => by have := g3.1; rw [z, g3.2.1] at this; cases this
  have g12 := g1.2
  have hcp := g3.2.2.1
  refine ⟨_, _, g3.1, rfl, _, _, g3.1, rfl, _, g3.1, ow_l rfl, _, _, (kz_up_ne hav.symm).trans g3.2.1, vp_in_nI (by omega) (by omega), ?_⟩
  have hn9 : vp_nar .byte ((nI c).toInt8.toInt32) = nI c := by rw [jb_i2b c hc]; exact jb_nar0 c hc
  have hv' : v' < M1.2 := by rcases g5 with rfl | ⟨rfl, g6⟩ <;> omega
  have fin : ∀ M2 : kz_M, M2 = kz_up (kz_up M1 a (.inl (15, [.ref v', .int 0, .int 0, .int (nI l.length + 1)]))) v' (.inr (.byte, cap', .inl (upd (jb l) (nI l.length).toNatClampNeg (vp_nar .byte ((nI c).toInt8.toInt32))))) → Qr (some (.ref a)) M2 := by
    intro M2 e2
    rw [nI_clamp (by omega), hn9, jb_one] at e2
    refine Q M2 v' cap' ⟨fun k hk hkp => ?_, ?_⟩ ?_ ⟨?_, ?_, ⟨by rw [List.length_append]; exact g4, g3.2.2.1.2.1, by rw [List.length_append]; exact hn⟩, jA_app h.2.2.2 (fun x hx => by rw [List.mem_singleton.mp hx]; exact hc)⟩ (g5.imp id fun g => ⟨g.1, by rw [e2, kz_up_2, kz_up_2]; exact g.2⟩)
    · have hka : k ≠ a := fun z => hkp (Or.inl z)
      have hkv : k ≠ v' := fun z => by
        rcases g5 with g | ⟨g, g6⟩
        · exact hkp (Or.inr (z.trans g))
        · omega
      rw [e2, kz_up_ne hkv, kz_up_ne hka]
      exact g1.1 k hk hka
    · rw [e2, kz_up_2, kz_up_2]; exact g1.2
    · rw [e2, kz_up_2, kz_up_2]; exact g2
    · rw [e2, kz_up_ne hav, kz_up_same, List.length_append, List.length_singleton, ← nI_succ]
    · rw [e2, kz_up_same]
  exact fun M35 e9 => ⟨_, rfl, fin M35 e9⟩
end JST
