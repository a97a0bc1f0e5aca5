/-! Part 91: the law from its start -/
section J91
variable {M1 M9 : kz_M} {h : Nat → Nat}
theorem jRO {s : Nat} {O : ow_O} (hs : s + 8 ≤ 99) (hh : ∀ j, j < 99 → h j = j) (hf1 : ow_fr M1) (m2 : M1.2 = 99) (hM : ∀ k, k < 99 → ∀ e, M1.1 k = some e → jgb e = true → M9.1 k = some (jre h e)) (R : ow_RO M1 s O) : ow_RO M9 s O := by
  obtain ⟨h1, h2, ⟨f3, h3, h3'⟩, ⟨f4, h4, h4'⟩, ⟨f5, h5, h5'⟩, ⟨f6, h6, h6'⟩, ⟨f7, h7, h7', h7''⟩, f8, h8, h8'⟩ := R
  refine ⟨?_, ?_, ⟨f3, hM _ (by omega) _ h3 rfl, h3'⟩, ⟨f4, hM _ (by omega) _ h4 rfl, h4'⟩, ⟨f5, hM _ (by omega) _ h5 rfl, h5'⟩, ⟨f6, hM _ (by omega) _ h6 rfl, h6'⟩, ⟨fun j => (f7 j).map h, hM _ (by omega) _ h7 rfl, fun i hi b hb => ?_, fun i hi => ?_⟩, f8, hM _ (by omega) _ h8 rfl, h8'⟩
  · have := hM _ (by omega) _ h1 rfl
    rw [this]
    show some (Sum.inl (8, [Value.int (nI (o_dy O)), Value.int (nI (o_mo O)), Value.int (nI (o_nw O)), Value.int (nI (o_wk O)), Value.ref (h (s + 1)), Value.ref (h (s + 2)), Value.ref (h (s + 3)), Value.ref (h (s + 4)), Value.ref (h (s + 5)), Value.ref (h (s + 6))])) = _
    rw [hh _ (by omega), hh _ (by omega), hh _ (by omega), hh _ (by omega), hh _ (by omega), hh _ (by omega)]
  · have := hM _ (by omega) _ h2 rfl
    rw [this]
    show some (Sum.inl (2, [Value.ref (h (s + 7)), Value.int (nI (o_ne O))])) = _
    rw [hh _ (by omega)]
  · exfalso
    have hb : (f7 i).map h = some b := hb
    cases hx : f7 i with
    | none => rw [hx] at hb; cases hb
    | some b0 =>
      obtain ⟨k1, fs, k2⟩ := h7' i hi b0 hx
      have := hf1 _ _ k2
      have k1 : 99 ≤ b0 := k1
      omega
  · exfalso
    obtain ⟨b, hb, sc, al, f, k1, k2, k3, k4, k5⟩ := h7'' i hi
    have := hf1 _ _ k1
    have k4 : 99 ≤ b := k4
    omega
theorem jC0 (hh : ∀ j, j < 99 → h j = j) (hf1 : ow_fr M1) (C : ow_C0 M1) (hM : ∀ k, k < 99 → ∀ e, M1.1 k = some e → jgb e = true → M9.1 k = some (jre h e)) (h99 : 99 ≤ M9.2) : ow_CI M9 o_1 0 (fun _ => o_0) o_0 false 0 (-1) 0 (fun _ => 0) [] := by
  obtain ⟨m2, c0, ⟨i1, i2, fi, i3, i4⟩, ⟨t1, t2, t3, ft, t4, t5⟩, r5, r13, ⟨K, r, ⟨q1, q2, ⟨fq, q3, q4⟩, q5⟩, q6⟩, ⟨⟨tk, st, w, v, s1⟩, s2, fs, s3, s4⟩, p1, p2, fp, p3, p4⟩ := C
  refine ⟨?_, ⟨?_, i2, fi, hM _ (by decide) _ i3 rfl, i4⟩, ⟨?_, t2, t3, ft, hM _ (by decide) _ t4 rfl, t5⟩, jRO (by decide) hh hf1 m2 hM r5, jRO (by decide) hh hf1 m2 hM r13, ⟨K, r, ⟨?_, q2, ⟨fun j => (fq j).map h, hM _ (by decide) _ q3 rfl, fun j hj => ?_⟩, fun j hj => jRO (by omega) hh hf1 m2 hM (q5 j hj)⟩, q6⟩, ⟨0, 0, 0, o_0, fun _ => false, ⟨tk, st, w, v, ?_⟩, jRO (by decide) hh hf1 m2 hM s2, fs, hM _ (by decide) _ s3 rfl, s4⟩, ⟨0, fun _ => ((0, 0, (fun _ => 0), fun _ => 0), (0, 0, 0, 0, 0, 0)), ?_, p2, fun j => (fp j).map h, hM _ (by decide) _ p3 rfl, fun i hi => absurd hi (Nat.not_lt_zero i)⟩, h99⟩
  · rw [hM _ (by decide) _ c0 rfl]
    show some (Sum.inl (10, [Value.ref (h 1), Value.ref (h 3), Value.ref (h 5), Value.ref (h 13), Value.ref (h 21), Value.ref (h 87), Value.ref (h 97), Value.int 0, Value.int 0, Value.int (-1)])) = _
    rw [hh 1 (by decide), hh 3 (by decide), hh 5 (by decide), hh 13 (by decide), hh 21 (by decide), hh 87 (by decide), hh 97 (by decide)]
    rfl
  · rw [hM _ (by decide) _ i1 rfl]
    show some (Sum.inl (1, [Value.ref (h 2), Value.int (nI 0)])) = _
    rw [hh 2 (by decide)]
  · rw [hM _ (by decide) _ t1 rfl]
    show some (Sum.inl (4, [Value.ref (h 4), Value.int (nI 0)])) = _
    rw [hh 4 (by decide)]
    rfl
  · rw [hM _ (by decide) _ q1 rfl]
    show some (Sum.inl (0, [Value.ref (h 22), Value.int (nI r), Value.int (nI 0)])) = _
    rw [hh 22 (by decide)]
  · dsimp only
    rw [q4 j hj]
    exact congrArg some (hh _ (by omega))
  · unfold ow_R8
    rw [hM _ (by decide) _ s1 rfl]
    show some (Sum.inl (7, [Value.ref (h 88), Value.ref (h 96), Value.int (nI tk), Value.int (nI st), Value.int (nI 0), Value.long w, Value.int v, Value.int 0, Value.int 0])) = _
    rw [hh 88 (by decide), hh 96 (by decide)]
  · rw [hM _ (by decide) _ p1 rfl]
    show some (Sum.inl (5, [Value.ref (h 98), Value.int (nI 0)])) = _
    rw [hh 98 (by decide)]
end J91
theorem jWof {M2 M9 : kz_M} {P mo me st wo fi te di fe B : Nat} (hY : jY M2 (jv0 mo me st wo fi te di fe) (jst mo me st wo fi te di fe) B) (hP : P = M2.2) (hM : ∀ k, k < P → ∀ e, M2.1 k = some e → jgb e = true → M9.1 (k + 99) = some (jre (jg P) e)) : jW M9 mo me st wo fi te di fe ∧ 8 ≤ P := by
  obtain ⟨h1, ⟨h2, ⟨f3, a3, b3⟩, ⟨f4, a4, b4⟩, ⟨f5, a5, b5⟩, ⟨f6, a6, b6⟩⟩, ⟨v, cap, ⟨s1, s2, s3⟩, hv⟩, -⟩ := hY
  have hg : ∀ j, j < P → jg P j = j + 99 := fun j hj => by unfold jg; rw [if_pos hj]
  refine ⟨⟨?_, ⟨hM 1 (by omega) _ h2 rfl, ⟨f3, hM 2 (by omega) _ a3 rfl, b3⟩, ⟨f4, hM 3 (by omega) _ a4 rfl, b4⟩, ⟨f5, hM 4 (by omega) _ a5 rfl, b5⟩, ⟨f6, hM 5 (by omega) _ a6 rfl, b6⟩⟩, v + 99, cap, ⟨?_, hM v (by omega) _ s2 rfl, s3⟩, by omega⟩, by omega⟩
  · rw [hM 0 (by omega) _ h1 rfl]
    show some (Sum.inl (13, [Value.ref (jg P 1), Value.ref (jg P 2), Value.ref (jg P 3), Value.ref (jg P 4), Value.int (nI mo), Value.int 0, Value.int (nI me), Value.int (nI st), Value.int (nI wo), Value.int (nI fi), Value.int (nI te), Value.int (nI di), Value.int (nI fe), Value.ref (jg P 5), Value.ref (jg P 6)])) = _
    rw [hg 1 (by omega), hg 2 (by omega), hg 3 (by omega), hg 4 (by omega), hg 5 (by omega), hg 6 (by omega)]
  · rw [hM 6 (by omega) _ s1 rfl]
    show some (Sum.inl (15, [Value.ref (jg P v), Value.int 0, Value.int 0, Value.int _])) = _
    rw [hg v (by omega)]
theorem c_lawAll {G0 : kz_G} {d mc ms N x0 : Nat} {xs : Nat → Int32} (hP0 : G0.2.2.2 9999 = 0) (hG : kz_stat G0) (hG2 : kz_stat2 G0) (hP : kz_statP G0) (hX : va_X (G0.2.2.2 x0) N xs G0.2.2.1 G0.2.2.1.heap) (hbs : G0.2.2.2 x0 < G0.2.2.1.heap.size) (hN : N < 2 ^ 31) (hx0 : x0 ≠ 9999) (hmc : 1300 + 24 * 12400 ≤ mc) (hms : 40000 + 24 * 152400 ≤ ms) : zL_law_0 G0 d mc ms jQ jQx x0 ((fun _ => none), 0) 0 0 := by
  refine rL_law_0 (by omega) (by omega) ⟨by omega, by omega, 40, 20000, by omega, by omega, ?_⟩
  refine c_initL hG hG2 hP hX hbs hN rfl rfl (Nat.le_refl _) (Nat.le_refl _) fun M2 x hY => ⟨rfl, by omega, by omega, 98, 3564, by omega, by omega, ?_⟩
  refine kz_Cmono ?_ (fun _ _ z => z.elim) (kz_conv1 (d := d + 11) (mc := 98) (ms := 3564) hP0 fun G1 w => c_make (w.stat hG) (kz_nw_same _ _) rfl (Nat.le_refl _) (Nat.le_refl _) fun M1 C => ⟨rfl, C⟩)
  rintro v M6 ⟨rfl, M1, C, hf1, rfl⟩
  refine ⟨rfl, ?_⟩
  have m2 : M1.2 = 99 := C.1
  have cells : ∀ k, k < M2.2 → ∀ e, M2.1 k = some e → jgb e = true → (jM2 M2.2 (jJo M2 M1)).1 (k + 99) = some (jre (jg M2.2) e) := fun k hk e he hg => by
    show ((jJo M2 M1).1 (jgi M2.2 (k + 99))).bind _ = _
    have e1 : jgi M2.2 (k + 99) = k := by unfold jgi; rw [if_neg (by omega), if_pos (by omega)]; omega
    have e2 : (jJo M2 M1).1 k = some e := (if_pos hk).trans he
    rw [e1, e2]
    show (if jgb e = true then _ else none) = _
    rw [if_pos hg]
  obtain ⟨W, h8⟩ := jWof (M9 := jM2 M2.2 (jJo M2 M1)) hY rfl cells
  have hsz : 99 + M2.2 ≤ (jJo M2 M1).2 := by show 99 + M2.2 ≤ M2.2 + M1.2; omega
  have cells1 : ∀ k, k < 99 → ∀ e, M1.1 k = some e → jgb e = true → (jM2 M2.2 (jJo M2 M1)).1 k = some (jre (fun j => jg M2.2 (M2.2 + j)) e) := fun k hk e he hg => by
    show ((jJo M2 M1).1 (jgi M2.2 k)).bind _ = _
    have e1 : jgi M2.2 k = k + M2.2 := by unfold jgi; rw [if_pos hk]
    have e2 : (jJo M2 M1).1 (k + M2.2) = some (jre (M2.2 + ·) e) := by
      show (if k + M2.2 < M2.2 then _ else (M1.1 (k + M2.2 - M2.2)).map _) = _
      rw [if_neg (by omega), Nat.add_sub_cancel, he]
      rfl
    rw [e1, e2]
    show (if jgb (jre (M2.2 + ·) e) = true then some (jre (jg M2.2) (jre (M2.2 + ·) e)) else none) = _
    have hg2 : jgb (jre (M2.2 + ·) e) = true := by
      rcases e with o | a
      · show (o.2.map (jrv (M2.2 + ·))).all jgv = true
        rw [List.all_map]
        have hg : o.2.all jgv = true := hg
        refine List.all_eq_true.mpr fun v hv => ?_
        have := List.all_eq_true.mp hg v hv
        cases v with
        | retAddr j => exact this
        | _ => rfl
      · rfl
    rw [if_pos hg2, jre_comp]
  have I : ow_CI (jM2 M2.2 (jJo M2 M1)) o_1 0 (fun _ => o_0) o_0 false 0 (-1) 0 (fun _ => 0) [] := jC0 (h := fun j => jg M2.2 (M2.2 + j)) (fun j hj => by unfold jg; rw [if_neg (by omega), if_pos (by omega)]; omega) hf1 C cells1 (by show 99 ≤ M2.2 + M1.2; omega)
  have w := jG2_lt (G0 := G0) M2.2
  have ex : (jG2 G0 M2.2).2.2.2 x0 = G0.2.2.2 x0 := if_neg hx0
  have p1 := jbt_lt x 0 8
  have p2 := jbt_lt x 8 4
  have p3 := jbt_lt x 12 2
  have p4 := jbt_lt x 14 2
  have p5 := jbt_lt x 16 3
  have p6 := jbt_lt x 19 2
  have p7 := jbt_lt x 21 2
  have p8 := jbt_lt x 23 2
  refine kz_conv2 (P := M2.2) (ls2 := [(0, .retAddr x0), (1, .ref 99)]) (st2 := [.ref 0]) hP0 (by omega) hsz ?_ ?_ (c_law16 (N := N) (xs := xs) (p := x0) (w.stat hG) (w.stat2 hG2) (w.statP hP) (by rw [ex]; exact hX) (by rw [ex]; exact hbs) hN I W (by omega) (by omega) (by omega) (by omega) (by omega) (by omega) (by omega) (by omega) (by omega) (by omega) fun M => rfl)
  · have e9 : jg M2.2 0 = 99 := by unfold jg; rw [if_pos (by omega)]
    have := jg_ad (G0 := G0) (P := M2.2) hP0 (by omega) 0
    rw [e9] at this
    show [(0, Value.ref ((jG2 G0 M2.2).2.2.2 x0)), (1, Value.ref (kz_ad (jG2 G0 M2.2) 99))] = [(0, Value.ref (G0.2.2.2 x0)), (1, Value.ref (kz_ad G0 0))]
    rw [ex, this]
  · have e9 : jg M2.2 M2.2 = 0 := by unfold jg; rw [if_neg (by omega), if_pos (by omega)]; omega
    have := jg_ad (G0 := G0) (P := M2.2) hP0 (by omega) M2.2
    rw [e9] at this
    show [Value.ref (kz_ad (jG2 G0 M2.2) 0)] = [Value.ref (kz_ad G0 M2.2)]
    rw [this]
