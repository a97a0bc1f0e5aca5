/-! Part 75: the law's own office; LineOfficeLaw.isSame -/
theorem jLn.kp {M M1 : kz_M} {a : Nat} {s : ow_S} {l : ow_L} (h : jLn M a s l) (g : ow_Kp M M1) : jLn M1 a s l := by
  obtain ⟨aw, f, h1, h2, h3, h4⟩ := h
  exact ⟨aw, f, g _ _ h3.2.2.2 h1, g _ _ h3.2.2.1 h2, h3, h4⟩
theorem jL.kp {M M1 : kz_M} {a e n cap : Nat} {x : Nat → Nat} (h : jL M a e n cap x) (ha : 99 ≤ a) (he : 99 ≤ e) (g : ow_Kp M M1) : jL M1 a e n cap x := by
  rcases h with ⟨h1, h2, h3, h4⟩ | ⟨h1, h2, h3, h4⟩
  · exact Or.inl ⟨h1, h2, h3, g _ _ ha h4⟩
  · exact Or.inr ⟨h1, g _ _ ha h2, g _ _ he h3, h4⟩
theorem jRow.kp {M M1 : kz_M} {a n : Nat} {f : Nat → Int32} (h : jRow M a n f) (ha : 99 ≤ a) (g : ow_Kp M M1) : jRow M1 a n f := by
  obtain ⟨f', h1, h2⟩ := h
  exact ⟨f', g _ _ ha h1, h2⟩
/-- the lines of a work stand one behind the other -/
def jCt (w : ow_W) : Prop := (w.2.2.2.2 0).1 = 0 ∧ ∀ j, j + 1 < w.2.2.2.1 → (w.2.2.2.2 (j + 1)).1 = (w.2.2.2.2 j).2.1
/-- the law's works -/
def jX (M : kz_M) (O : ow_O) (e0 capW : Nat) (xW al el cp : Nat → Nat) (y : Nat → Nat → Nat) : Prop := jL M 100 e0 (o_wk O) capW xW ∧ 99 ≤ e0 ∧ ∀ i, i < o_wk O → jWk M (xW i) (al i) (el i) (cp i) (y i) (o_ws O i) ∧ (104 < xW i ∧ 99 ≤ al i ∧ 99 ≤ el i) ∧ ((∀ j, j < (o_ws O i).2.2.2.1 → xW i < y i j) ∧ ∀ j j', j < j' → j' < (o_ws O i).2.2.2.1 → y i j < y i j') ∧ (∀ i', i < i' → i' < o_wk O → ∀ j, j < (o_ws O i).2.2.2.1 → y i j < xW i') ∧ jCt (o_ws O i) ∧ 0 < (o_ws O i).2.2.2.1 ∧ (o_ws O i).2.2.2.1 ≤ 16
/-- the law's own office is this one -/
def jZ (M : kz_M) (O : ow_O) : Prop := jZo M O ∧ (jRow M 101 3 (o_ba O) ∧ jRow M 102 3 (o_pd O) ∧ jRow M 103 3 (fun i => nI (o_ln O (fun w => decide (w = i)) 4)) ∧ jRow M 104 3 (fun i => nI (o_ru O (7 + i)))) ∧ (o_nw O = 3 ∧ 1 ≤ o_ru O 1) ∧ ∃ e0 capW xW al el cp y, jX M O e0 capW xW al el cp y
theorem jWk.kp {M M1 : kz_M} {a al e cap : Nat} {y : Nat → Nat} {w : ow_W} (h : jWk M a al e cap y w) (ha : 99 ≤ a) (hl : 99 ≤ al) (he : 99 ≤ e) (g : ow_Kp M M1) : jWk M1 a al e cap y w := ⟨g _ _ ha h.1, h.2.1.kp hl he g, fun i hi => (h.2.2 i hi).kp g⟩
theorem jX.kp {M M1 : kz_M} {O : ow_O} {e0 capW : Nat} {xW al el cp : Nat → Nat} {y : Nat → Nat → Nat} (h : jX M O e0 capW xW al el cp y) (g : ow_Kp M M1) : jX M1 O e0 capW xW al el cp y := ⟨h.1.kp (by decide) h.2.1 g, h.2.1, fun i hi => by
  obtain ⟨h1, h2, h3⟩ := h.2.2 i hi
  exact ⟨h1.kp (by omega) h2.2.1 h2.2.2 g, h2, h3⟩⟩
theorem jZ.kp {M M1 : kz_M} {O : ow_O} (h : jZ M O) (g : ow_Kp M M1) : jZ M1 O := by
  obtain ⟨h1, ⟨h2, h3, h4, h5⟩, h6, e0, capW, xW, al, el, cp, y, h7⟩ := h
  exact ⟨g _ _ (show 99 ≤ 99 by decide) h1, ⟨h2.kp (by decide) g, h3.kp (by decide) g, h4.kp (by decide) g, h5.kp (by decide) g⟩, h6, e0, capW, xW, al, el, cp, y, h7.kp g⟩
section JSA
variable {G : kz_G} {d mc ms : Nat} {Qr : Option Value → kz_M → Prop} {Qx : String → kz_M → Prop} {M M0 : kz_M} {O : ow_O} {hn : Nat} {h : Nat → ow_O} {sv : ow_O} {isS : Bool} {er : Nat} {ea : Int32} {n : Nat} {b : Nat → Nat} {l : List Nat}
theorem c_countK {k : Nat} (hk : k < 9) (hG : kz_stat G) (I : ow_CI M O hn h sv isS er ea n b l) (hO : ow_Ok1 O) (hmc : 1 ≤ mc) (hms : 6 ≤ ms) (q : Qr (some (.int (sp_count O hn k))) M) : kz_C G (d + 7) mc ms mX11_count [.ref 0, .int (nI k)] M Qr Qx :=
  c_count hG I hO hmc hms (fun h => absurd rfl (h k hk)) fun j hj e => by
    have := (nI_eq (by omega) (by omega)).mp e
    subst this
    exact q
theorem c_workK {v k : Nat} (hv : v < o_wk O) (hk : k < 8) (hG : kz_stat G) (I : ow_CI M O hn h sv isS er ea n b l) (hO : ow_Ok1 O) (hmc : 2 ≤ mc) (hms : 12 ≤ ms) (q : Qr (some (.int (sp_wk (o_ws O v) k))) M) : kz_C G (d + 8) mc ms mX11_work [.ref 0, .int (nI v), .int (nI k)] M Qr Qx := by
  have h12 := hO.1.2.2.2.1
  refine c_work hG I hO hmc hms (fun h => absurd rfl (h v hv)) (fun j hj e h => absurd rfl (h k hk)) fun j k' hj e hk' e' => ?_
  have e1 := (nI_eq (by omega) (by omega)).mp e
  have e2 := (nI_eq (by omega) (by omega)).mp e'
  subst e1 e2
  exact q
theorem c_lineK {v k i : Nat} (hv : v < o_wk O) (hk : k < (o_ws O v).2.2.2.1) (hi : i < 7) (hG : kz_stat G) (I : ow_CI M O hn h sv isS er ea n b l) (hO : ow_Ok1 O) (hmc : 3 ≤ mc) (hms : 18 ≤ ms) (q : Qr (some (.int (sp_ln (o_ws O v).2.2.1 ((o_ws O v).2.2.2.2 k) i))) M) : kz_C G (d + 9) mc ms mX11_line [.ref 0, .int (nI v), .int (nI k), .int (nI i)] M Qr Qx := by
  have h12 := hO.1.2.2.2.1
  have h60 := fun j hj => (hO.2.2.2 j hj).2.1
  refine c_line hG I hO hmc hms (fun h => (h v k hv hk rfl rfl).elim) (fun j k' hj e hk' e' h => absurd rfl (h i hi)) fun j k' i' hj e hk' e' hi' e'' => ?_
  have e1 := (nI_eq (by omega) (by omega)).mp e
  subst e1
  have := h60 v hv
  have e2 := (nI_eq (by omega) (by omega)).mp e'
  have e3 := (nI_eq (by omega) (by omega)).mp e''
  subst e2 e3
  exact q
theorem c_writerK {v k : Nat} (hv : v < o_nw O) (hk : k < 10) (hG : kz_stat G) (I : ow_CI M O hn h sv isS er ea n b l) (hO : ow_Ok1 O) (hmc : 2 ≤ mc) (hms : 12 ≤ ms) (q : ∀ M1, ow_Cf M M1 → ow_CI M1 O hn h sv isS er ea n b l → Qr (some (.int (sp_wrt O v k))) M1) : kz_C G (d + 8) mc ms mX11_writer [.ref 0, .int (nI v), .int (nI k)] M Qr Qx := by
  have h6 := hO.1.2.2.1
  refine c_writerQ hG I hO hmc hms (fun h => absurd rfl (h v hv)) (fun j hj e h => absurd rfl (h k hk)) fun j k' hj e hk' e' => ?_
  have e1 := (nI_eq (by omega) (by omega)).mp e
  have e2 := (nI_eq (by omega) (by omega)).mp e'
  subst e1 e2
  exact q
theorem jL.o {M : kz_M} {a e n cap : Nat} {x : Nat → Nat} (h : jL M a e n cap x) : ∃ fs, M.1 a = some (.inl (16, fs)) := by
  obtain ⟨m, v, h1, -⟩ := h.ob
  exact ⟨_, h1⟩
theorem c_isSame (hG : kz_stat G) (I : ow_CI M0 O hn h sv isS er ea n b l) (hO : ow_Ok1 O) (Z : jZ M0 O) (hmc : 400 ≤ mc) (hms : 2400 ≤ ms) (Q : ∀ M1, ow_Cf M0 M1 → ow_CI M1 O hn h sv isS er ea n b l → Qr (some (.int 1)) M1) : kz_C G (d + 10) mc ms mL_isSame [.ref 99, .ref 0] M0 Qr Qx := by
  have h12 := hO.1.2.2.2.1
  have hnw := Z.2.2.1.1
  -- the lines of the last work
  have k184 : ∀ v, v < o_wk O → ∀ k, k ≤ (o_ws O v).2.2.2.1 → ∀ (M : kz_M) (c sl x3 al el cp : Nat) (y : Nat → Nat), ow_Cf M0 M → ow_CI M O hn h sv isS er ea n b l → jWk M x3 al el cp y (o_ws O v) → jCt (o_ws O v) → (o_ws O v).2.2.2.1 ≤ 16 → c ≤ 26 + 21 * k → sl ≤ 160 + 126 * k → zL_isSame_184 G d mc ms Qr Qx 0 (nI v) x3 (nI (if k = 0 then 0 else ((o_ws O v).2.2.2.2 (k - 1)).2.1)) (nI k) M c sl := by
    intro v hv
    refine ow_loop _ ?_ ?_
    · intro M c sl x3 al el cp y C I hw hct h16 hc hs
      exact rL_isSame_184 (by omega) (by omega) ⟨_, _, hw.1, rfl, hw.2.1.o, c_listSize hw.2.1 ⟨_, rfl, ow_y (nI_le (Nat.le_refl _) (by omega)) (Q M C I)⟩⟩
    · intro k hk ih M c sl x3 al el cp y C I hw hct h16 hc hs
      have hl := hw.2.2 k hk
      have hlo := (hO.2.2.2 v hv).2.2.2.2 k hk
      have hso := (hO.2.2.2 v hv).1
      refine rL_isSame_184 (by omega) (by omega) ⟨_, _, hw.1, rfl, hw.2.1.o, c_listSize hw.2.1 ⟨_, rfl, ow_n (nI_ge hk (by omega)) ⟨_, _, hw.1, rfl, hw.2.1.o, c_listGet hw.2.1 hk (by omega) ⟨_, rfl, hl.ob, ?_⟩⟩⟩⟩
      obtain ⟨aw, f, q1, q2, q3⟩ := hl
      have hl : jLn M (y k) (o_ws O v).2.2.1 ((o_ws O v).2.2.2.2 k) := ⟨aw, f, q1, q2, q3⟩
      have hfrom : ((o_ws O v).2.2.2.2 k).1 = if k = 0 then 0 else ((o_ws O v).2.2.2.2 (k - 1)).2.1 := by
        by_cases h0 : k = 0
        · rw [if_pos h0, h0]; exact hct.1
        · rw [if_neg h0]
          have := hct.2 (k - 1) (by omega)
          rwa [show k - 1 + 1 = k by omega] at this
      refine rL_isSame_214 (by omega) (by omega) ⟨I.ob, 3, 18, by omega, by omega, c_lineK (i := 0) hv hk (by decide) hG I hO (by omega) (by omega) ⟨_, rfl, ow_nn ?_ ⟨I.ob, 3, 18, by omega, by omega, c_lineK (i := 1) hv hk (by decide) hG I hO (by omega) (by omega) ⟨_, rfl, _, _, q1, rfl, ow_nn rfl ⟨I.ob, 3, 18, by omega, by omega, c_lineK (i := 2) hv hk (by decide) hG I hO (by omega) (by omega) ⟨_, rfl, _, _, q1, rfl, ow_nn rfl ⟨I.ob, 3, 18, by omega, by omega, c_lineK (i := 3) hv hk (by decide) hG I hO (by omega) (by omega) ⟨_, rfl, _, _, q1, rfl, ow_nn rfl ⟨I.ob, 3, 18, by omega, by omega, c_lineK (i := 4) hv hk (by decide) hG I hO (by omega) (by omega) ⟨_, rfl, _, _, q1, rfl, ow_nn rfl ⟨I.ob, 3, 18, by omega, by omega, c_lineK (i := 5) hv hk (by decide) hG I hO (by omega) (by omega) ⟨_, rfl, _, _, q1, rfl, ow_nn rfl ⟨I.ob, 3, 18, by omega, by omega, c_lineK (i := 6) hv hk (by decide) hG I hO (by omega) (by omega) ⟨_, rfl, c_distinctOf hl hl.bd ⟨_, rfl, ow_y rfl ?_⟩⟩⟩⟩⟩⟩⟩⟩⟩⟩⟩⟩⟩⟩⟩
      · show nI ((o_ws O v).2.2.2.2 k).1 = _
        rw [hfrom]
      · refine rL_isSame_326 (by omega) (by omega) ⟨_, _, q1, rfl, ?_⟩
        rw [nI_add, nI_1]
        have := ih M (c + 3 + 3 + 3 + 3 + 3 + 3 + 3) (sl + 18 + 18 + 18 + 18 + 18 + 18 + 18) x3 al el cp y C I hw hct h16 (by omega) (by omega)
        rw [if_neg (by omega), show k + 1 - 1 = k by omega] at this
        rw [← hfrom, show ((o_ws O v).2.2.2.2 k).1 + (((o_ws O v).2.2.2.2 k).2.1 - ((o_ws O v).2.2.2.2 k).1) = ((o_ws O v).2.2.2.2 k).2.1 by have := hlo.1; omega]
        exact this
  -- the writers
  have k45 : ∀ i, i ≤ 3 → ∀ (M : kz_M) (c sl : Nat), ow_Cf M0 M → ow_CI M O hn h sv isS er ea n b l → c ≤ 3 + 6 * i → sl ≤ 18 + 36 * i → zL_isSame_45 G d mc ms Qr Qx 99 0 (nI i) M c sl := by
    refine ow_loop 3 ?_ ?_
    · intro M c sl C I hc hs
      obtain ⟨z1, -, -, e0, capW, xW, al, el, cp, y, zx⟩ := Z.kp C.1
      refine rL_isSame_45 (by omega) (by omega) (ow_y (nI_le (Nat.le_refl 3) (by decide)) ?_)
      refine rL_isSame_105 (by omega) (by omega) ⟨_, _, z1, rfl, zx.1.o, c_listEmpty zx.1 (by omega) ⟨_, rfl, ?_⟩⟩
      by_cases h0 : o_wk O = 0
      · rw [if_pos h0]
        exact ow_n (by decide) (Q M C I)
      · rw [if_neg h0]
        refine ow_y rfl ?_
        obtain ⟨w1, w2, w3, w4, w5, w6, w7⟩ := zx.2.2 (o_wk O - 1) (by omega)
        have hm1 : nI (o_wk O) - 1 = nI (o_wk O - 1) := pk_sub (b := 1) (by omega)
        refine rL_isSame_119 (by omega) (by omega) ⟨_, _, z1, rfl, zx.1.o, c_listSize zx.1 ⟨_, rfl, _, _, z1, rfl, zx.1.o, ?_⟩⟩
        rw [hm1]
        refine c_listGet zx.1 (by omega) (by omega) ⟨_, rfl, ⟨_, w1.1⟩, ?_⟩
        refine rL_isSame_145 (by omega) (by omega) ⟨I.ob, 2, 12, by omega, by omega, c_workK (k := 4) (by omega) (by decide) hG I hO (by omega) (by omega) ⟨_, rfl, _, _, w1.1, rfl, w1.2.1.o, c_listSize w1.2.1 ⟨_, rfl, ow_nn rfl ⟨I.ob, 2, 12, by omega, by omega, c_workK (k := 0) (by omega) (by decide) hG I hO (by omega) (by omega) ⟨_, rfl, _, _, w1.1, rfl, ow_y rfl ?_⟩⟩⟩⟩⟩
        refine rL_isSame_178 (by omega) (by omega) ?_
        exact k184 (o_wk O - 1) (by omega) 0 (Nat.zero_le _) M _ _ _ _ _ _ _ C I w1 w5 w7 (by omega) (by omega)
    · intro i hi ih M c sl C I hc hs
      refine rL_isSame_45 (by omega) (by omega) (ow_n (nI_ge (b := 3) hi (by decide)) ⟨I.ob, 2, 12, by omega, by omega, c_writerK (k := 0) (by omega) (by decide) hG I hO (by omega) (by omega) fun M1 C1 I1 => ⟨_, rfl, ?_⟩⟩)
      obtain ⟨z1, ⟨⟨f1, a1, a2, a3⟩, -, -, -⟩, -⟩ := Z.kp (C.trans C1).1
      refine ⟨_, _, z1, rfl, _, _, a1, vp_in_nI hi (by decide), ?_⟩
      rw [nI_clamp (by omega), a3 i hi]
      refine ow_nn rfl ⟨I1.ob, 2, 12, by omega, by omega, c_writerK (k := 6) (by omega) (by decide) hG I1 hO (by omega) (by omega) fun M2 C2 I2 => ⟨_, rfl, ?_⟩⟩
      obtain ⟨z1, ⟨-, -, ⟨f3, b1, b2, b3⟩, -⟩, -⟩ := Z.kp ((C.trans C1).trans C2).1
      refine ⟨_, _, z1, rfl, _, _, b1, vp_in_nI hi (by decide), ?_⟩
      rw [b3 i hi]
      refine ow_nn rfl ⟨I2.ob, 2, 12, by omega, by omega, c_writerK (k := 7) (by omega) (by decide) hG I2 hO (by omega) (by omega) fun M3 C3 I3 => ⟨_, rfl, ?_⟩⟩
      obtain ⟨z1, ⟨-, ⟨f2, d1, d2, d3⟩, -, -⟩, -⟩ := Z.kp (((C.trans C1).trans C2).trans C3).1
      refine ⟨_, _, z1, rfl, _, _, d1, vp_in_nI hi (by decide), ?_⟩
      rw [d3 i hi, nI_1]
      exact ow_y rfl (ih M3 _ _ (((C.trans C1).trans C2).trans C3) I3 (by omega) (by omega))
  have Z0 := Z
  obtain ⟨z1, -, -, e0, capW, xW, al, el, cp, y, zx⟩ := Z0
  exact rL_isSame_0 ⟨I.ob, 1, 6, by omega, by omega, c_countK (k := 1) (by decide) hG I hO (by omega) (by omega) ⟨_, rfl, _, _, z1, rfl, zx.1.o, c_listSize zx.1 ⟨_, rfl, ow_nn rfl ⟨I.ob, 1, 6, by omega, by omega, c_countK (k := 5) (by decide) hG I hO (by omega) (by omega) ⟨_, rfl, _, _, z1, rfl, ow_nn rfl ⟨I.ob, 1, 6, by omega, by omega, c_countK (k := 4) (by decide) hG I hO (by omega) (by omega) ⟨_, rfl, _, _, z1, rfl, ow_y rfl (k45 0 (by decide) M0 _ _ (ow_Cf.refl _) I (by omega) (by omega))⟩⟩⟩⟩⟩⟩⟩
end JSA
