/-! Part 79: the reference: a work is handed in; appeals -/
/-- a work's numbers lie in f1 from A on, of its lines the first l; all else is as in f -/
def kp_S (w : ow_W) (f f1 : Nat → Int32) (A l : Nat) : Prop := (f1 (A + 0) = nI w.1 ∧ f1 (A + 1) = nI w.2.2.1.1 ∧ f1 (A + 2) = nI w.2.1 ∧ f1 (A + 3) = nI w.2.2.1.2.1 ∧ f1 (A + 4) = nI w.2.2.2.1) ∧ (∀ i, i < l → f1 (A + 5 + 5 * i + 0) = nI (w.2.2.2.2 i).1 ∧ f1 (A + 5 + 5 * i + 1) = nI ((w.2.2.2.2 i).2.1 - (w.2.2.2.2 i).1) ∧ f1 (A + 5 + 5 * i + 2) = nI (w.2.2.2.2 i).2.2.2.2.2 ∧ f1 (A + 5 + 5 * i + 3) = nI (w.2.2.2.2 i).2.2.2.2.1 ∧ f1 (A + 5 + 5 * i + 4) = (w.2.2.2.2 i).2.2.2.1) ∧ ∀ j, j < A ∨ A + 305 ≤ j → f1 j = f j
theorem kp_S.step {w : ow_W} {f f1 : Nat → Int32} {A l : Nat} {st : Int32} (h : kp_S w f f1 A l) (hl : l < 60) (hs : st = nI (w.2.2.2.2 l).2.2.2.2.2) : kp_S w f (upd (upd (upd (upd (upd f1 (A + 5 + 5 * l + 0) (nI (w.2.2.2.2 l).1)) (A + 5 + 5 * l + 1) (nI ((w.2.2.2.2 l).2.1 - (w.2.2.2.2 l).1))) (A + 5 + 5 * l + 2) st) (A + 5 + 5 * l + 3) (nI (w.2.2.2.2 l).2.2.2.2.1)) (A + 5 + 5 * l + 4) (w.2.2.2.2 l).2.2.2.1) A (l + 1) := by
  obtain ⟨⟨a0, a1, a2, a3, a4⟩, b, c⟩ := h
  have u : ∀ j, j < A + 5 + 5 * l ∨ A + 5 + 5 * l + 5 ≤ j → upd (upd (upd (upd (upd f1 (A + 5 + 5 * l + 0) (nI (w.2.2.2.2 l).1)) (A + 5 + 5 * l + 1) (nI ((w.2.2.2.2 l).2.1 - (w.2.2.2.2 l).1))) (A + 5 + 5 * l + 2) st) (A + 5 + 5 * l + 3) (nI (w.2.2.2.2 l).2.2.2.2.1)) (A + 5 + 5 * l + 4) (w.2.2.2.2 l).2.2.2.1 j = f1 j := fun j hj => (if_neg (by omega)).trans ((if_neg (by omega)).trans ((if_neg (by omega)).trans ((if_neg (by omega)).trans (if_neg (by omega)))))
  refine ⟨⟨(u _ (by omega)).trans a0, (u _ (by omega)).trans a1, (u _ (by omega)).trans a2, (u _ (by omega)).trans a3, (u _ (by omega)).trans a4⟩, fun i hi => ?_, fun j hj => (u j (by omega)).trans (c j hj)⟩
  rcases Nat.lt_or_ge i l with h | h
  · obtain ⟨b0, b1, b2, b3, b4⟩ := b i h
    exact ⟨(u _ (by omega)).trans b0, (u _ (by omega)).trans b1, (u _ (by omega)).trans b2, (u _ (by omega)).trans b3, (u _ (by omega)).trans b4⟩
  · have : i = l := by omega
    subst this
    subst hs
    exact ⟨(if_neg (by omega)).trans ((if_neg (by omega)).trans ((if_neg (by omega)).trans ((if_neg (by omega)).trans (if_pos rfl)))), (if_neg (by omega)).trans ((if_neg (by omega)).trans ((if_neg (by omega)).trans (if_pos rfl))), (if_neg (by omega)).trans ((if_neg (by omega)).trans (if_pos rfl)), (if_neg (by omega)).trans (if_pos rfl), if_pos rfl⟩
/-- a work more -/
theorem mo_W.more {O : ow_O} {w : ow_W} {f f1 : Nat → Int32} {g g1 : Nat → Int64} {rb : Int64} (W : mo_W O f g 0 0) (hO : ow_Ok1 O) (hwk : o_wk O < 12) (hw : ow_Wok w) (hk : kp_S w f f1 (33 + 305 * o_wk O) w.2.2.2.1) (hg : ∀ j, j < 60 * o_wk O ∨ (60 * o_wk O + 60 ≤ j ∧ j ≠ 720 + o_wk O) → g1 j = g j) (hg2 : ∀ k, k < w.2.2.1.2.1 → g1 (60 * o_wk O + k) = w.2.2.1.2.2.1 k) (hg3 : g1 (720 + o_wk O) = rb) (hb : mo_br w.2.2.1 rb) : mo_W (o_more O w) (upd f1 1 (nI (o_wk O + 1))) g1 0 0 := by
  have z : ∀ j, 0 + j = j := Nat.zero_add
  have hnw := hO.1.2.2.1
  obtain ⟨⟨a0, a1, a2, a3, a4⟩, kb, kc⟩ := hk
  have u : ∀ j, j ≠ 1 → upd f1 1 (nI (o_wk O + 1)) j = f1 j := fun j hj => if_neg hj
  have o : ∀ j, j ≠ 1 → (j < 33 + 305 * o_wk O ∨ 33 + 305 * o_wk O + 305 ≤ j) → upd f1 1 (nI (o_wk O + 1)) j = f j := fun j h1 h2 => (u j h1).trans (kc j h2)
  refine ⟨⟨(o _ (by omega) (by omega)).trans W.1.1, if_pos rfl, (o _ (by omega) (by omega)).trans W.1.2.2.1, (o _ (by omega) (by omega)).trans W.1.2.2.2.1, (o _ (by omega) (by omega)).trans W.1.2.2.2.2⟩, fun i hi => ?_, fun i hi => ?_, fun v hv => ?_, fun i hi => ?_⟩
  · rw [z]; exact (o _ (by omega) (by omega)).trans (W.ru hi)
  · have hi : i < o_nw O := hi
    rw [z, z, z]
    exact ⟨(o _ (by omega) (by omega)).trans (W.nm hi), (o _ (by omega) (by omega)).trans (W.ba hi), (o _ (by omega) (by omega)).trans (W.pd hi)⟩
  · have hv : v < o_wk O + 1 := hv
    rw [z, z, z]
    show mo_w (if v = o_wk O then w else o_ws O v) _ _ _ _ _
    by_cases hz : v = o_wk O
    · rw [if_pos hz, hz, hg3]
      refine ⟨(u _ (by omega)).trans a0, (u _ (by omega)).trans a1, (u _ (by omega)).trans a2, (u _ (by omega)).trans a3, (u _ (by omega)).trans a4, fun l hl => ?_, hg2, hb⟩
      obtain ⟨b0, b1, b2, b3, b4⟩ := kb l hl
      exact ⟨(u _ (by omega)).trans b0, (u _ (by omega)).trans b1, (u _ (by omega)).trans b2, (u _ (by omega)).trans b3, (u _ (by omega)).trans b4⟩
    · rw [if_neg hz, hg (720 + v) (by omega)]
      exact (W.ww (by omega)).cp (hO.2.2.2 v (by omega)) (fun i hi => o _ (by omega) (by omega)) (fun i hi => hg _ (by omega))
  · rw [z]
    have hi : i < 4 * o_ne O := hi
    exact (o _ (by omega) (by omega)).trans (W.le hi)
section MOA
variable {G : kz_G} {d : Nat} {Qr : Option Value → kz_M → Prop} {Qx : String → kz_M → Prop} {M : kz_M} {O : ow_O} {s : Nat → Int32} {rb : Int64} {hn : Nat} {h : Nat → ow_O} {sv : ow_O} {isS : Bool} {er : Nat} {ea : Int32} {n : Nat} {b : Nat → Nat} {l : List Nat} {f : Nat → Int32} {g : Nat → Int64}
theorem mo_D.w4 {g' : Nat → Int64} (D : mo_D M s rb f g) : mo_D (kz_up M 104 (.inr (.long, 732, .inr (.inl g')))) s rb f g' := ⟨(kz_up_ne (by omega)).trans D.1, (kz_up_ne (by omega)).trans D.2.1, kz_up_same _ _ _⟩
theorem m_keepsRow {w : ow_W} (D : mo_D M s rb f g) (W : mo_W O f g 0 0) (hO : ow_Ok1 O) (hwk : o_wk O < 12) (hw : ow_Wok w) (hd : w.2.1 = o_dy O) (hst : ∀ i, i < w.2.2.2.1 → (w.2.2.2.2 i).2.2.2.2.2 = if (w.2.2.2.2 i).2.2.2.2.1 = 0 then 0 else 1) (R : mo_row M w.2.2.1 s rb) (hL : mo_L M s rb w.2.2.2.1 w.2.2.2.2) (q : ∀ M1 f1 g1, ow_Sm (fun z => z = 100 ∨ z = 104) M M1 → M1.2 = M.2 → mo_D M1 s rb f1 g1 → mo_W (o_more O w) f1 g1 0 0 → Qr none M1) : kz_C G (d + 1) 0 0 mX12_keepsRow [.ref 99, .int (nI (o_wk O)), .int (nI w.2.2.1.1), .int (nI w.1)] M Qr Qx := by
  have h60 := hw.2.1
  have hn60 := hw.1.2.2.1
  obtain ⟨r12, rbr, rg, r107, rw'⟩ := R
  obtain ⟨l99, l13, l60, ⟨fa, xa, va⟩, ⟨fb, xb, vb⟩, ⟨fc, xc, vc⟩, fd, xd, vd⟩ := hL
  have x0 : ((33 : Int32) + 305 * nI (o_wk O)) + 0 = nI (33 + 305 * o_wk O + 0) := mo_ix _ 0
  have x1 : ((33 : Int32) + 305 * nI (o_wk O)) + 1 = nI (33 + 305 * o_wk O + 1) := mo_ix _ 1
  have x2 : ((33 : Int32) + 305 * nI (o_wk O)) + 2 = nI (33 + 305 * o_wk O + 2) := mo_ix _ 2
  have x3 : ((33 : Int32) + 305 * nI (o_wk O)) + 3 = nI (33 + 305 * o_wk O + 3) := mo_ix _ 3
  have x4 : ((33 : Int32) + 305 * nI (o_wk O)) + 4 = nI (33 + 305 * o_wk O + 4) := mo_ix _ 4
  have X : ∀ l k : Nat, (((33 : Int32) + 305 * nI (o_wk O)) + 5 + 5 * nI l) + nI k = nI (33 + 305 * o_wk O + 5 + 5 * l + k) := fun l k => mo_ixl _ l k
  refine rX12_keepsRow_0 ?_
  rw [x0, x1, x2, x3, x4]
  generalize hA : 33 + 305 * o_wk O = A at *
  refine ⟨_, _, D.1, rfl, _, _, D.2.1, vp_in_nI (by omega) (by omega), _, _, D.w.1, rfl, _, _, D.w.2.1, vp_in_nI (by omega) (by omega), fun M1 e1 => ?_⟩
  rw [nI_clamp (n := A) (by omega), nI_clamp (n := A + 1) (by omega)] at e1
  have D1 : mo_D M1 s rb (upd (upd f A (nI w.1)) (A + 1) (nI w.2.2.1.1)) g := e1 ▸ D.w.w
  refine ⟨_, _, D1.1, rfl, _, _, D1.1, rfl, _, _, D1.2.1, mo_in2, _, _, D1.2.1, vp_in_nI (by omega) (by omega), ?_⟩
  have F2 : upd (upd f A (nI w.1)) (A + 1) (nI w.2.2.1.1) (2 : Int32).toNatClampNeg = nI w.2.1 := by
    rw [hd]
    exact (if_neg (show ¬ 2 = A + 1 by omega)).trans ((if_neg (show ¬ 2 = A + 0 by omega)).trans W.at2)
  rw [F2, nI_clamp (n := A + 2) (by omega)]
  refine ⟨_, _, D1.w.1, rfl, _, _, D1.w.1, rfl, _, _, D1.w.2.1, vp_in_nI (by omega) (by omega), fun M2 e2 => ?_⟩
  rw [nI_clamp (n := A + 3) (by omega), r12] at e2
  have D2 : mo_D M2 s rb (upd (upd (upd (upd f A (nI w.1)) (A + 1) (nI w.2.2.1.1)) (A + 2) (nI w.2.1)) (A + 3) (nI w.2.2.1.2.1)) g := e2 ▸ D1.w.w
  refine ⟨_, _, D2.1, rfl, _, _, D2.1, rfl, _, _, D2.2.1, vp_in_nI (by omega) (by omega), ?_⟩
  rw [nI_clamp (n := A + 4) (by omega), l13]
  have D3 := D2.w (f' := upd (upd (upd (upd (upd f A (nI w.1)) (A + 1) (nI w.2.2.1.1)) (A + 2) (nI w.2.1)) (A + 3) (nI w.2.2.1.2.1)) (A + 4) (nI w.2.2.2.1))
  have S3 : ow_Sm (· = 100) M (kz_up M2 100 (.inr (.int, 3813, .inl (upd (upd (upd (upd (upd f A (nI w.1)) (A + 1) (nI w.2.2.1.1)) (A + 2) (nI w.2.1)) (A + 3) (nI w.2.2.1.2.1)) (A + 4) (nI w.2.2.2.1))))) := fun z hz => by
    rw [kz_up_ne hz, e2, kz_up_ne hz, kz_up_ne hz, e1, kz_up_ne hz, kz_up_ne hz]
  have t3 : (kz_up M2 100 (.inr (.int, 3813, .inl (upd (upd (upd (upd (upd f A (nI w.1)) (A + 1) (nI w.2.2.1.1)) (A + 2) (nI w.2.1)) (A + 3) (nI w.2.2.1.2.1)) (A + 4) (nI w.2.2.2.1))))).2 = M.2 := by
    rw [kz_up_2, e2, kz_up_2, kz_up_2, e1]; rfl
  have hk0 : kp_S w f (upd (upd (upd (upd (upd f A (nI w.1)) (A + 1) (nI w.2.2.1.1)) (A + 2) (nI w.2.1)) (A + 3) (nI w.2.2.1.2.1)) (A + 4) (nI w.2.2.2.1)) A 0 := ⟨⟨(if_neg (by omega)).trans ((if_neg (by omega)).trans ((if_neg (by omega)).trans ((if_neg (by omega)).trans (if_pos rfl)))), (if_neg (by omega)).trans ((if_neg (by omega)).trans ((if_neg (by omega)).trans (if_pos rfl))), (if_neg (by omega)).trans ((if_neg (by omega)).trans (if_pos rfl)), (if_neg (by omega)).trans (if_pos rfl), if_pos rfl⟩, fun i hi => absurd hi (Nat.not_lt_zero i), fun j hj => (if_neg (by omega)).trans ((if_neg (by omega)).trans ((if_neg (by omega)).trans ((if_neg (by omega)).trans (if_neg (by omega)))))⟩
  generalize kz_up M2 100 (.inr (.int, 3813, .inl (upd (upd (upd (upd (upd f A (nI w.1)) (A + 1) (nI w.2.2.1.1)) (A + 2) (nI w.2.1)) (A + 3) (nI w.2.2.1.2.1)) (A + 4) (nI w.2.2.2.1)))) = M3 at D3 S3 t3 ⊢
  generalize upd (upd (upd (upd (upd f A (nI w.1)) (A + 1) (nI w.2.2.1.1)) (A + 2) (nI w.2.1)) (A + 3) (nI w.2.2.1.2.1)) (A + 4) (nI w.2.2.2.1) = f3 at D3 hk0
  refine ⟨_, _, D3.1, rfl, _, _, D3.1, rfl, ?_⟩
  rw [show (60 : Int32) * nI (o_wk O) = nI (60 * o_wk O) from pk_mul 60 _]
  refine m_copiesW (a := 107) (b := 104) (x := 0) (y := 60 * o_wk O) (n := 60) ((S3 107 (by omega)).trans r107) D3.2.2 (Or.inl (by omega)) (by omega) (by omega) (by omega) (by omega) fun M4 S4 t4 c4 => ⟨rfl, ?_⟩
  have D4 : mo_D M4 s rb f3 _ := ⟨(S4 99 (by omega)).trans D3.1, (S4 100 (by omega)).trans D3.2.1, c4⟩
  rw [show (720 : Int32) + nI (o_wk O) = nI (720 + o_wk O) from nI_add 720 _]
  refine ⟨_, _, D4.1, rfl, _, _, D4.1, rfl, _, _, D4.2.2, vp_in_nI (by omega) (by omega), ?_⟩
  rw [nI_clamp (n := 720 + o_wk O) (by omega)]
  have D5 := D4.w4 (g' := vp_updL (mo_cpL rg g 0 (60 * o_wk O) 60) (720 + o_wk O) rb)
  have S5 : ow_Sm (fun z => z = 100 ∨ z = 104) M (kz_up M4 104 (.inr (.long, 732, .inr (.inl (vp_updL (mo_cpL rg g 0 (60 * o_wk O) 60) (720 + o_wk O) rb))))) := fun z hz => by
    rw [kz_up_ne (by omega), S4 z (by omega), S3 z (by omega)]
  have t5 : (kz_up M4 104 (.inr (.long, 732, .inr (.inl (vp_updL (mo_cpL rg g 0 (60 * o_wk O) 60) (720 + o_wk O) rb))))).2 = M.2 := by
    rw [kz_up_2, t4, t3]
  have G1 : ∀ j, j < 60 * o_wk O ∨ (60 * o_wk O + 60 ≤ j ∧ j ≠ 720 + o_wk O) → vp_updL (mo_cpL rg g 0 (60 * o_wk O) 60) (720 + o_wk O) rb j = g j := fun j hj => (if_neg (by omega)).trans (mo_cpL_out (by omega))
  have G2 : ∀ k, k < w.2.2.1.2.1 → vp_updL (mo_cpL rg g 0 (60 * o_wk O) 60) (720 + o_wk O) rb (60 * o_wk O + k) = w.2.2.1.2.2.1 k := fun k hk => (if_neg (by omega)).trans ((mo_cpL_in (by omega)).trans (by rw [Nat.zero_add]; exact rw' k hk))
  have G3 : vp_updL (mo_cpL rg g 0 (60 * o_wk O) 60) (720 + o_wk O) rb (720 + o_wk O) = rb := if_pos rfl
  generalize kz_up M4 104 (.inr (.long, 732, .inr (.inl (vp_updL (mo_cpL rg g 0 (60 * o_wk O) 60) (720 + o_wk O) rb)))) = M5 at D5 S5 t5 ⊢
  generalize vp_updL (mo_cpL rg g 0 (60 * o_wk O) 60) (720 + o_wk O) rb = g1 at D5 G1 G2 G3
  clear e1 e2 D1 D2 D3 D4 S3 S4 t3 t4 c4 F2 M1 M2
  refine ow_loop (P := fun l => ∀ M1 f1, ow_Sm (fun z => z = 100 ∨ z = 104) M M1 → M1.2 = M.2 → mo_D M1 s rb f1 g1 → kp_S w f f1 A l → zX12_keepsRow_106 G d Qr Qx 99 (nI (o_wk O)) (nI l) M1) w.2.2.2.1 ?_ ?_ 0 (Nat.zero_le _) M5 f3 S5 t5 D5 hk0
  · intro M1 f1 S1 t1 D1 hk
    refine rX12_keepsRow_106 ⟨_, _, D1.1, rfl, ?_⟩
    rw [l13]
    have F1 : f1 (1 : Int32).toNatClampNeg = nI (o_wk O) := (hk.2.2 1 (by omega)).trans W.at1
    refine ow_y (nI_le (Nat.le_refl _) (by omega)) ⟨_, _, D1.1, rfl, _, _, D1.2.1, mo_in1, _, _, D1.2.1, mo_in1, ?_⟩
    rw [F1, nI_1]
    subst hA
    exact q _ _ _ (fun z hz => (kz_up_ne (by omega)).trans (S1 z hz)) t1 D1.w (W.more hO hwk hw hk G1 G2 G3 rbr)
  · intro l hl ih M1 f1 S1 t1 D1 hk
    have hlt : l < 60 := by omega
    refine rX12_keepsRow_106 ⟨_, _, D1.1, rfl, ?_⟩
    rw [l13]
    refine ow_n (nI_ge hl (by omega)) ⟨D1.ob, rX12_lineAt_0 ⟨_, rfl, ?_⟩⟩
    have X0 := X l 0
    have X1 := X l 1
    have X2 := X l 2
    have X3 := X l 3
    have X4 := X l 4
    have hk := hk
    generalize hB : A + 5 + 5 * l = B at X0 X1 X2 X3 X4
    have X0 : (((33 : Int32) + 305 * nI (o_wk O)) + 5 + 5 * nI l) + 0 = nI (B + 0) := X0
    have X1 : (((33 : Int32) + 305 * nI (o_wk O)) + 5 + 5 * nI l) + 1 = nI (B + 1) := X1
    have X2 : (((33 : Int32) + 305 * nI (o_wk O)) + 5 + 5 * nI l) + 2 = nI (B + 2) := X2
    have X3 : (((33 : Int32) + 305 * nI (o_wk O)) + 5 + 5 * nI l) + 3 = nI (B + 3) := X3
    have X4 : (((33 : Int32) + 305 * nI (o_wk O)) + 5 + 5 * nI l) + 4 = nI (B + 4) := X4
    refine ⟨_, _, D1.1, rfl, _, _, D1.1, rfl, _, _, (S1 108 (by omega)).trans xa, vp_in_nI (by omega) (by omega), _, _, D1.2.1, ?_, _, _, D1.w.1, rfl, _, _, D1.w.1, rfl, _, _, (kz_up_ne (by omega)).trans ((S1 109 (by omega)).trans xb), vp_in_nI (by omega) (by omega), _, _, D1.w.2.1, ?_, fun M2 e2 => ?_⟩
    · rw [X0]; exact vp_in_nI (by omega) (by omega)
    · rw [X1]; exact vp_in_nI (by omega) (by omega)
    rw [X0, X1, nI_clamp (n := B + 0) (by omega), nI_clamp (n := B + 1) (by omega), nI_clamp (n := l) (by omega), va l hl, vb l hl] at e2
    have D2 : mo_D M2 s rb (upd (upd f1 (B + 0) (nI (w.2.2.2.2 l).1)) (B + 1) (nI ((w.2.2.2.2 l).2.1 - (w.2.2.2.2 l).1))) g1 := e2 ▸ D1.w.w
    have y110 : M2.1 110 = some (.inr (.int, 60, .inl fc)) := by rw [e2, kz_up_ne (by omega), kz_up_ne (by omega)]; exact (S1 110 (by omega)).trans xc
    have y111' : M2.1 111 = some (.inr (.int, 60, .inl fd)) := by rw [e2, kz_up_ne (by omega), kz_up_ne (by omega)]; exact (S1 111 (by omega)).trans xd
    refine ⟨_, _, D2.1, rfl, _, _, D2.1, rfl, _, _, y110, vp_in_nI (by omega) (by omega), ?_⟩
    rw [nI_clamp (n := l) (by omega), vc l hl]
    have hr3 := (hw.2.2.2.2 l hl).2.2.1
    subst hB
    refine ⟨fun hz' => ?_, fun hz' => ?_⟩
    · have hz : ¬ (w.2.2.2.2 l).2.2.2.2.1 = 0 := fun e => hz' (by rw [e]; rfl)
      refine ⟨_, _, D2.2.1, ?_, _, _, D2.w.1, rfl, _, _, D2.w.1, rfl, _, _, (kz_up_ne (by omega)).trans y110, vp_in_nI (by omega) (by omega), _, _, D2.w.2.1, ?_, fun M3 e3 => ?_⟩
      · rw [X2]; exact vp_in_nI (by omega) (by omega)
      · rw [X3]; exact vp_in_nI (by omega) (by omega)
      rw [X2, X3, nI_clamp (n := (A + 5 + 5 * l) + 2) (by omega), nI_clamp (n := (A + 5 + 5 * l) + 3) (by omega), vc l hl] at e3
      have D3 : mo_D M3 s rb (upd (upd (upd (upd f1 ((A + 5 + 5 * l) + 0) (nI (w.2.2.2.2 l).1)) ((A + 5 + 5 * l) + 1) (nI ((w.2.2.2.2 l).2.1 - (w.2.2.2.2 l).1))) ((A + 5 + 5 * l) + 2) 1) ((A + 5 + 5 * l) + 3) (nI (w.2.2.2.2 l).2.2.2.2.1)) g1 := e3 ▸ D2.w.w
      have y111 : M3.1 111 = some (.inr (.int, 60, .inl fd)) := by rw [e3, kz_up_ne (by omega), kz_up_ne (by omega)]; exact y111'
      refine ⟨_, _, D3.1, rfl, _, _, D3.1, rfl, _, _, y111, vp_in_nI (by omega) (by omega), _, _, D3.2.1, ?_, ?_⟩
      · rw [X4]; exact vp_in_nI (by omega) (by omega)
      rw [X4, nI_clamp (n := (A + 5 + 5 * l) + 4) (by omega), vd l hl, nI_1]
      refine ih _ _ (fun z hz => ?_) ?_ D3.w (hk.step hlt (st := 1) ?_)
      · rw [kz_up_ne (by omega), e3, kz_up_ne (by omega), kz_up_ne (by omega), e2, kz_up_ne (by omega), kz_up_ne (by omega)]
        exact S1 z hz
      · rw [kz_up_2, e3, kz_up_2, kz_up_2, e2, kz_up_2, kz_up_2]; exact t1
      · rw [hst l hl, if_neg hz]; rfl
    · have hz : (w.2.2.2.2 l).2.2.2.2.1 = 0 := (nI_eq (b := 0) (by omega) (by omega)).mp hz'
      refine ⟨_, _, D2.2.1, ?_, _, _, D2.w.1, rfl, _, _, D2.w.1, rfl, _, _, (kz_up_ne (by omega)).trans y110, vp_in_nI (by omega) (by omega), _, _, D2.w.2.1, ?_, fun M3 e3 => ?_⟩
      · rw [X2]; exact vp_in_nI (by omega) (by omega)
      · rw [X3]; exact vp_in_nI (by omega) (by omega)
      rw [X2, X3, nI_clamp (n := (A + 5 + 5 * l) + 2) (by omega), nI_clamp (n := (A + 5 + 5 * l) + 3) (by omega), vc l hl] at e3
      have D3 : mo_D M3 s rb (upd (upd (upd (upd f1 ((A + 5 + 5 * l) + 0) (nI (w.2.2.2.2 l).1)) ((A + 5 + 5 * l) + 1) (nI ((w.2.2.2.2 l).2.1 - (w.2.2.2.2 l).1))) ((A + 5 + 5 * l) + 2) 0) ((A + 5 + 5 * l) + 3) (nI (w.2.2.2.2 l).2.2.2.2.1)) g1 := e3 ▸ D2.w.w
      have y111 : M3.1 111 = some (.inr (.int, 60, .inl fd)) := by rw [e3, kz_up_ne (by omega), kz_up_ne (by omega)]; exact y111'
      refine ⟨_, _, D3.1, rfl, _, _, D3.1, rfl, _, _, y111, vp_in_nI (by omega) (by omega), _, _, D3.2.1, ?_, ?_⟩
      · rw [X4]; exact vp_in_nI (by omega) (by omega)
      rw [X4, nI_clamp (n := (A + 5 + 5 * l) + 4) (by omega), vd l hl, nI_1]
      refine ih _ _ (fun z hz => ?_) ?_ D3.w (hk.step hlt (st := 0) ?_)
      · rw [kz_up_ne (by omega), e3, kz_up_ne (by omega), kz_up_ne (by omega), e2, kz_up_ne (by omega), kz_up_ne (by omega)]
        exact S1 z hz
      · rw [kz_up_2, e3, kz_up_2, kz_up_2, e2, kz_up_2, kz_up_2]; exact t1
      · rw [hst l hl, if_pos hz]; rfl

end MOA
