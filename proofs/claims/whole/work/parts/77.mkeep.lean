/-! Part 77: the reference: copies of the office, entries -/
theorem mo_cp_in {f g : Nat → Int32} {x y n k : Nat} (h : k < n) : mo_cp f g x y n (y + k) = f (x + k) := by
  unfold mo_cp
  rw [if_pos (by omega), show y + k - y = k by omega]
theorem mo_cp_out {f g : Nat → Int32} {x y n k : Nat} (h : k < y ∨ y + n ≤ k) : mo_cp f g x y n k = g k := if_neg (by omega)
theorem mo_cpL_in {f g : Nat → Int64} {x y n k : Nat} (h : k < n) : mo_cpL f g x y n (y + k) = f (x + k) := by
  unfold mo_cpL
  rw [if_pos (by omega), show y + k - y = k by omega]
theorem mo_cpL_out {f g : Nat → Int64} {x y n k : Nat} (h : k < y ∨ y + n ≤ k) : mo_cpL f g x y n k = g k := if_neg (by omega)
/-- works elsewhere -/
theorem mo_w.cp {w : ow_W} {f f1 : Nat → Int32} {g g1 : Nat → Int64} {a c a1 c1 : Nat} {br : Int64} (W : mo_w w f g a c br) (hw : ow_Wok w) (e : ∀ i, i < 305 → f1 (a1 + i) = f (a + i)) (e2 : ∀ i, i < 60 → g1 (c1 + i) = g (c + i)) : mo_w w f1 g1 a1 c1 br := by
  obtain ⟨b1, b2, b3, b4, b5, b6, b7, b8⟩ := W
  have h60 := hw.2.1
  have hn60 := hw.1.2.2.1
  refine ⟨(e _ (by omega)).trans b1, (e _ (by omega)).trans b2, (e _ (by omega)).trans b3, (e _ (by omega)).trans b4, (e _ (by omega)).trans b5, fun l hl => ?_, fun k hk => (e2 k (by omega)).trans (b7 k hk), b8⟩
  have E : ∀ k, k < 5 → f1 (a1 + 5 + 5 * l + k) = f (a + 5 + 5 * l + k) := fun k hk => by
    have := e (5 + 5 * l + k) (by omega)
    rw [← Nat.add_assoc, ← Nat.add_assoc, ← Nat.add_assoc, ← Nat.add_assoc] at this
    exact this
  obtain ⟨c1, c2, c3, c4, c5⟩ := b6 l hl
  exact ⟨(E 0 (by omega)).trans c1, (E 1 (by omega)).trans c2, (E 2 (by omega)).trans c3, (E 3 (by omega)).trans c4, (E 4 (by omega)).trans c5⟩
theorem mo_W.cp {O : ow_O} {f f1 : Nat → Int32} {g g1 : Nat → Int64} {a c a1 c1 : Nat} (W : mo_W O f g a c) (hO : ow_Ok1 O) (e : ∀ i, i < 3813 → f1 (a1 + i) = f (a + i)) (e2 : ∀ i, i < 732 → g1 (c1 + i) = g (c + i)) : mo_W O f1 g1 a1 c1 := by
  obtain ⟨⟨a0, a1', a2, a3, a4⟩, a5, a6, a7, a8⟩ := W
  have hnw := hO.1.2.2.1
  have hwk := hO.1.2.2.2.1
  have hne := hO.1.2.2.2.2
  refine ⟨⟨(e _ (by omega)).trans a0, (e _ (by omega)).trans a1', (e _ (by omega)).trans a2, (e _ (by omega)).trans a3, (e _ (by omega)).trans a4⟩, fun i hi => (e _ (by omega)).trans (a5 i hi), fun i hi => ?_, fun v hv => ?_, fun i hi => (e _ (by omega)).trans (a8 i hi)⟩
  · obtain ⟨b1, b2, b3⟩ := a6 i hi
    exact ⟨(e _ (by omega)).trans b1, (e _ (by omega)).trans b2, (e _ (by omega)).trans b3⟩
  · have := (a7 v hv).cp (f1 := f1) (g1 := g1) (a1 := a1 + (33 + 305 * v)) (c1 := c1 + 60 * v) (hO.2.2.2 v hv) (fun i hi => by
      rw [Nat.add_assoc a1, Nat.add_assoc a]; exact e _ (by omega)) (fun i hi => by
      rw [Nat.add_assoc c1, Nat.add_assoc c]; exact e2 _ (by omega))
    rw [e2 _ (by omega)]
    exact this
/-- numbers change that are no works' -/
theorem mo_W.sc {O O' : ow_O} {f f1 : Nat → Int32} {g : Nat → Int64} (W : mo_W O f g 0 0) (hO : ow_Ok1 O) (ew : o_wk O' = o_wk O) (es : o_ws O' = o_ws O) (e : ∀ j, 33 ≤ j → j < 3693 → f1 j = f j) (h0 : f1 0 = nI (o_nw O')) (h1 : f1 1 = nI (o_wk O)) (h2 : f1 2 = nI (o_dy O')) (h3 : f1 3 = nI (o_mo O')) (h4 : f1 4 = nI (o_ne O')) (h5 : ∀ i, i < 10 → f1 (5 + i) = nI (o_ru O' i)) (h6 : ∀ i, i < o_nw O' → f1 (15 + i) = nI (mo_nm (o_nm O' i)) ∧ f1 (21 + i) = o_ba O' i ∧ f1 (27 + i) = o_pd O' i) (h7 : ∀ i, i < 4 * o_ne O' → f1 (3693 + i) = o_le O' i) : mo_W O' f1 g 0 0 := by
  have z : ∀ j, 0 + j = j := Nat.zero_add
  have hwk := hO.1.2.2.2.1
  refine ⟨⟨h0, by rw [ew]; exact h1, h2, h3, h4⟩, fun i hi => by rw [z]; exact h5 i hi, fun i hi => by rw [z, z, z]; exact h6 i hi, fun v hv => ?_, fun i hi => by rw [z]; exact h7 i hi⟩
  rw [ew] at hv
  rw [es]
  exact (W.2.2.2.1 v hv).cp (hO.2.2.2 v hv) (fun i hi => e _ (by omega) (by omega)) (fun i hi => rfl)
theorem mo_A.past {M M1 : kz_M} {O : ow_O} {hn hn' : Nat} {h h' : Nat → ow_O} {sv : ow_O} {isS : Bool} {n : Nat} {b : Nat → Nat} {l : List Nat} (A : mo_A M O hn h sv isS n b l) (g : ow_Sm (fun z => z = 99 ∨ z = 103 ∨ z = 106) M M1) (B : ∃ f g, M1.1 103 = some (.inr (.int, 30504, .inl f)) ∧ M1.1 106 = some (.inr (.long, 5856, .inr (.inl g))) ∧ hn' ≤ 8 ∧ ∀ i, i < hn' → mo_W (h' i) f g (3813 * i) (732 * i)) : mo_A M1 O hn' h' sv isS n b l := by
  obtain ⟨⟨f1, g1, a1, a2, a3⟩, ⟨f2, a4⟩, ⟨f3, g3, a5, a6, a7⟩, -, ⟨⟨g5, b1⟩, ⟨f6, b2⟩, ⟨f7, b3⟩, ⟨f8, b4⟩, f9, b5⟩, ⟨f10, c1, c2⟩, f11, c3, c4⟩ := A
  have u : ∀ k x, k ≠ 99 ∧ k ≠ 103 ∧ k ≠ 106 → M.1 k = some x → M1.1 k = some x := fun k x hk hx => (g k (by omega)).trans hx
  exact ⟨⟨f1, g1, u _ _ (by omega) a1, u _ _ (by omega) a2, a3⟩, ⟨f2, u _ _ (by omega) a4⟩, ⟨f3, g3, u _ _ (by omega) a5, u _ _ (by omega) a6, a7⟩, B, ⟨⟨g5, u _ _ (by omega) b1⟩, ⟨f6, u _ _ (by omega) b2⟩, ⟨f7, u _ _ (by omega) b3⟩, ⟨f8, u _ _ (by omega) b4⟩, f9, u _ _ (by omega) b5⟩, ⟨f10, u _ _ (by omega) c1, c2⟩, f11, u _ _ (by omega) c3, c4⟩
theorem mo_A.now {M M1 : kz_M} {O O' : ow_O} {hn : Nat} {h : Nat → ow_O} {sv : ow_O} {isS : Bool} {n : Nat} {b : Nat → Nat} {l : List Nat} (A : mo_A M O hn h sv isS n b l) (g : ow_Sm (fun z => z = 100 ∨ z = 104) M M1) (B : ∃ f g, M1.1 100 = some (.inr (.int, 3813, .inl f)) ∧ M1.1 104 = some (.inr (.long, 732, .inr (.inl g))) ∧ mo_W O' f g 0 0) : mo_A M1 O' hn h sv isS n b l := by
  obtain ⟨-, ⟨f2, a4⟩, ⟨f3, g3, a5, a6, a7⟩, ⟨f4, g4, a8, a9, a10⟩, ⟨⟨g5, b1⟩, ⟨f6, b2⟩, ⟨f7, b3⟩, ⟨f8, b4⟩, f9, b5⟩, ⟨f10, c1, c2⟩, f11, c3, c4⟩ := A
  have u : ∀ k x, k ≠ 100 ∧ k ≠ 104 → M.1 k = some x → M1.1 k = some x := fun k x hk hx => (g k (by omega)).trans hx
  exact ⟨B, ⟨f2, u _ _ (by omega) a4⟩, ⟨f3, g3, u _ _ (by omega) a5, u _ _ (by omega) a6, a7⟩, ⟨f4, g4, u _ _ (by omega) a8, u _ _ (by omega) a9, a10⟩, ⟨⟨g5, u _ _ (by omega) b1⟩, ⟨f6, u _ _ (by omega) b2⟩, ⟨f7, u _ _ (by omega) b3⟩, ⟨f8, u _ _ (by omega) b4⟩, f9, u _ _ (by omega) b5⟩, ⟨f10, u _ _ (by omega) c1, c2⟩, f11, u _ _ (by omega) c3, c4⟩
/-- an entry, behind m others -/
def mo_ent (F : Nat → Int32) (m : Nat) (a b c e : Int32) : Nat → Int32 := fun j => if j = 4 then nI (m + 1) else if j = 3693 + 4 * m + 3 then e else if j = 3693 + 4 * m + 2 then c else if j = 3693 + 4 * m + 1 then b else if j = 3693 + 4 * m then a else F j
theorem mo_W.book {O : ow_O} {f H : Nat → Int32} {g : Nat → Int64} {v m : Nat} {kd am : Int32} (W : mo_W O f g 0 0) (hO : ow_Ok1 O) (hv : v < o_nw O) (ham : am ≠ 0) (hm : m = if o_ne O < 30 then o_ne O else 29) (hH : ∀ j, j < 3693 → j ≠ 4 → H j = if j = 21 + v then o_ba O v + am else f j) (hl : ∀ i, i < 4 * m → H (3693 + i) = if o_ne O < 30 then o_le O i else o_le O (i + 4)) : mo_W (o_book O v kd am) (mo_ent H m (nI (o_dy O)) (nI v) kd am) g 0 0 := by
  have hnw := hO.1.2.2.1
  have hm30 : m < 30 := by
    rw [hm]; split <;> omega
  have e0 : ∀ j, j < 3693 → j ≠ 4 → mo_ent H m (nI (o_dy O)) (nI v) kd am j = if j = 21 + v then o_ba O v + am else f j := fun j hj h4 => by
    unfold mo_ent
    rw [if_neg h4, if_neg (by omega), if_neg (by omega), if_neg (by omega), if_neg (by omega), hH j hj h4]
  have e1 : ∀ j, j < 3693 → j ≠ 4 → j ≠ 21 + v → mo_ent H m (nI (o_dy O)) (nI v) kd am j = f j := fun j hj h4 hz => by rw [e0 j hj h4, if_neg hz]
  have hb : o_book O v kd am = (o_dy O, o_mo O, o_nw O, o_wk O, o_ru O, o_nm O, upd (o_ba O) v (o_ba O v + am), o_pd O, o_ws O, o_lad (o_ne O) (o_le O) (nI (o_dy O)) (nI v) kd am) := if_neg ham
  rw [hb]
  refine W.sc hO rfl rfl (fun j h1 h2 => e1 j h2 (by omega) (by omega)) ((e1 0 (by omega) (by omega) (by omega)).trans W.1.1) ((e1 1 (by omega) (by omega) (by omega)).trans W.1.2.1) ((e1 2 (by omega) (by omega) (by omega)).trans W.1.2.2.1) ((e1 3 (by omega) (by omega) (by omega)).trans W.1.2.2.2.1) ?_ (fun i hi => (e1 _ (by omega) (by omega) (by omega)).trans (W.ru hi)) (fun i hi => ?_) fun i hi => ?_
  · show nI (m + 1) = nI ((if o_ne O < 30 then o_ne O else 29) + 1)
    rw [hm]
  · have hi : i < o_nw O := hi
    refine ⟨(e1 _ (by omega) (by omega) (by omega)).trans (W.nm hi), ?_, (e1 _ (by omega) (by omega) (by omega)).trans (W.pd hi)⟩
    rw [e0 _ (by omega) (by omega)]
    show _ = if i = v then o_ba O v + am else o_ba O i
    by_cases hz : i = v
    · rw [if_pos hz, if_pos (by omega)]
    · rw [if_neg hz, if_neg (by omega)]
      exact W.ba hi
  · have hi : i < 4 * ((if o_ne O < 30 then o_ne O else 29) + 1) := hi
    show mo_ent H m (nI (o_dy O)) (nI v) kd am (3693 + i) = if i = 4 * (if o_ne O < 30 then o_ne O else 29) + 3 then am else if i = 4 * (if o_ne O < 30 then o_ne O else 29) + 2 then kd else if i = 4 * (if o_ne O < 30 then o_ne O else 29) + 1 then nI v else if i = 4 * (if o_ne O < 30 then o_ne O else 29) then nI (o_dy O) else if o_ne O < 30 then o_le O i else o_le O (i + 4)
    rw [← hm] at hi ⊢
    unfold mo_ent
    rw [if_neg (by omega)]
    by_cases h3 : i = 4 * m + 3
    · rw [if_pos h3, if_pos (by omega)]
    rw [if_neg h3, if_neg (by omega)]
    by_cases h2 : i = 4 * m + 2
    · rw [if_pos h2, if_pos (by omega)]
    rw [if_neg h2, if_neg (by omega)]
    by_cases h1 : i = 4 * m + 1
    · rw [if_pos h1, if_pos (by omega)]
    rw [if_neg h1, if_neg (by omega)]
    by_cases h0 : i = 4 * m
    · rw [if_pos h0, if_pos (by omega)]
    rw [if_neg h0, if_neg (by omega)]
    exact hl i (by omega)
section MOA
variable {G : kz_G} {d : Nat} {Qr : Option Value → kz_M → Prop} {Qx : String → kz_M → Prop} {M : kz_M} {O : ow_O} {s : Nat → Int32} {rb : Int64} {hn : Nat} {h : Nat → ow_O} {sv : ow_O} {isS : Bool} {er : Nat} {ea : Int32} {n : Nat} {b : Nat → Nat} {l : List Nat} {f : Nat → Int32} {g : Nat → Int64}
theorem mo_D.w {f' : Nat → Int32} (D : mo_D M s rb f g) : mo_D (kz_up M 100 (.inr (.int, 3813, .inl f'))) s rb f' g := ⟨(kz_up_ne (by omega)).trans D.1, kz_up_same _ _ _, (kz_up_ne (by omega)).trans D.2.2⟩
theorem mo_I.now {O' : ow_O} {M1 : kz_M} {f' : Nat → Int32} {g' : Nat → Int64} (I : mo_I M O hn h sv isS er ea n b l s rb) (S : ow_Sm (fun z => z = 100 ∨ z = 104) M M1) (D : mo_D M1 s rb f' g') (W : mo_W O' f' g' 0 0) : mo_I M1 O' hn h sv isS er ea n b l s rb := ⟨D.1, I.2.1, I.2.2.now S ⟨f', g', D.2.1, D.2.2, W⟩⟩

theorem m_remembers (I : mo_I M O hn h sv isS er ea n b l s rb) (D : mo_D M s rb f g) (W : mo_W O f g 0 0) (hO : ow_Ok1 O) (hh : ∀ i, i < hn → ow_Ok1 (h i)) (q : ∀ M1 s1, ow_Sm (fun z => z = 99 ∨ z = 103 ∨ z = 106) M M1 → M1.2 = M.2 → (∀ j, j ≠ 7 → s1 j = s j) → mo_I M1 O (o_keep hn h O).1 (o_keep hn h O).2 sv isS er ea n b l s1 rb → mo_D M1 s1 rb f g → Qr none M1) : kz_C G (d + 1) 0 0 mX12_remembers [.ref 99] M Qr Qx := by
  obtain ⟨i1, ⟨i2, i3, i4, i5, i6, i7⟩, A⟩ := I
  have A0 := A
  obtain ⟨-, -, -, ⟨F, H, hF, hH, h8, hW⟩, -⟩ := A0
  have fin : ∀ (m : Nat) (F1 : Nat → Int32) (H1 : Nat → Int64) (h' : Nat → ow_O) (s1 : Nat → Int32) (M3 : kz_M), m < 8 → (∀ i, i < m → ow_Ok1 (h' i) ∧ mo_W (h' i) F1 H1 (3813 * i) (732 * i)) → (o_keep hn h O = (m + 1, fun i => if i = m then O else h' i)) → (∀ j, j ≠ 7 → s1 j = s j) → ow_Sm (fun z => z = 99 ∨ z = 103 ∨ z = 106) M M3 → M3.2 = M.2 → M3.1 99 = some (.inl (11, mo_fs (upd s1 7 (nI (m + 1))) rb)) → M3.1 103 = some (.inr (.int, 30504, .inl (mo_cp f F1 0 (3813 * m) 3813))) → M3.1 106 = some (.inr (.long, 5856, .inr (.inl (mo_cpL g H1 0 (732 * m) 732)))) → Qr none M3 := by
    intro m F1 H1 h' s1 M3 hm hk hkeep hs1 S t x99 x103 x106
    have us : ∀ j, j ≠ 7 → upd s1 7 (nI (m + 1)) j = s j := fun j hj => (if_neg hj).trans (hs1 j hj)
    refine q M3 (upd s1 7 (nI (m + 1))) S t us ⟨x99, ⟨?_, (us 8 (by omega)).trans i3, (us 19 (by omega)).trans i4, (us 20 (by omega)).trans i5, (us 21 (by omega)).trans i6, (us 31 (by omega)).trans i7⟩, A.past S ⟨_, _, x103, x106, ?_, fun i hi => ?_⟩⟩ ⟨x99, (S 100 (by omega)).trans D.2.1, (S 104 (by omega)).trans D.2.2⟩
    · rw [hkeep]; rfl
    · rw [hkeep]; exact hm
    · rw [hkeep] at hi ⊢
      show mo_W (if i = m then O else h' i) _ _ _ _
      have hi : i < m + 1 := hi
      by_cases hz : i = m
      · rw [if_pos hz, hz]
        exact W.cp hO (fun k hk => mo_cp_in hk) (fun k hk => mo_cpL_in hk)
      · rw [if_neg hz]
        obtain ⟨k1, k2⟩ := hk i (by omega)
        exact k2.cp k1 (fun k hk => mo_cp_out (by omega)) (fun k hk => mo_cpL_out (by omega))
  refine rX12_remembers_0 ⟨_, _, D.1, rfl, ?_⟩
  rw [i2]
  refine ⟨fun z => ?_, fun z => ?_⟩
  · have h8' : hn ≠ 8 := fun e => z (by rw [e]; rfl)
    refine ⟨_, _, D.1, rfl, _, _, D.1, rfl, _, _, D.1, rfl, ?_⟩
    rw [i2, show (3813 : Int32) * nI hn = nI (3813 * hn) from pk_mul 3813 hn]
    refine m_copies (a := 100) (b := 103) (x := 0) (y := 3813 * hn) (n := 3813) D.2.1 hF (Or.inl (by omega)) (by omega) (by omega) (by omega) (by omega) fun M1 g1 t1 c1 => ⟨rfl, ?_⟩
    have h99 := (g1 99 (by omega)).trans D.1
    refine ⟨_, _, h99, rfl, _, _, h99, rfl, _, _, h99, rfl, ?_⟩
    rw [i2, show (732 : Int32) * nI hn = nI (732 * hn) from pk_mul 732 hn]
    refine m_copiesW (a := 104) (b := 106) (x := 0) (y := 732 * hn) (n := 732) ((g1 104 (by omega)).trans D.2.2) ((g1 106 (by omega)).trans hH) (Or.inl (by omega)) (by omega) (by omega) (by omega) (by omega) fun M2 g2 t2 c2 => ⟨rfl, ?_⟩
    have h99' := (g2 99 (by omega)).trans h99
    refine ⟨_, _, h99', rfl, _, h99', ow_l rfl, ?_⟩
    rw [i2, nI_1]
    have c1' := (kz_up_ne (M := M2) (a := 99) (b := 103) (e := .inl (11, mo_fs (upd s 7 (nI (hn + 1))) rb)) (by omega)).trans ((g2 103 (by omega)).trans c1)
    have c2' := (kz_up_ne (M := M2) (a := 99) (b := 106) (e := .inl (11, mo_fs (upd s 7 (nI (hn + 1))) rb)) (by omega)).trans c2
    refine fin hn F H h s _ (by omega) (fun i hi => ⟨hh i hi, hW i hi⟩) (if_pos (by omega)) (fun _ _ => rfl) (fun z hz => ?_) (t2.trans t1) (kz_up_same _ _ _) c1' c2'
    rw [kz_up_ne (by omega), g2 z (by omega), g1 z (by omega)]
  · have h8' : hn = 8 := (nI_eq (b := 8) (by omega) (by omega)).mp z
    subst h8'
    refine ⟨_, _, D.1, rfl, _, _, D.1, rfl, ?_⟩
    refine m_copies (a := 103) (b := 103) (x := 3813) (y := 0) (n := 26691) hF hF (Or.inr (by omega)) (by omega) (by omega) (by omega) (by omega) fun M5 g5 t5 c5 => ⟨rfl, ?_⟩
    have h5 := (g5 99 (by omega)).trans D.1
    refine ⟨_, _, h5, rfl, _, _, h5, rfl, ?_⟩
    refine m_copiesW (a := 106) (b := 106) (x := 732) (y := 0) (n := 5124) ((g5 106 (by omega)).trans hH) ((g5 106 (by omega)).trans hH) (Or.inr (by omega)) (by omega) (by omega) (by omega) (by omega) fun M6 g6 t6 c6 => ⟨rfl, ?_⟩
    have h6 := (g6 99 (by omega)).trans h5
    refine ⟨_, _, h6, rfl, _, h6, ow_l rfl, ?_⟩
    rw [i2, show nI 8 - 1 = nI 7 from nI_pred 7]
    have y99 : (kz_up M6 99 (.inl (11, (mo_fs s rb).set 7 (.int (nI 7))))).1 99 = some (.inl (11, mo_fs (upd s 7 (nI 7)) rb)) := kz_up_same M6 99 (.inl (11, (mo_fs s rb).set 7 (.int (nI 7))))
    have yne : ∀ z, z ≠ 99 → (kz_up M6 99 (.inl (11, (mo_fs s rb).set 7 (.int (nI 7))))).1 z = M6.1 z := fun z hz => kz_up_ne hz
    have y2 := kz_up_2 M6 99 (.inl (11, (mo_fs s rb).set 7 (.int (nI 7))))
    generalize kz_up M6 99 (.inl (11, (mo_fs s rb).set 7 (.int (nI 7)))) = M7 at y99 yne y2 ⊢
    have y7 : upd s 7 (nI 7) 7 = nI 7 := if_pos rfl
    have y103 := (yne 103 (by omega)).trans ((g6 103 (by omega)).trans c5)
    have y106 := (yne 106 (by omega)).trans c6
    have y100 := (yne 100 (by omega)).trans ((g6 100 (by omega)).trans ((g5 100 (by omega)).trans D.2.1))
    have y104 := (yne 104 (by omega)).trans ((g6 104 (by omega)).trans ((g5 104 (by omega)).trans D.2.2))
    refine ⟨_, _, y99, rfl, _, _, y99, rfl, _, _, y99, rfl, ?_⟩
    rw [y7, show (3813 : Int32) * nI 7 = nI (3813 * 7) from pk_mul 3813 7]
    refine m_copies (a := 100) (b := 103) (x := 0) (y := 3813 * 7) (n := 3813) y100 y103 (Or.inl (by omega)) (by omega) (by omega) (by omega) (by omega) fun M1 g1 t1 c1 => ⟨rfl, ?_⟩
    have h99 := (g1 99 (by omega)).trans y99
    refine ⟨_, _, h99, rfl, _, _, h99, rfl, _, _, h99, rfl, ?_⟩
    rw [y7, show (732 : Int32) * nI 7 = nI (732 * 7) from pk_mul 732 7]
    refine m_copiesW (a := 104) (b := 106) (x := 0) (y := 732 * 7) (n := 732) ((g1 104 (by omega)).trans y104) ((g1 106 (by omega)).trans y106) (Or.inl (by omega)) (by omega) (by omega) (by omega) (by omega) fun M2 g2 t2 c2 => ⟨rfl, ?_⟩
    have h99' := (g2 99 (by omega)).trans h99
    refine ⟨_, _, h99', rfl, _, h99', ow_l rfl, ?_⟩
    rw [y7, nI_1]
    have c1' := (kz_up_ne (M := M2) (a := 99) (b := 103) (e := .inl (11, mo_fs (upd (upd s 7 (nI 7)) 7 (nI (7 + 1))) rb)) (by omega)).trans ((g2 103 (by omega)).trans c1)
    have c2' := (kz_up_ne (M := M2) (a := 99) (b := 106) (e := .inl (11, mo_fs (upd (upd s 7 (nI 7)) 7 (nI (7 + 1))) rb)) (by omega)).trans c2
    refine fin 7 _ _ (fun i => h (i + 1)) (upd s 7 (nI 7)) _ (by omega) (fun i hi => ⟨hh (i + 1) (by omega), (hW (i + 1) (by omega)).cp (hh (i + 1) (by omega)) (fun k hk => ?_) (fun k hk => ?_)⟩) (if_neg (by omega)) (fun j hj => if_neg hj) (fun z hz => ?_) (t2.trans (t1.trans (y2.trans (t6.trans t5)))) (kz_up_same _ _ _) c1' c2'
    · have := mo_cp_in (f := F) (g := F) (x := 3813) (y := 0) (n := 26691) (k := 3813 * i + k) (by omega)
      rw [Nat.zero_add] at this
      rw [this]
      exact congrArg F (by omega)
    · have := mo_cpL_in (f := H) (g := H) (x := 732) (y := 0) (n := 5124) (k := 732 * i + k) (by omega)
      rw [Nat.zero_add] at this
      rw [this]
      exact congrArg H (by omega)
    · rw [kz_up_ne (by omega), g2 z (by omega), g1 z (by omega), yne z (by omega), g6 z (by omega), g5 z (by omega)]

theorem m_books {v : Nat} {kd am : Int32} (D : mo_D M s rb f g) (W : mo_W O f g 0 0) (hO : ow_Ok1 O) (hv : v < o_nw O) (q : ∀ M1 f1, ow_Sm (· = 100) M M1 → M1.2 = M.2 → mo_D M1 s rb f1 g → mo_W (o_book O v kd am) f1 g 0 0 → Qr none M1) : kz_C G (d + 1) 0 0 mX12_books [.ref 99, .int (nI v), .int kd, .int am] M Qr Qx := by
  have hnw := hO.1.2.2.1
  have hne := hO.1.2.2.2.2
  have iv : (21 : Int32) + nI v = nI (21 + v) := nI_add 21 v
  refine rX12_books_0 ⟨_, _, D.1, rfl, _, _, D.2.1, ?_, _, _, D.2.1, ?_, ?_⟩
  · rw [iv]; exact vp_in_nI (by omega) (by omega)
  · rw [iv]; exact vp_in_nI (by omega) (by omega)
  rw [iv, nI_clamp (by omega), W.ba hv]
  have D1 : mo_D (kz_up M 100 (.inr (.int, 3813, .inl (upd f (21 + v) (o_ba O v + am))))) s rb _ g := D.w
  have hF : ∀ j, upd f (21 + v) (o_ba O v + am) j = if j = 21 + v then o_ba O v + am else f j := fun j => rfl
  have S1 : ow_Sm (· = 100) M (kz_up M 100 (.inr (.int, 3813, .inl (upd f (21 + v) (o_ba O v + am))))) := fun z hz => kz_up_ne hz
  have t1 := kz_up_2 M 100 (.inr (.int, 3813, .inl (upd f (21 + v) (o_ba O v + am))))
  generalize kz_up M 100 (.inr (.int, 3813, .inl (upd f (21 + v) (o_ba O v + am)))) = M0 at D1 S1 t1 ⊢
  generalize upd f (21 + v) (o_ba O v + am) = F at D1 hF
  have F4 : F (4 : Int32).toNatClampNeg = nI (o_ne O) := (hF 4).trans ((if_neg (by omega)).trans W.1.2.2.2.2)
  have F2 : F (2 : Int32).toNatClampNeg = nI (o_dy O) := (hF 2).trans ((if_neg (by omega)).trans W.1.2.2.1)
  refine ⟨fun ham => ⟨_, _, D1.1, rfl, _, _, D1.2.1, mo_in4, ?_⟩, fun ham => ?_⟩
  · rw [F4]
    refine ⟨fun z => ?_, fun z => ?_⟩
    · have h30 : o_ne O ≠ 30 := fun e => z (by rw [e]; rfl)
      refine ⟨_, _, D1.1, rfl, _, _, D1.2.1, mo_in4, _, _, D1.1, rfl, _, _, D1.1, rfl, _, _, D1.2.1, mo_in2, _, _, D1.2.1, ?_, fun M1 e1 => ?_⟩
      · rw [F4, show (4 : Int32) * nI (o_ne O) = nI (4 * (o_ne O)) from pk_mul 4 (o_ne O), show (3693 : Int32) + nI (4 * (o_ne O)) = nI (3693 + 4 * (o_ne O)) from nI_add 3693 _]
        exact vp_in_nI (by omega) (by omega)
      rw [F4, F2, show (4 : Int32) * nI (o_ne O) = nI (4 * (o_ne O)) from pk_mul 4 (o_ne O), show (3693 : Int32) + nI (4 * (o_ne O)) = nI (3693 + 4 * (o_ne O)) from nI_add 3693 _, nI_clamp (n := 3693 + 4 * (o_ne O)) (by omega)] at e1
      rw [F4, show (4 : Int32) * nI (o_ne O) = nI (4 * (o_ne O)) from pk_mul 4 (o_ne O), show (3693 : Int32) + nI (4 * (o_ne O)) = nI (3693 + 4 * (o_ne O)) from nI_add 3693 _]
      have D2 : mo_D M1 s rb _ g := e1 ▸ D1.w
      refine ⟨_, _, D2.1, rfl, _, _, D2.2.1, ?_, _, _, D2.w.1, rfl, _, _, D2.w.2.1, ?_, fun M2 e2 => ?_⟩
      · rw [show nI (3693 + 4 * (o_ne O)) + 1 = nI (3693 + 4 * (o_ne O) + 1) from nI_add _ 1]
        exact vp_in_nI (by omega) (by omega)
      · rw [show nI (3693 + 4 * (o_ne O)) + 2 = nI (3693 + 4 * (o_ne O) + 2) from nI_add _ 2]
        exact vp_in_nI (by omega) (by omega)
      rw [show nI (3693 + 4 * (o_ne O)) + 1 = nI (3693 + 4 * (o_ne O) + 1) from nI_add _ 1, show nI (3693 + 4 * (o_ne O)) + 2 = nI (3693 + 4 * (o_ne O) + 2) from nI_add _ 2, nI_clamp (n := 3693 + 4 * (o_ne O) + 1) (by omega), nI_clamp (n := 3693 + 4 * (o_ne O) + 2) (by omega)] at e2
      have D3 : mo_D M2 s rb _ g := e2 ▸ D2.w.w
      rw [show nI (3693 + 4 * (o_ne O)) + 3 = nI (3693 + 4 * (o_ne O) + 3) from nI_add _ 3, nI_clamp (n := 3693 + 4 * (o_ne O) + 3) (by omega)]
      refine ⟨_, _, D3.1, rfl, _, _, D3.2.1, vp_in_nI (by omega) (by omega), _, _, D3.w.1, rfl, _, _, D3.w.2.1, mo_in4, _, _, D3.w.2.1, mo_in4, fun M3 e3 => ?_⟩
      have F4' : (upd (upd (upd (upd F (3693 + 4 * (o_ne O)) (nI (o_dy O))) (3693 + 4 * (o_ne O) + 1) (nI v)) (3693 + 4 * (o_ne O) + 2) kd) (3693 + 4 * (o_ne O) + 3) am) (4 : Int32).toNatClampNeg = nI (o_ne O) := by
        show (if 4 = 3693 + 4 * (o_ne O) + 3 then _ else if 4 = 3693 + 4 * (o_ne O) + 2 then _ else if 4 = 3693 + 4 * (o_ne O) + 1 then _ else if 4 = 3693 + 4 * (o_ne O) then _ else F 4) = nI (o_ne O)
        rw [if_neg (by omega), if_neg (by omega), if_neg (by omega), if_neg (by omega)]
        exact F4
      rw [F4', nI_1] at e3
      have D4 : mo_D M3 s rb (mo_ent F (o_ne O) (nI (o_dy O)) (nI v) kd am) g := e3 ▸ D3.w.w
      refine q M3 _ (fun z hz => ?_) ?_ D4 (W.book hO hv ham (if_pos (by omega)).symm (fun j hj h4 => hF j) fun i hi => ?_)
      · rw [e3, kz_up_ne hz, kz_up_ne hz, e2, kz_up_ne hz, kz_up_ne hz, e1, kz_up_ne hz, S1 z hz]
      · rw [e3, kz_up_2, kz_up_2, e2, kz_up_2, kz_up_2, e1, kz_up_2, t1]
      · rw [hF, if_neg (by omega), if_pos (by omega)]
        exact W.le hi
    · have h30 : o_ne O = 30 := (nI_eq (b := 30) (by omega) (by omega)).mp z
      refine ⟨_, _, D1.1, rfl, _, _, D1.1, rfl, ?_⟩
      refine m_copies (a := 100) (b := 100) (x := 3697) (y := 3693) (n := 116) D1.2.1 D1.2.1 (Or.inr (by omega)) (by omega) (by omega) (by omega) (by omega) fun M5 g5 t5 c5 => ⟨rfl, ?_⟩
      have D5 : mo_D M5 s rb _ g := ⟨(g5 99 (by omega)).trans D1.1, c5, (g5 104 (by omega)).trans D1.2.2⟩
      refine ⟨_, _, D5.1, rfl, _, _, D5.2.1, mo_in4, _, _, D5.2.1, mo_in4, ?_⟩
      have E4 : mo_cp F F 3697 3693 116 (4 : Int32).toNatClampNeg = nI 30 := (mo_cp_out (show 4 < 3693 ∨ 3693 + 116 ≤ 4 by omega)).trans (F4.trans (by rw [h30]))
      rw [E4, show nI 30 - 1 = nI 29 from nI_pred 29]
      have D6 : mo_D (kz_up M5 100 (.inr (.int, 3813, .inl (upd (mo_cp F F 3697 3693 116) (4 : Int32).toNatClampNeg (nI 29))))) s rb _ g := D5.w
      have hJ : ∀ j, upd (mo_cp F F 3697 3693 116) (4 : Int32).toNatClampNeg (nI 29) j = if j = 4 then nI 29 else mo_cp F F 3697 3693 116 j := fun j => rfl
      have S6 : ow_Sm (· = 100) M5 (kz_up M5 100 (.inr (.int, 3813, .inl (upd (mo_cp F F 3697 3693 116) (4 : Int32).toNatClampNeg (nI 29))))) := fun z hz => kz_up_ne hz
      have t6 := kz_up_2 M5 100 (.inr (.int, 3813, .inl (upd (mo_cp F F 3697 3693 116) (4 : Int32).toNatClampNeg (nI 29))))
      generalize kz_up M5 100 (.inr (.int, 3813, .inl (upd (mo_cp F F 3697 3693 116) (4 : Int32).toNatClampNeg (nI 29)))) = M6 at D6 S6 t6 ⊢
      generalize upd (mo_cp F F 3697 3693 116) (4 : Int32).toNatClampNeg (nI 29) = J at D6 hJ
      have J4 : J (4 : Int32).toNatClampNeg = nI 29 := (hJ 4).trans (if_pos rfl)
      have J2 : J (2 : Int32).toNatClampNeg = nI (o_dy O) := (hJ 2).trans ((if_neg (by omega)).trans ((mo_cp_out (show 2 < 3693 ∨ 3693 + 116 ≤ 2 by omega)).trans F2))
      refine ⟨_, _, D6.1, rfl, _, _, D6.2.1, mo_in4, _, _, D6.1, rfl, _, _, D6.1, rfl, _, _, D6.2.1, mo_in2, _, _, D6.2.1, ?_, fun M1 e1 => ?_⟩
      · rw [J4, show (4 : Int32) * nI 29 = nI (4 * 29) from pk_mul 4 29, show (3693 : Int32) + nI (4 * 29) = nI (3693 + 4 * 29) from nI_add 3693 _]
        exact vp_in_nI (by omega) (by omega)
      rw [J4, J2, show (4 : Int32) * nI 29 = nI (4 * 29) from pk_mul 4 29, show (3693 : Int32) + nI (4 * 29) = nI (3693 + 4 * 29) from nI_add 3693 _, nI_clamp (n := 3693 + 4 * 29) (by omega)] at e1
      rw [J4, show (4 : Int32) * nI 29 = nI (4 * 29) from pk_mul 4 29, show (3693 : Int32) + nI (4 * 29) = nI (3693 + 4 * 29) from nI_add 3693 _]
      have D2 : mo_D M1 s rb _ g := e1 ▸ D6.w
      refine ⟨_, _, D2.1, rfl, _, _, D2.2.1, ?_, _, _, D2.w.1, rfl, _, _, D2.w.2.1, ?_, fun M2 e2 => ?_⟩
      · rw [show nI (3693 + 4 * 29) + 1 = nI (3693 + 4 * 29 + 1) from nI_add _ 1]
        exact vp_in_nI (by omega) (by omega)
      · rw [show nI (3693 + 4 * 29) + 2 = nI (3693 + 4 * 29 + 2) from nI_add _ 2]
        exact vp_in_nI (by omega) (by omega)
      rw [show nI (3693 + 4 * 29) + 1 = nI (3693 + 4 * 29 + 1) from nI_add _ 1, show nI (3693 + 4 * 29) + 2 = nI (3693 + 4 * 29 + 2) from nI_add _ 2, nI_clamp (n := 3693 + 4 * 29 + 1) (by omega), nI_clamp (n := 3693 + 4 * 29 + 2) (by omega)] at e2
      have D3 : mo_D M2 s rb _ g := e2 ▸ D2.w.w
      rw [show nI (3693 + 4 * 29) + 3 = nI (3693 + 4 * 29 + 3) from nI_add _ 3, nI_clamp (n := 3693 + 4 * 29 + 3) (by omega)]
      refine ⟨_, _, D3.1, rfl, _, _, D3.2.1, vp_in_nI (by omega) (by omega), _, _, D3.w.1, rfl, _, _, D3.w.2.1, mo_in4, _, _, D3.w.2.1, mo_in4, fun M3 e3 => ?_⟩
      have F4' : (upd (upd (upd (upd J (3693 + 4 * 29) (nI (o_dy O))) (3693 + 4 * 29 + 1) (nI v)) (3693 + 4 * 29 + 2) kd) (3693 + 4 * 29 + 3) am) (4 : Int32).toNatClampNeg = nI 29 := by
        show (if 4 = 3693 + 4 * 29 + 3 then _ else if 4 = 3693 + 4 * 29 + 2 then _ else if 4 = 3693 + 4 * 29 + 1 then _ else if 4 = 3693 + 4 * 29 then _ else J 4) = nI 29
        rw [if_neg (by omega), if_neg (by omega), if_neg (by omega), if_neg (by omega)]
        exact J4
      rw [F4', nI_1] at e3
      have D4 : mo_D M3 s rb (mo_ent J 29 (nI (o_dy O)) (nI v) kd am) g := e3 ▸ D3.w.w
      refine q M3 _ (fun z hz => ?_) ?_ D4 (W.book hO hv ham (if_neg (by omega)).symm (fun j hj h4 => ?_) fun i hi => ?_)
      · rw [e3, kz_up_ne hz, kz_up_ne hz, e2, kz_up_ne hz, kz_up_ne hz, e1, kz_up_ne hz, S6 z hz, g5 z hz, S1 z hz]
      · rw [e3, kz_up_2, kz_up_2, e2, kz_up_2, kz_up_2, e1, kz_up_2, t6, t5, t1]
      · rw [hJ, if_neg h4, mo_cp_out (by omega), hF]
      · rw [hJ, if_neg (by omega), mo_cp_in (by omega), hF, if_neg (by omega), if_neg (by omega), show 3697 + i = 3693 + (i + 4) by omega]
        exact W.le (by omega)
  · refine q _ _ S1 t1 D1 ?_
    have hFf : F = f := by
      funext j
      rw [hF]
      by_cases hz : j = 21 + v
      · rw [if_pos hz, ham, hz, W.ba hv, Int32.add_zero]
      · rw [if_neg hz]
    rw [hFf, show o_book O v kd am = O from if_pos ham]
    exact W
end MOA
