/-! Part 81: the law's own office takes a work in -/
theorem jL.same {M : kz_M} {a e n c : Nat} {x : Nat → Nat} {e' n' c' : Nat} {x' : Nat → Nat} (h : jL M a e n c x) (h' : jL M a e' n' c' x') (hn : 0 < n) (hn' : 0 < n') : e = e' := by
  rcases h with ⟨h1, -⟩ | ⟨-, h2, -⟩
  · omega
  · rcases h' with ⟨h1, -⟩ | ⟨-, h3, -⟩
    · omega
    · rw [h2] at h3
      have h4 := (Prod.mk.inj (Sum.inl.inj (Option.some.inj h3))).2
      have h5 := (List.cons.inj (List.cons.inj h4).2).1
      injection h5
theorem jL.row {M : kz_M} {a a' e n c : Nat} {x : Nat → Nat} {n' c' : Nat} {x' : Nat → Nat} (h : jL M a e n c x) (h' : jL M a' e n' c' x') (hn : 0 < n) (hn' : 0 < n') : x 0 = x' 0 := by
  rcases h with ⟨h1, -⟩ | ⟨-, -, h2, -⟩
  · omega
  · rcases h' with ⟨h1, -⟩ | ⟨-, -, h3, -⟩
    · omega
    · rw [h2] at h3
      have h4 := Option.some.inj h3
      injection h4 with h5
      injection h5 with h6 h7
      injection h7 with h8 h9
      injection h9 with h10
      injection h10 with h11
      injection h11 with h12
      injection h12 with h13
      have := congrFun h13 0
      unfold jx at this
      rw [if_pos hn, if_pos hn'] at this
      exact Option.some.inj this
theorem jX.apart {M : kz_M} {O : ow_O} {e0 capW : Nat} {xW al el cp : Nat → Nat} {y : Nat → Nat → Nat} (h : jX M O e0 capW xW al el cp y) {i : Nat} (hi : i < o_wk O) : al i ≠ 100 ∧ al i ≠ e0 ∧ el i ≠ 100 ∧ el i ≠ e0 := by
  obtain ⟨⟨w1, w2, w3⟩, w4, w5, w6, w7, w8, w9⟩ := h.2.2 i hi
  have hx0 : ∃ fs, M.1 (xW 0) = some (.inl (12, fs)) := ⟨_, (h.2.2 0 (by omega)).1.1⟩
  have hy0 : ∃ fs, M.1 (y i 0) = some (.inl (11, fs)) := (w3 0 w8).ob
  have hne : xW 0 ≠ y i 0 := fun e => by
    obtain ⟨fs, h1⟩ := hx0
    obtain ⟨fs', h2⟩ := hy0
    rw [e, h2] at h1; cases h1
  have hrow : ∃ c f, M.1 e0 = some (.inr (.object "java/lang/Object", c, f)) := by
    rcases h.1 with ⟨z, -⟩ | ⟨-, -, z, -⟩
    · omega
    · exact ⟨_, _, z⟩
  have hrow2 : ∃ c f, M.1 (el i) = some (.inr (.object "java/lang/Object", c, f)) := by
    rcases w2 with ⟨z, -⟩ | ⟨-, -, z, -⟩
    · omega
    · exact ⟨_, _, z⟩
  obtain ⟨fa, hal⟩ := w2.o
  obtain ⟨f100, h100⟩ := h.1.o
  refine ⟨fun z => ?_, fun z => ?_, fun z => ?_, fun z => ?_⟩
  · have w2' := w2
    rw [z] at w2'
    have e := h.1.same w2' (by omega) w8
    rw [← e] at w2'
    exact hne (h.1.row w2' (by omega) w8)
  · obtain ⟨c, f, hr⟩ := hrow
    rw [z, hr] at hal; cases hal
  · obtain ⟨c, f, hr⟩ := hrow2
    rw [z, h100] at hr; cases hr
  · have w2' := w2
    rw [z] at w2'
    exact hne (h.1.row w2' (by omega) w8)
theorem jnl_pos {s : ow_S} {me : Nat} (h : 1 ≤ s.2.1) : 1 ≤ ow_nl s me := by
  unfold ow_nl
  obtain ⟨f, hf⟩ : ∃ f, s.2.1 = f + 1 := ⟨s.2.1 - 1, by omega⟩
  rw [hf, ow_nlF, if_pos (by omega)]
  omega
theorem jX.more {M M1 : kz_M} {O : ow_O} {e0 capW v : Nat} {xW al el cp : Nat → Nat} {y : Nat → Nat → Nat} {s : ow_S} {e1 cap1 eln capl : Nat} {yl : Nat → Nat} (h : jX M O e0 capW xW al el cp y) (hf : ow_fr M) (h105 : 104 < M.2) (r101 : ∃ f, M.1 101 = some (.inr (.int, 3, .inl f))) (hs : 1 ≤ s.2.1 ∧ s.2.1 ≤ 16) (F : ow_Nw (fun k => k = 101 ∨ k = 100 ∨ k = e0) M M1) (g1 : jL M1 100 e1 (o_wk O + 1) cap1 (ja xW (o_wk O) M.2)) (g2 : e1 = e0 ∨ M.2 ≤ e1) (g3 : jWk M1 M.2 (M.2 + 1) eln capl yl (ow_jw O v s (o_ru O) (o_wk O))) (g4 : jOd M1 M.2 (ow_nl s (o_ru O 0)) yl) (hel : 99 ≤ eln) : jX M1 (o_more O (ow_jw O v s (o_ru O) (o_wk O))) e1 cap1 (ja xW (o_wk O) M.2) (ja al (o_wk O) (M.2 + 1)) (ja el (o_wk O) eln) (ja cp (o_wk O) capl) (fun i => if i = o_wk O then yl else y i) := by
  obtain ⟨f101, r101⟩ := r101
  have he0 := h.2.1
  have hL := h.1
  refine ⟨g1, by rcases g2 with e | e <;> omega, fun i hi => ?_⟩
  have hi : i < o_wk O + 1 := hi
  have ews : o_ws (o_more O (ow_jw O v s (o_ru O) (o_wk O))) i = if i = o_wk O then ow_jw O v s (o_ru O) (o_wk O) else o_ws O i := rfl
  by_cases hin : i = o_wk O
  · subst hin
    rw [ews, if_pos rfl]
    have hj1 : ∀ (x : Nat → Nat) (b : Nat), ja x (o_wk O) b (o_wk O) = b := fun x b => if_pos rfl
    rw [hj1, hj1, hj1, hj1]
    dsimp only
    rw [if_pos rfl]
    obtain ⟨hit, hend, hle⟩ := ow_it_nl s (o_ru O 0) s.2.1 0 (by omega) (Nat.zero_le _)
    refine ⟨g3, ⟨h105, by omega, hel⟩, ⟨fun j hj => (g4.1 j hj).1, fun j j' h1 h2 => g4.2 j j' h1 h2⟩, fun i' h1 h2 => ?_, ⟨rfl, fun j hj => rfl⟩, jnl_pos hs.1, ?_⟩
    · have h2 : i' < o_wk O + 1 := h2
      omega
    · show ow_nl s (o_ru O 0) ≤ 16
      unfold ow_nl; omega
  · have hi2 : i < o_wk O := by omega
    obtain ⟨⟨w1, w2, w3⟩, w4, w5, w6, w7, w8, w9⟩ := h.2.2 i hi2
    obtain ⟨p1, p2, p3, p4⟩ := h.apart hi2
    rw [ews, if_neg hin]
    have hj2 : ∀ (x : Nat → Nat) (b : Nat), ja x (o_wk O) b i = x i := fun x b => if_neg hin
    rw [hj2, hj2, hj2, hj2]
    dsimp only
    rw [if_neg hin]
    have h100 : ∃ fs, M.1 100 = some (.inl (16, fs)) := hL.o
    have hrow : ∃ c f, M.1 e0 = some (.inr (.object "java/lang/Object", c, f)) := by
      rcases hL with ⟨z, -⟩ | ⟨-, -, z, -⟩
      · omega
      · exact ⟨_, _, z⟩
    obtain ⟨f100, h100⟩ := h100
    obtain ⟨cr, fr, hrow⟩ := hrow
    have no : ∀ t e, M.1 t = some e → (∀ o : Nat × List Value, e = .inl o → o.1 = 16 → t ≠ 100) → (∀ n f, e = .inr (.object "java/lang/Object", n, f) → t ≠ e0) → (∀ f, e ≠ .inr (.int, 3, .inl f)) → ¬ (t = 101 ∨ t = 100 ∨ t = e0) := fun t e he h1 h2 h3 hp => by
      rcases hp with hp | hp | hp
      · rw [hp, r101] at he; cases he; exact h3 _ rfl
      · rw [hp, h100] at he; cases he; exact h1 _ rfl rfl hp
      · rw [hp, hrow] at he; cases he; exact h2 _ _ rfl hp
    have nal : ¬ (al i = 101 ∨ al i = 100 ∨ al i = e0) := by
      obtain ⟨fa, hal⟩ := w2.o
      exact no _ _ hal (fun o e h => p1) (fun n f e => by cases e) (fun f e => by cases e)
    have nel : ¬ (el i = 101 ∨ el i = 100 ∨ el i = e0) := by
      rcases w2 with ⟨z, -⟩ | ⟨-, -, z, -⟩
      · omega
      · exact no _ _ z (fun o e => by cases e) (fun n f e => p4) (fun f e => by cases e)
    refine ⟨⟨F.at hf (no _ _ w1 (fun o e h => by cases e; cases h) (fun n f e => by cases e) (fun f e => by cases e)) w1, w2.nw hf F nal nel, fun j hj => ?_⟩, w4, w5, fun i' h1 h2 j hj => ?_, w7, w8, w9⟩
    · obtain ⟨aw, f, q1, q2, q3⟩ := w3 j hj
      exact ⟨aw, f, F.at hf (no _ _ q1 (fun o e h => by cases e; cases h) (fun n f e => by cases e) (fun f e => by cases e)) q1, F.at hf (no _ _ q2 (fun o e => by cases e) (fun n f e => by cases e) (fun f e => by cases e)) q2, q3⟩
    · have h2 : i' < o_wk O + 1 := h2
      unfold ja
      by_cases hi' : i' = o_wk O
      · rw [if_pos hi']
        obtain ⟨fs, hy⟩ := (w3 j hj).ob
        exact hf _ _ hy
      · rw [if_neg hi']
        exact w6 i' h1 (by omega) j hj
theorem jZ.more {M M1 : kz_M} {O : ow_O} {e0 capW v : Nat} {xW al el cp : Nat → Nat} {y : Nat → Nat → Nat} {s : ow_S} {e1 cap1 eln capl : Nat} {yl : Nat → Nat} (z1 : jZo M O) (y2 : jRow M 102 3 (o_pd O)) (y3 : jRow M 103 3 (fun i => nI (jlo O i))) (y4 : jRow M 104 3 (fun i => nI (o_ru O (7 + i)))) (z6 : o_nw O = 3 ∧ 1 ≤ o_ru O 1) (h : jX M O e0 capW xW al el cp y) (hf : ow_fr M) (h105 : 104 < M.2) (r101 : ∃ f, M.1 101 = some (.inr (.int, 3, .inl f))) (hs : 1 ≤ s.2.1 ∧ s.2.1 ≤ 16) (F : ow_Nw (fun k => k = 101 ∨ k = 100 ∨ k = e0) M M1) (g1 : jL M1 100 e1 (o_wk O + 1) cap1 (ja xW (o_wk O) M.2)) (g2 : e1 = e0 ∨ M.2 ≤ e1) (g3 : jWk M1 M.2 (M.2 + 1) eln capl yl (ow_jw O v s (o_ru O) (o_wk O))) (g4 : jOd M1 M.2 (ow_nl s (o_ru O 0)) yl) (hel : 99 ≤ eln) (g5 : jRow M1 101 3 (fun j => if j = v then o_ba O v + ow_sm (jam O (ow_jw O v s (o_ru O) (o_wk O))) (ow_nl s (o_ru O 0)) else o_ba O j)) : jZ M1 (o_in O (ow_jw O v s (o_ru O) (o_wk O))) := by
  have ne0 : ∀ t e, M.1 t = some e → (∀ o : Nat × List Value, e = .inl o → o.1 ≠ 16) → (∀ n f, e ≠ .inr (.object "java/lang/Object", n, f)) → t ≠ e0 := fun t e he h1 h2 z => by
    rcases h.1 with ⟨-, z1, -, z3⟩ | ⟨-, -, z3, -⟩
    · rw [z, z1, z3] at he; cases he; exact h1 _ rfl rfl
    · rw [z, z3] at he; cases he; exact h2 _ _ rfl
  have row : ∀ {t : Nat} {gg : Nat → Int32}, t ≠ 101 → t ≠ 100 → jRow M t 3 gg → jRow M1 t 3 gg := fun h1 h2 ⟨f, p1, p2⟩ => ⟨f, F.at hf (fun hp => by
    rcases hp with hp | hp | hp
    · exact h1 hp
    · exact h2 hp
    · exact ne0 _ _ p1 (fun o e => by cases e) (fun n f e => by cases e) hp) p1, p2⟩
  unfold o_in
  refine ⟨?_, ⟨?_, ?_, ?_, ?_⟩, ?_, _, _, _, _, _, _, _, (h.more hf h105 r101 hs F g1 g2 g3 g4 hel).to ?_ ?_⟩
  · have := F.at hf (fun hp => by
      rcases hp with hp | hp | hp
      · exact absurd hp (by decide)
      · exact absurd hp (by decide)
      · exact ne0 _ _ z1 (fun o e => by cases e; exact (by decide : (13 : Nat) ≠ 16)) (fun n f e => by cases e) hp) z1
    unfold jZo jfs
    rw [o_book_mo', o_book_mo', o_book_dy', o_book_dy', o_book_ru, o_book_ru]
    exact this
  · obtain ⟨f, p1, p2, p3⟩ := g5
    refine ⟨f, p1, p2, fun i hi => (p3 i hi).trans ?_⟩
    rw [o_book_ba, o_book_ba, o_book_ba]
    show (if i = v then _ else _) = if i = v then _ else (if i = v then _ else o_ba O i)
    by_cases hi : i = v
    · rw [if_pos hi, if_pos hi, jam_sum]
      show _ = (if v = v then o_ba O v + ow_wp (ow_jw O v s (o_ru O) (o_wk O)) else o_ba O v) + -(nI (o_ru O 3) * nI (ow_wl 2 (ow_jw O v s (o_ru O) (o_wk O))))
      rw [if_pos rfl]
      grind
    · rw [if_neg hi, if_neg hi, if_neg hi]
  · rw [o_book_pd', o_book_pd']
    exact row (by decide) (by decide) y2
  · obtain ⟨f, p1, p2, p3⟩ := row (by decide) (by decide) y3
    refine ⟨f, p1, p2, fun i hi => (p3 i hi).trans (congrArg nI ?_)⟩
    rw [← jlo_more (O := O) (v := v) (s := s) i]
    exact (jlo_ws (O := o_more O (ow_jw O v s (o_ru O) (o_wk O))) (by rw [o_book_ws', o_book_ws']) (by rw [o_book_wk, o_book_wk]) i).symm
  · rw [o_book_ru, o_book_ru]
    exact row (by decide) (by decide) y4
  · rw [o_book_nw, o_book_nw, o_book_ru, o_book_ru]; exact z6
  · rw [o_book_wk, o_book_wk]
  · rw [o_book_ws', o_book_ws']
