/-! Part 38: State and Ledger: what changes them -/
def ow_R0 (M : kz_M) (s : Nat) (hd lh : List Value) (fr : Nat → Int32) (fn : Nat → Int64) (fb fp : Nat → Int32) (fh : Nat → Option Nat) (fl : Nat → Int32) : Prop := M.1 s = some (.inl (8, hd)) ∧ M.1 (s + 6) = some (.inl (2, lh)) ∧ M.1 (s + 1) = some (.inr (.int, 10, .inl fr)) ∧ M.1 (s + 2) = some (.inr (.long, 6, .inr (.inl fn))) ∧ M.1 (s + 3) = some (.inr (.int, 6, .inl fb)) ∧ M.1 (s + 4) = some (.inr (.int, 6, .inl fp)) ∧ M.1 (s + 5) = some (.inr (.object "LineOffice$Work", 12, .inr (.inr (.inr (.inr fh))))) ∧ M.1 (s + 7) = some (.inr (.int, 120, .inl fl))
abbrev ow_hd (s : Nat) (O : ow_O) : List Value := [.int (nI (o_dy O)), .int (nI (o_mo O)), .int (nI (o_nw O)), .int (nI (o_wk O)), .ref (s + 1), .ref (s + 2), .ref (s + 3), .ref (s + 4), .ref (s + 5), .ref (s + 6)]
abbrev ow_lh (s : Nat) (n : Nat) : List Value := [.ref (s + 7), .int (nI n)]
def ow_Pt (O : ow_O) (fr : Nat → Int32) (fn : Nat → Int64) (fb fp : Nat → Int32) (fl : Nat → Int32) : Prop := (∀ i, i < 10 → fr i = nI (o_ru O i)) ∧ (∀ i, i < o_nw O → fn i = lN (o_nm O i)) ∧ (∀ i, i < o_nw O → fb i = o_ba O i) ∧ (∀ i, i < o_nw O → fp i = o_pd O i) ∧ ∀ i, i < 4 * o_ne O → fl i = o_le O i
section OWR
variable {M : kz_M} {s : Nat} {O : ow_O} {hd lh hd' lh' : List Value} {fr fr' fb fb' fp fp' fl fl' : Nat → Int32} {fn fn' : Nat → Int64} {fh fh' : Nat → Option Nat}
theorem ow_RO.op (h : ow_RO M s O) : ∃ fr fn fb fp fh fl, ow_R0 M s (ow_hd s O) (ow_lh s (o_ne O)) fr fn fb fp fh fl ∧ ow_Pt O fr fn fb fp fl ∧ ow_Ph M O fh := by
  obtain ⟨h1, h2, ⟨f3, h3, h3'⟩, ⟨f4, h4, h4'⟩, ⟨f5, h5, h5'⟩, ⟨f6, h6, h6'⟩, ⟨f7, h7, h7'⟩, f8, h8, h8'⟩ := h
  exact ⟨f3, f4, f5, f6, f7, f8, ⟨h1, h2, h3, h4, h5, h6, h7, h8⟩, ⟨h3', h4', h5', h6', h8'⟩, h7'⟩
theorem ow_R0.cl (h : ow_R0 M s (ow_hd s O) (ow_lh s (o_ne O)) fr fn fb fp fh fl) (g : ow_Pt O fr fn fb fp fl) (g2 : ow_Ph M O fh) : ow_RO M s O := by
  obtain ⟨h1, h2, h3, h4, h5, h6, h7, h8⟩ := h
  obtain ⟨g3, g4, g5, g6, g8⟩ := g
  exact ⟨h1, h2, ⟨_, h3, g3⟩, ⟨_, h4, g4⟩, ⟨_, h5, g5⟩, ⟨_, h6, g6⟩, ⟨_, h7, g2⟩, _, h8, g8⟩
theorem ow_R0.u0 (h : ow_R0 M s hd lh fr fn fb fp fh fl) : ow_R0 (kz_up M s (.inl (8, hd'))) s hd' lh fr fn fb fp fh fl := by
  obtain ⟨h1, h2, h3, h4, h5, h6, h7, h8⟩ := h
  refine ⟨kz_up_same _ _ _, ?_, ?_, ?_, ?_, ?_, ?_, ?_⟩ <;> (rw [kz_up_ne (by omega)]; assumption)
theorem ow_R0.u6 (h : ow_R0 M s hd lh fr fn fb fp fh fl) : ow_R0 (kz_up M (s + 6) (.inl (2, lh'))) s hd lh' fr fn fb fp fh fl := by
  obtain ⟨h1, h2, h3, h4, h5, h6, h7, h8⟩ := h
  refine ⟨?_, kz_up_same _ _ _, ?_, ?_, ?_, ?_, ?_, ?_⟩ <;> (rw [kz_up_ne (by omega)]; assumption)
theorem ow_R0.u1 (h : ow_R0 M s hd lh fr fn fb fp fh fl) : ow_R0 (kz_up M (s + 1) (.inr (.int, 10, .inl fr'))) s hd lh fr' fn fb fp fh fl := by
  obtain ⟨h1, h2, h3, h4, h5, h6, h7, h8⟩ := h
  refine ⟨?_, ?_, kz_up_same _ _ _, ?_, ?_, ?_, ?_, ?_⟩ <;> (rw [kz_up_ne (by omega)]; assumption)
theorem ow_R0.u2 (h : ow_R0 M s hd lh fr fn fb fp fh fl) : ow_R0 (kz_up M (s + 2) (.inr (.long, 6, .inr (.inl fn')))) s hd lh fr fn' fb fp fh fl := by
  obtain ⟨h1, h2, h3, h4, h5, h6, h7, h8⟩ := h
  refine ⟨?_, ?_, ?_, kz_up_same _ _ _, ?_, ?_, ?_, ?_⟩ <;> (rw [kz_up_ne (by omega)]; assumption)
theorem ow_R0.u3 (h : ow_R0 M s hd lh fr fn fb fp fh fl) : ow_R0 (kz_up M (s + 3) (.inr (.int, 6, .inl fb'))) s hd lh fr fn fb' fp fh fl := by
  obtain ⟨h1, h2, h3, h4, h5, h6, h7, h8⟩ := h
  refine ⟨?_, ?_, ?_, ?_, kz_up_same _ _ _, ?_, ?_, ?_⟩ <;> (rw [kz_up_ne (by omega)]; assumption)
theorem ow_R0.u4 (h : ow_R0 M s hd lh fr fn fb fp fh fl) : ow_R0 (kz_up M (s + 4) (.inr (.int, 6, .inl fp'))) s hd lh fr fn fb fp' fh fl := by
  obtain ⟨h1, h2, h3, h4, h5, h6, h7, h8⟩ := h
  refine ⟨?_, ?_, ?_, ?_, ?_, kz_up_same _ _ _, ?_, ?_⟩ <;> (rw [kz_up_ne (by omega)]; assumption)
theorem ow_R0.u5 (h : ow_R0 M s hd lh fr fn fb fp fh fl) : ow_R0 (kz_up M (s + 5) (.inr (.object "LineOffice$Work", 12, .inr (.inr (.inr (.inr fh')))))) s hd lh fr fn fb fp fh' fl := by
  obtain ⟨h1, h2, h3, h4, h5, h6, h7, h8⟩ := h
  refine ⟨?_, ?_, ?_, ?_, ?_, ?_, kz_up_same _ _ _, ?_⟩ <;> (rw [kz_up_ne (by omega)]; assumption)
theorem ow_R0.u7 (h : ow_R0 M s hd lh fr fn fb fp fh fl) : ow_R0 (kz_up M (s + 7) (.inr (.int, 120, .inl fl'))) s hd lh fr fn fb fp fh fl' := by
  obtain ⟨h1, h2, h3, h4, h5, h6, h7, h8⟩ := h
  refine ⟨?_, ?_, ?_, ?_, ?_, ?_, ?_, kz_up_same _ _ _⟩ <;> (rw [kz_up_ne (by omega)]; assumption)
theorem ow_R0.ne {a : Nat} {e : kz_E} (h : ow_R0 M s hd lh fr fn fb fp fh fl) (ha : a < s ∨ s + 8 ≤ a) : ow_R0 (kz_up M a e) s hd lh fr fn fb fp fh fl := by
  obtain ⟨h1, h2, h3, h4, h5, h6, h7, h8⟩ := h
  refine ⟨?_, ?_, ?_, ?_, ?_, ?_, ?_, ?_⟩ <;> (rw [kz_up_ne (by omega)]; assumption)
theorem ow_R0.ld {M1 : kz_M} (h : ow_R0 M s hd lh fr fn fb fp fh fl) (g : ow_Sm (fun z => z = s + 6 ∨ z = s + 7) M M1) (g1 : M1.1 (s + 6) = some (.inl (2, lh'))) (g2 : M1.1 (s + 7) = some (.inr (.int, 120, .inl fl'))) : ow_R0 M1 s hd lh' fr fn fb fp fh fl' := by
  obtain ⟨h1, h2, h3, h4, h5, h6, h7, h8⟩ := h
  refine ⟨?_, g1, ?_, ?_, ?_, ?_, ?_, g2⟩ <;> (rw [g _ (by omega)]; assumption)
/-- only the cells of a state change -/
abbrev ow_in (s : Nat) (k : Nat) : Prop := s ≤ k ∧ k < s + 8
theorem ow_Sm.rfl' (P : Nat → Prop) (M : kz_M) : ow_Sm P M M := fun _ _ => rfl
theorem ow_Sm.trans {P : Nat → Prop} {M M1 M2 : kz_M} (h : ow_Sm P M M1) (g : ow_Sm P M1 M2) : ow_Sm P M M2 := fun k hk => (g k hk).trans (h k hk)
theorem ow_Sm.mono {P Q : Nat → Prop} {M M1 : kz_M} (h : ow_Sm P M M1) (g : ∀ k, P k → Q k) : ow_Sm Q M M1 := fun k hk => h k fun z => hk (g k z)
theorem ow_Sm.up {P : Nat → Prop} {M M1 : kz_M} (h : ow_Sm P M M1) {a : Nat} {e : kz_E} (ha : P a) : ow_Sm P M (kz_up M1 a e) := fun k hk => (kz_up_ne fun (z : k = a) => hk (z ▸ ha)).trans (h k hk)
end OWR
/-- the ledger with one entry more -/
def o_lad (n : Nat) (led : Nat → Int32) (a b c e : Int32) : Nat × (Nat → Int32) := ((if n < 30 then n else 29) + 1, fun i => if i = 4 * (if n < 30 then n else 29) + 3 then e else if i = 4 * (if n < 30 then n else 29) + 2 then c else if i = 4 * (if n < 30 then n else 29) + 1 then b else if i = 4 * (if n < 30 then n else 29) then a else if n < 30 then led i else led (i + 4))
def o_book (O : ow_O) (v : Nat) (kd am : Int32) : ow_O := if am = 0 then O else (o_dy O, o_mo O, o_nw O, o_wk O, o_ru O, o_nm O, upd (o_ba O) v (o_ba O v + am), o_pd O, o_ws O, o_lad (o_ne O) (o_le O) (nI (o_dy O)) (nI v) kd am)
def o_hand (O : ow_O) (v : Nat) (kd : Int32) (am : Nat) : ow_O := o_book (o_dy O, o_mo O - am, o_nw O, o_wk O, o_ru O, o_nm O, o_ba O, upd (o_pd O) v (o_pd O v + nI am), o_ws O, o_ne O, o_le O) v kd (-(nI am))
def o_repl (O : ow_O) (i : Nat) (w : ow_W) : ow_O := (o_dy O, o_mo O, o_nw O, o_wk O, o_ru O, o_nm O, o_ba O, o_pd O, (fun j => if j = i then w else o_ws O j), o_ne O, o_le O)
def o_more (O : ow_O) (w : ow_W) : ow_O := (o_dy O, o_mo O, o_nw O, o_wk O + 1, o_ru O, o_nm O, o_ba O, o_pd O, (fun j => if j = o_wk O then w else o_ws O j), o_ne O, o_le O)
def o_fine (O : ow_O) (w : ow_W) : Int32 := nI (o_ru O 3) * nI (ow_wl 2 w)
def o_in (O : ow_O) (w : ow_W) : ow_O := o_book (o_book (o_more O w) w.1 0 (ow_wp w)) w.1 1 (-(o_fine O w))
def o_enrol (O : ow_O) (x : Nat) : ow_O := (o_dy O, o_mo O, o_nw O + 1, o_wk O, o_ru O, (fun j => if j = o_nw O then x else o_nm O j), upd (o_ba O) (o_nw O) 0, upd (o_pd O) (o_nw O) 0, o_ws O, o_ne O, o_le O)
section OWT
variable {G : kz_G} {d : Nat} {Qr : Option Value → kz_M → Prop} {Qx : String → kz_M → Prop} {M : kz_M} {s : Nat} {O : ow_O}
theorem c_putE {p n i : Nat} {x y : Int32} {f : Nat → Int32} (e : y = nI i) (hr : M.1 p = some (.inr (.int, n, .inl f))) (hi : i < n) (hn : n < 2 ^ 31) (q : Qr none (kz_up M p (.inr (.int, n, .inl (upd f i x))))) : kz_C G d 0 0 mX11_put [.ref p, .int y, .int x] M Qr Qx := by
  subst e
  exact c_put hr hi hn q
theorem c_ladd {lg rw' n : Nat} {f led : Nat → Int32} {a b c e : Int32} (h1 : M.1 lg = some (.inl (2, [.ref rw', .int (nI n)]))) (h2 : M.1 rw' = some (.inr (.int, 120, .inl f))) (hn : n ≤ 30) (hf : ∀ i, i < 4 * n → f i = led i) (q : ∀ M1, ow_Sm (fun z => z = lg ∨ z = rw') M M1 → M1.2 = M.2 → M1.1 lg = some (.inl (2, [.ref rw', .int (nI (o_lad n led a b c e).1)])) → (∃ f', M1.1 rw' = some (.inr (.int, 120, .inl f')) ∧ ∀ i, i < 4 * (o_lad n led a b c e).1 → f' i = (o_lad n led a b c e).2 i) → Qr none M1) : kz_C G (d + 1) 0 0 mX2_add [.ref lg, .int a, .int b, .int c, .int e] M Qr Qx := by
  have hne : lg ≠ rw' := fun e => by rw [e, h2] at h1; cases h1
  have m0 : ∀ k, nI k * 4 = nI (4 * k) := fun k => by rw [show nI k * 4 = nI (k * 4) from pk_mul k 4, Nat.mul_comm]
  refine rX2_add_0 ⟨_, _, h1, rfl, pk_lt n 30 (fun hlt => ?_) (fun hge => ?_) rfl rfl⟩
  · have m1 : nI n * 4 + 1 = nI (4 * n + 1) := by rw [m0]; exact nI_add _ 1
    have m2 : nI n * 4 + 2 = nI (4 * n + 2) := by rw [m0]; exact nI_add _ 2
    have m3 : nI n * 4 + 3 = nI (4 * n + 3) := by rw [m0]; exact nI_add _ 3
    have u : ∀ (M : kz_M) (e : kz_E), (kz_up M rw' e).1 lg = M.1 lg := fun M e => kz_up_ne hne
    refine ⟨_, _, h1, rfl, _, _, h1, rfl, c_putE (m0 n) h2 (by omega) (by omega) ⟨rfl, _, _, (u _ _).trans h1, rfl, _, _, (u _ _).trans h1, rfl, c_putE m1 (kz_up_same _ _ _) (by omega) (by omega) ⟨rfl, _, _, (u _ _).trans ((u _ _).trans h1), rfl, _, _, (u _ _).trans ((u _ _).trans h1), rfl, c_putE m2 (kz_up_same _ _ _) (by omega) (by omega) ⟨rfl, _, _, (u _ _).trans ((u _ _).trans ((u _ _).trans h1)), rfl, _, _, (u _ _).trans ((u _ _).trans ((u _ _).trans h1)), rfl, c_putE m3 (kz_up_same _ _ _) (by omega) (by omega) ⟨rfl, _, _, (u _ _).trans ((u _ _).trans ((u _ _).trans ((u _ _).trans h1))), rfl, _, (u _ _).trans ((u _ _).trans ((u _ _).trans ((u _ _).trans h1))), ow_l rfl, ?_⟩⟩⟩⟩⟩
    have e1 : (o_lad n led a b c e).1 = n + 1 := by show (if n < 30 then n else 29) + 1 = n + 1; rw [if_pos hlt]
    refine q _ (((((ow_Sm.rfl' _ M).up (Or.inr rfl)).up (Or.inr rfl)).up (Or.inr rfl)).up (Or.inr rfl) |>.up (Or.inl rfl)) rfl ?_ ⟨_, (kz_up_ne hne.symm).trans (kz_up_same _ _ _), fun i hi => ?_⟩
    · rw [e1, kz_up_same, nI_1]; rfl
    · rw [e1] at hi
      show upd (upd (upd (upd f (4 * n) a) (4 * n + 1) b) (4 * n + 2) c) (4 * n + 3) e i = (if i = 4 * (if n < 30 then n else 29) + 3 then e else if i = 4 * (if n < 30 then n else 29) + 2 then c else if i = 4 * (if n < 30 then n else 29) + 1 then b else if i = 4 * (if n < 30 then n else 29) then a else if n < 30 then led i else led (i + 4))
      simp only [if_pos hlt, upd]
      by_cases i3 : i = 4 * n + 3
      · rw [if_pos i3, if_pos i3]
      rw [if_neg i3, if_neg i3]
      by_cases i2 : i = 4 * n + 2
      · rw [if_pos i2, if_pos i2]
      rw [if_neg i2, if_neg i2]
      by_cases i1 : i = 4 * n + 1
      · rw [if_pos i1, if_pos i1]
      rw [if_neg i1, if_neg i1]
      by_cases i0 : i = 4 * n
      · rw [if_pos i0, if_pos i0]
      rw [if_neg i0, if_neg i0]
      exact hf i (by omega)
  · have hn30 : n = 30 := by omega
    subst hn30
    have hsub : (Int32.ofNat 120) - 4 = nI 116 := by decide
    refine ⟨_, _, h1, rfl, _, _, h1, rfl, _, _, h1, rfl, _, _, h2, _, _, _, _, h2, h2, by decide, by decide, by rw [hsub]; decide, by rw [hsub]; decide, by rw [hsub]; decide, _, (kz_up_ne hne).trans h1, ow_l rfl, ?_⟩
    intro M1 e1
    rw [hsub, show (4 : Int32).toNatClampNeg = 4 from by decide, show (0 : Int32).toNatClampNeg = 0 from by decide, nI_clamp (by omega)] at e1
    have l1 : M1.1 lg = some (.inl (2, [.ref rw', .int (nI 29)])) := by rw [e1, kz_up_same]; rfl
    have l2 : M1.1 rw' = some (.inr (.int, 120, .inl (va_cpy f f 4 0 116))) := by rw [e1, kz_up_ne hne.symm, kz_up_same]
    have l3 : ow_Sm (fun z => z = lg ∨ z = rw') M M1 := by rw [e1]; exact ((ow_Sm.rfl' _ M).up (Or.inr rfl)).up (Or.inl rfl)
    have l4 : M1.2 = M.2 := by rw [e1]; rfl
    clear e1
    have m1 : nI 29 * 4 + 1 = nI 117 := by decide
    have m2 : nI 29 * 4 + 2 = nI 118 := by decide
    have m3 : nI 29 * 4 + 3 = nI 119 := by decide
    have m0' : nI 29 * 4 = nI 116 := by decide
    have u : ∀ (M : kz_M) (e : kz_E), (kz_up M rw' e).1 lg = M.1 lg := fun M e => kz_up_ne hne
    refine ⟨_, _, l1, rfl, _, _, l1, rfl, c_putE m0' l2 (by omega) (by omega) ⟨rfl, _, _, (u _ _).trans l1, rfl, _, _, (u _ _).trans l1, rfl, c_putE m1 (kz_up_same _ _ _) (by omega) (by omega) ⟨rfl, _, _, (u _ _).trans ((u _ _).trans l1), rfl, _, _, (u _ _).trans ((u _ _).trans l1), rfl, c_putE m2 (kz_up_same _ _ _) (by omega) (by omega) ⟨rfl, _, _, (u _ _).trans ((u _ _).trans ((u _ _).trans l1)), rfl, _, _, (u _ _).trans ((u _ _).trans ((u _ _).trans l1)), rfl, c_putE m3 (kz_up_same _ _ _) (by omega) (by omega) ⟨rfl, _, _, (u _ _).trans ((u _ _).trans ((u _ _).trans ((u _ _).trans l1))), rfl, _, (u _ _).trans ((u _ _).trans ((u _ _).trans ((u _ _).trans l1))), ow_l rfl, ?_⟩⟩⟩⟩⟩
    refine q _ (((((l3.up (Or.inr rfl)).up (Or.inr rfl)).up (Or.inr rfl)).up (Or.inr rfl)).up (Or.inl rfl)) l4 ?_ ⟨_, (kz_up_ne hne.symm).trans (kz_up_same _ _ _), fun i hi => ?_⟩
    · rw [kz_up_same]; rfl
    · have hi : i < 120 := hi
      show upd (upd (upd (upd (va_cpy f f 4 0 116) 116 a) 117 b) 118 c) 119 e i = (if i = 119 then e else if i = 118 then c else if i = 117 then b else if i = 116 then a else led (i + 4))
      simp only [upd]
      by_cases i3 : i = 119
      · rw [if_pos i3, if_pos i3]
      rw [if_neg i3, if_neg i3]
      by_cases i2 : i = 118
      · rw [if_pos i2, if_pos i2]
      rw [if_neg i2, if_neg i2]
      by_cases i1 : i = 117
      · rw [if_pos i1, if_pos i1]
      rw [if_neg i1, if_neg i1]
      by_cases i0 : i = 116
      · rw [if_pos i0, if_pos i0]
      rw [if_neg i0, if_neg i0, va_cpy, if_pos ⟨by omega, by omega⟩, show 4 + (i - 0) = i + 4 by omega]
      exact hf _ (by omega)
end OWT
