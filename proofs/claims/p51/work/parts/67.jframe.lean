/-! Part 67: what the law's steps leave of the class's own cells -/
theorem kz_Ctag {G : kz_G} {d mc ms : Nat} {μ : kz_Y} {as : List Value} {M : kz_M} {Qr : Option Value → kz_M → Prop} {Qx : String → kz_M → Prop} {a n : Nat} {f f' : Nat → Int32} (hn : ∀ i, i < n → f' i = f i) (he : M.1 a = some (.inr (.int, n, .inl f))) (kk : kz_C G d mc ms μ as (kz_up M a (.inr (.int, n, .inl f'))) Qr Qx) : kz_C G d mc ms μ as M Qr Qx := by
  intro p e a1 a2 a3 s m args below a4 a5 hP hK
  refine kk p e a1 a2 a3 s m args below a4 a5 ⟨hP.1, hP.2.1.put he ?_ rfl (fun _ _ => rfl), hP.2.2⟩ hK
  obtain ⟨cA, g1, g2, g3⟩ := (hP.2.1.2.2.1 a _ he).2
  refine ⟨cA, ?_, g2, g3⟩
  rw [g1]
  show some (arrV cA n (fun j => .int (f j))) = some (arrV cA n (fun j => .int (f' j)))
  unfold arrV
  congr 2
  congr 1
  funext i
  show Value.int (f i.val) = Value.int (f' i.val)
  rw [hn i.val i.isLt]
/-- is it a cell of the class's own? -/
def ow_me (e : kz_E) : Prop := match e with
  | .inl o => o.1 < 11
  | .inr a => a.1 = .long ∨ a.1 = .object "LineOffice$Line" ∨ a.1 = .object "LineOffice$Work" ∨ ∃ n f, a.2 = (n, .inl f) ∧ a.1 = .int ∧ f 100000 = 0
def ow_Kw (M M1 : kz_M) : Prop := ∀ k e, ow_K ≤ k → ow_me e → M.1 k = some e → M1.1 k = some e
/-- a step of the law -/
def ow_LF (M M1 : kz_M) : Prop := (∀ k, k < 99 → M1.1 k = M.1 k) ∧ ow_Kw M M1 ∧ M.2 ≤ M1.2
theorem ow_LF.refl (M : kz_M) : ow_LF M M := ⟨fun _ _ => rfl, fun _ _ _ _ h => h, Nat.le_refl _⟩
theorem ow_LF.trans {M M1 M2 : kz_M} (h : ow_LF M M1) (g : ow_LF M1 M2) : ow_LF M M2 := ⟨fun k hk => (g.1 k hk).trans (h.1 k hk), fun k e h1 h2 h3 => g.2.1 k e h1 h2 (h.2.1 k e h1 h2 h3), Nat.le_trans h.2.2 g.2.2⟩
/-- is it a cell of the law's own? -/
def ow_no (M : kz_M) (k : Nat) : Prop := 99 ≤ k ∧ ∀ e, M.1 k = some e → ¬ ow_me e
theorem ow_Nw.lf {P : Nat → Prop} {M M1 : kz_M} (h : ow_Nw P M M1) (hf : ow_fr M) (hM : 99 ≤ M.2) (hP : ∀ k, P k → ow_no M k) : ow_LF M M1 := ⟨fun k hk => h.1 k (by omega) fun hp => by have := (hP k hp).1; omega, fun k e h1 h2 h3 => h.at hf (fun hp => (hP k hp).2 e h3 h2) h3, h.2⟩
theorem ow_RS.kw {M M1 : kz_M} {a : Nat} {s : ow_S} (h : ow_RS M a s) (g : ow_Kw M M1) : ow_RS M1 a s := by
  obtain ⟨aw, as, h1, h2, h3, h4, h5, h6⟩ := h
  exact ⟨aw, as, g _ _ h4 (show 6 < 11 by decide) h1, g _ _ h5 (Or.inl rfl) h2, g _ _ h6.1 (Or.inr (Or.inr (Or.inr ⟨_, _, rfl, rfl, h6.2⟩))) h3, h4, h5, h6⟩
theorem ow_RL.kw {M M1 : kz_M} {a sc : Nat} {l : ow_L} (h : ow_RL M a sc l) (g : ow_Kw M M1) : ow_RL M1 a sc l := ⟨g _ _ h.2 (show 3 < 11 by decide) h.1, h.2⟩
theorem ow_RW.kw {M M1 : kz_M} {a : Nat} {w : ow_W} (h : ow_RW M a w) (g : ow_Kw M M1) : ow_RW M1 a w := by
  obtain ⟨sc, al, f, h1, h2, h3, h4, h5, h6⟩ := h
  refine ⟨sc, al, f, g _ _ h4 (show 9 < 11 by decide) h1, h2.kw g, g _ _ h5 (Or.inr (Or.inl rfl)) h3, h4, h5, fun i hi => ?_⟩
  obtain ⟨b, hb, hl⟩ := h6 i hi
  exact ⟨b, hb, hl.kw g⟩
theorem ow_Ph.kw {M M1 : kz_M} {O : ow_O} {fh : Nat → Option Nat} (h : ow_Ph M O fh) (g : ow_Kw M M1) : ow_Ph M1 O fh := ⟨fun i hi b hb => by
  obtain ⟨h1, fs, h2⟩ := h.1 i hi b hb
  exact ⟨h1, fs, g _ _ h1 (show 9 < 11 by decide) h2⟩, fun i hi => by
  obtain ⟨b, hb, hw⟩ := h.2 i hi
  exact ⟨b, hb, hw.kw g⟩⟩
theorem ow_RO.kw {M M1 : kz_M} {s : Nat} {O : ow_O} (h : ow_RO M s O) (g : ow_Kw M M1) (e : ∀ k, s ≤ k → k < s + 8 → M1.1 k = M.1 k) : ow_RO M1 s O := by
  obtain ⟨h1, h2, ⟨f3, h3, h3'⟩, ⟨f4, h4, h4'⟩, ⟨f5, h5, h5'⟩, ⟨f6, h6, h6'⟩, ⟨f7, h7, h7'⟩, f8, h8, h8'⟩ := h
  refine ⟨?_, ?_, ⟨f3, ?_, h3'⟩, ⟨f4, ?_, h4'⟩, ⟨f5, ?_, h5'⟩, ⟨f6, ?_, h6'⟩, ⟨f7, ?_, h7'.kw g⟩, f8, ?_, h8'⟩
  · rw [e _ (by omega) (by omega)]; exact h1
  · rw [e _ (by omega) (by omega)]; exact h2
  · rw [e _ (by omega) (by omega)]; exact h3
  · rw [e _ (by omega) (by omega)]; exact h4
  · rw [e _ (by omega) (by omega)]; exact h5
  · rw [e _ (by omega) (by omega)]; exact h6
  · rw [e _ (by omega) (by omega)]; exact h7
  · rw [e _ (by omega) (by omega)]; exact h8
theorem ow_CI.lf {M M1 : kz_M} {O : ow_O} {hn : Nat} {h : Nat → ow_O} {sv : ow_O} {isS : Bool} {er : Nat} {ea : Int32} {n : Nat} {b : Nat → Nat} {l : List Nat} (I : ow_CI M O hn h sv isS er ea n b l) (g : ow_LF M M1) : ow_CI M1 O hn h sv isS er ea n b l := by
  obtain ⟨i1, i2, i3, i4, i5, ⟨K, r, ⟨r1, r2, ⟨f, r3, r4⟩, r5⟩, r6⟩, ⟨en, er', ea', O', t', ⟨tk, st, w, v, s1⟩, s2, f2, s3, s4⟩, ⟨k, P, p1, p2, f3, p3, p4⟩, i9⟩ := I
  have e := g.1
  have hK : ow_K = 99 := rfl
  refine ⟨(e 0 (by omega)).trans i1, i2.mv (e 1 (by omega)) (e 2 (by omega)), i3.mv (e 3 (by omega)) (e 4 (by omega)), i4.kw g.2.1 fun k _ h2 => e k (by omega), i5.kw g.2.1 fun k _ h2 => e k (by omega), ⟨K, r, ⟨(e 21 (by omega)).trans r1, r2, ⟨f, (e 22 (by omega)).trans r3, r4⟩, fun j hj => (r5 j hj).kw g.2.1 fun k _ h2 => e k (by omega)⟩, r6⟩, ⟨en, er', ea', O', t', ⟨tk, st, w, v, (e 87 (by omega)).trans s1⟩, s2.kw g.2.1 fun k _ h2 => e k (by omega), f2, (e 96 (by omega)).trans s3, s4⟩, ⟨k, P, (e 97 (by omega)).trans p1, p2, f3, (e 98 (by omega)).trans p3, fun i hi => ?_⟩, Nat.le_trans i9 g.2.2⟩
  obtain ⟨⟨b', hb, sc, hL, hS⟩, h2⟩ := p4 i hi
  exact ⟨⟨b', hb, sc, hL.kw g.2.1, hS.kw g.2.1⟩, h2⟩
