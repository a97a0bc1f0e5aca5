/-! Part 30: what an office is, as mathematical values; how the heap of the class holds them -/
theorem ow_lit (n : Nat) : (OfNat.ofNat n : Int32) = nI n := rfl
theorem ow_neg1 : (-1 : Int32) = -(nI 1) := by decide
/-- backwards along a loop -/
theorem ow_loop {P : Nat → Prop} (b : Nat) (hb : P b) (hs : ∀ i, i < b → P (i + 1) → P i) : ∀ i, i ≤ b → P i := by
  intro i hi
  obtain ⟨k, rfl⟩ : ∃ k, b = i + k := ⟨b - i, by omega⟩
  induction k generalizing i with
  | zero => exact hb
  | succ k ih =>
    refine hs i (by omega) (ih (i + 1) ?_ ?_ ?_)
    · rw [show i + 1 + k = i + (k + 1) by omega]; exact hb
    · intro j hj; exact hs j (by omega)
    · omega
/-- how many below n -/
def ow_cn (p : Nat → Bool) : Nat → Nat
  | 0 => 0
  | n + 1 => ow_cn p n + (if p n then 1 else 0)
theorem ow_cn_le (p : Nat → Bool) : ∀ n, ow_cn p n ≤ n
  | 0 => Nat.le_refl _
  | n + 1 => by
    have := ow_cn_le p n
    unfold ow_cn
    split <;> omega
theorem ow_cn_t {p : Nat → Bool} {n : Nat} (h : p n = true) : ow_cn p (n + 1) = ow_cn p n + 1 := by rw [ow_cn, h]; rfl
theorem ow_cn_f {p : Nat → Bool} {n : Nat} (h : p n = false) : ow_cn p (n + 1) = ow_cn p n := by rw [ow_cn, h]; rfl
theorem ow_cn_ext {p q : Nat → Bool} : ∀ {n : Nat}, (∀ i, i < n → p i = q i) → ow_cn p n = ow_cn q n
  | 0, _ => rfl
  | n + 1, h => by rw [ow_cn, ow_cn, ow_cn_ext (fun i hi => h i (by omega)), h n (by omega)]
theorem ow_cn_0 {p : Nat → Bool} : ∀ {n : Nat}, (∀ i, i < n → p i = false) → ow_cn p n = 0
  | 0, _ => rfl
  | n + 1, h => by rw [ow_cn, ow_cn_0 (fun i hi => h i (by omega)), h n (by omega)]; rfl
theorem ow_cn_pos {p : Nat → Bool} : ∀ {n : Nat}, 0 < ow_cn p n ↔ ∃ i, i < n ∧ p i = true
  | 0 => ⟨fun h => absurd h (Nat.lt_irrefl 0), fun ⟨i, h, _⟩ => absurd h (by omega)⟩
  | n + 1 => by
    by_cases hp : p n = true
    · rw [ow_cn_t hp]
      exact ⟨fun _ => ⟨n, by omega, hp⟩, fun _ => by omega⟩
    · have hp2 : p n = false := by simpa using hp
      rw [ow_cn_f hp2, ow_cn_pos]
      constructor
      · rintro ⟨i, h1, h2⟩; exact ⟨i, by omega, h2⟩
      · rintro ⟨i, h1, h2⟩
        refine ⟨i, ?_, h2⟩
        rcases Nat.lt_or_ge i n with h | h
        · exact h
        · have : i = n := by omega
          subst this; exact absurd h2 hp
/-- a sum below n -/
def ow_sm (f : Nat → Int32) : Nat → Int32
  | 0 => 0
  | n + 1 => ow_sm f n + f n
/-- where the cells that no method changes begin -/
def ow_K : Nat := 99
/-- a script: kind, how many words, the words, the slashes ahead of each -/
abbrev ow_S : Type := Nat × Nat × (Nat → Int64) × (Nat → Int32)
/-- a line: from, to, width, pay, reason, state -/
abbrev ow_L : Type := Nat × Nat × Int32 × Int32 × Nat × Nat
/-- a work: writer, day, script, how many lines, the lines -/
abbrev ow_W : Type := Nat × Nat × ow_S × Nat × (Nat → ow_L)
def ow_RS (M : kz_M) (a : Nat) (s : ow_S) : Prop := ∃ aw as, M.1 a = some (.inl (6, [.int (nI s.1), .ref aw, .ref as])) ∧ M.1 aw = some (.inr (.long, s.2.1, .inr (.inl s.2.2.1))) ∧ M.1 as = some (.inr (.int, s.2.1, .inl s.2.2.2)) ∧ ow_K ≤ a ∧ ow_K ≤ aw ∧ ow_K ≤ as ∧ s.2.2.2 100000 = 0
def ow_RL (M : kz_M) (a sc : Nat) (l : ow_L) : Prop := M.1 a = some (.inl (3, [.ref sc, .int (nI l.1), .int (nI l.2.1), .int l.2.2.1, .int l.2.2.2.1, .int (nI l.2.2.2.2.1), .int (nI l.2.2.2.2.2)])) ∧ ow_K ≤ a
def ow_RW (M : kz_M) (a : Nat) (w : ow_W) : Prop := ∃ sc al f, M.1 a = some (.inl (9, [.int (nI w.1), .int (nI w.2.1), .ref sc, .ref al])) ∧ ow_RS M sc w.2.2.1 ∧ M.1 al = some (.inr (.object "LineOffice$Line", w.2.2.2.1, .inr (.inr (.inr (.inr f))))) ∧ ow_K ≤ a ∧ ow_K ≤ al ∧ ∀ i, i < w.2.2.2.1 → ∃ b, f i = some b ∧ ow_RL M b sc (w.2.2.2.2 i)
/-- the cells that no method changes stay -/
def ow_Kp (M M1 : kz_M) : Prop := ∀ k e, ow_K ≤ k → M.1 k = some e → M1.1 k = some e
theorem ow_Kp.rfl' (M : kz_M) : ow_Kp M M := fun _ _ _ h => h
theorem ow_Kp.trans {M M1 M2 : kz_M} (h : ow_Kp M M1) (g : ow_Kp M1 M2) : ow_Kp M M2 := fun k e hk he => g k e hk (h k e hk he)
theorem ow_RS.keep {M M1 : kz_M} {a : Nat} {s : ow_S} (h : ow_RS M a s) (g : ow_Kp M M1) : ow_RS M1 a s := by
  obtain ⟨aw, as, h1, h2, h3, h4, h5, h6⟩ := h
  exact ⟨aw, as, g _ _ h4 h1, g _ _ h5 h2, g _ _ h6.1 h3, h4, h5, h6⟩
theorem ow_RL.keep {M M1 : kz_M} {a sc : Nat} {l : ow_L} (h : ow_RL M a sc l) (g : ow_Kp M M1) : ow_RL M1 a sc l := ⟨g _ _ h.2 h.1, h.2⟩
theorem ow_RW.keep {M M1 : kz_M} {a : Nat} {w : ow_W} (h : ow_RW M a w) (g : ow_Kp M M1) : ow_RW M1 a w := by
  obtain ⟨sc, al, f, h1, h2, h3, h4, h5, h6⟩ := h
  refine ⟨sc, al, f, g _ _ h4 h1, h2.keep g, g _ _ h5 h3, h4, h5, fun i hi => ?_⟩
  obtain ⟨b, hb, hl⟩ := h6 i hi
  exact ⟨b, hb, hl.keep g⟩
/-- a heap that is the same but for some fixed cells -/
def ow_Sm (P : Nat → Prop) (M M1 : kz_M) : Prop := ∀ k, ¬ P k → M1.1 k = M.1 k
theorem ow_Sm.kp {P : Nat → Prop} {M M1 : kz_M} (h : ow_Sm P M M1) (hP : ∀ k, P k → k < ow_K) : ow_Kp M M1 := fun k e hk he => by
  rw [h k (fun hp => absurd (hP k hp) (by omega))]; exact he
theorem kz_up_same (M : kz_M) (a : Nat) (e : kz_E) : (kz_up M a e).1 a = some e := if_pos rfl
theorem kz_up_ne {M : kz_M} {a b : Nat} {e : kz_E} (h : b ≠ a) : (kz_up M a e).1 b = M.1 b := if_neg h
theorem kz_nw_same (M : kz_M) (e : kz_E) : (kz_nw M e).1 M.2 = some e := if_pos rfl
theorem kz_nw_ne {M : kz_M} {b : Nat} {e : kz_E} (h : b ≠ M.2) : (kz_nw M e).1 b = M.1 b := if_neg h
theorem kz_up_2 (M : kz_M) (a : Nat) (e : kz_E) : (kz_up M a e).2 = M.2 := rfl
theorem kz_nw_2 (M : kz_M) (e : kz_E) : (kz_nw M e).2 = M.2 + 1 := rfl
/-- a comparison's two roads, one of which is known -/
theorem ow_y {c A B : Prop} (h : c) (a : A) : (c → A) ∧ (¬ c → B) := ⟨fun _ => a, fun n => absurd h n⟩
theorem ow_n {c A B : Prop} (h : ¬ c) (b : B) : (c → A) ∧ (¬ c → B) := ⟨fun y => absurd y h, fun _ => b⟩
theorem ow_yn {c A B : Prop} (h : ¬ c) (a : A) : (¬ c → A) ∧ (c → B) := ⟨fun _ => a, fun y => absurd y h⟩
theorem ow_nn {c A B : Prop} (h : c) (b : B) : (¬ c → A) ∧ (c → B) := ⟨fun y => absurd h y, fun _ => b⟩
