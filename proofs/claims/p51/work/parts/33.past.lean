/-! Part 33: Line and Past: contracts of what only reads -/
def ow_b (b : Bool) : Int32 := if b then 1 else 0
theorem ow_if0 {b : Bool} {A B : Prop} (f : b = false → A) (g : b = true → B) : (ow_b b = 0 → A) ∧ (¬ ow_b b = 0 → B) := by
  cases b
  · exact ⟨fun _ => f rfl, fun h => absurd rfl h⟩
  · exact ⟨fun h => absurd h (by decide), fun _ => g rfl⟩
theorem ow_ifn {b : Bool} {A B : Prop} (f : b = true → A) (g : b = false → B) : (¬ ow_b b = 0 → A) ∧ (ow_b b = 0 → B) := by
  cases b
  · exact ⟨fun h => absurd rfl h, fun _ => g rfl⟩
  · exact ⟨fun _ => f rfl, fun h => absurd h (by decide)⟩
theorem ow_nar (b : Bool) : narrow .boolean (.int (ow_b b)) = .int (ow_b b) := by cases b <;> rfl
theorem ow_bt {b : Bool} (h : b = true) : ow_b b = 1 := by rw [h]; rfl
theorem ow_bf {b : Bool} (h : b = false) : ow_b b = 0 := by rw [h]; rfl
/-- a bounded search -/
def ow_ex (p : Nat → Bool) (n : Nat) : Bool := decide (0 < ow_cn p n)
theorem ow_ex_iff {p : Nat → Bool} {n : Nat} : ow_ex p n = true ↔ ∃ i, i < n ∧ p i = true := by unfold ow_ex; rw [decide_eq_true_iff]; exact ow_cn_pos
theorem ow_ex_f {p : Nat → Bool} {n : Nat} : ow_ex p n = false ↔ ∀ i, i < n → p i = false := by
  constructor
  · intro h i hi
    cases hp : p i with
    | false => rfl
    | true => rw [ow_ex_iff.mpr ⟨i, hi, hp⟩] at h; cases h
  · intro h
    cases he : ow_ex p n with
    | false => rfl
    | true =>
      obtain ⟨i, hi, hp⟩ := ow_ex_iff.mp he
      rw [h i hi] at hp; cases hp
/-- a line of the script s lies at b -/
def ow_LL (M : kz_M) (b : Nat) (s : ow_S) (l : ow_L) : Prop := ∃ sc, ow_RL M b sc l ∧ ow_RS M sc s
theorem ow_LL.keep {M M1 : kz_M} {b : Nat} {s : ow_S} {l : ow_L} (h : ow_LL M b s l) (g : ow_Kp M M1) : ow_LL M1 b s l := by
  obtain ⟨sc, h1, h2⟩ := h
  exact ⟨sc, h1.keep g, h2.keep g⟩
/-- a line's words are the script's -/
def ow_Lok (s : ow_S) (l : ow_L) : Prop := l.1 ≤ l.2.1 ∧ l.2.1 ≤ s.2.1 ∧ l.2.2.2.2.1 ≤ 3 ∧ l.2.2.2.2.2 ≤ 3
def ow_cts (l : ow_L) : Bool := decide (l.2.2.2.2.2 = 0) || decide (l.2.2.2.2.2 = 2)
def ow_of (k : Nat) (l : ow_L) : Bool := if k = 1 then ow_cts l else if k = 2 then decide (l.2.2.2.2.1 ≠ 0) else if k = 3 then decide (l.2.2.2.2.2 = 2) else if k = 4 then decide (l.2.2.2.2.2 = 3) else true
def ow_has (s : ow_S) (l : ow_L) (x : Int64) : Bool := decide (0 < ow_tm s.2.2.1 x l.1 l.2.1)
def ow_stf (s : ow_S) (l : ow_L) (often : Nat) : Bool := ow_ex (fun i => decide (l.1 ≤ i) && decide (often ≤ ow_tm s.2.2.1 (s.2.2.1 i) l.1 l.2.1)) l.2.1
def ow_lk (s : ow_S) (l : ow_L) (t : ow_S) (o : ow_L) : Bool := decide (l.2.1 - l.1 = o.2.1 - o.1) && !ow_ex (fun i => decide (s.2.2.1 (l.1 + i) ≠ t.2.2.1 (o.1 + i))) (l.2.1 - l.1)
section OWP
variable {G : kz_G} {d : Nat} {Qr : Option Value → kz_M → Prop} {Qx : String → kz_M → Prop} {M : kz_M}
theorem c_counts {b : Nat} {sc : Nat} {l : ow_L} (h : ow_RL M b sc l) (hl : l.2.2.2.2.2 ≤ 3) (q : Qr (some (.int (ow_b (ow_cts l)))) M) : kz_C G d 0 0 mX3_counts [.ref b] M Qr Qx := by
  refine rX3_counts_0 ⟨_, _, h.1, rfl, pk_eq l.2.2.2.2.2 0 (fun h0 => ?_) (fun h0 => ⟨_, _, h.1, rfl, ?_⟩) rfl rfl⟩
  · rw [ow_bt (by simp [ow_cts, h0])] at q; exact q
  · by_cases h2 : l.2.2.2.2.2 = 2
    · rw [ow_bt (by simp [ow_cts, h2])] at q
      exact ow_nn (by rw [h2]; rfl) q
    · rw [ow_bf (by simp [ow_cts, h0, h2])] at q
      exact ow_yn (fun e => h2 ((nI_eq (b := 2) (by omega) (by omega)).mp e)) q
theorem c_isOf {b k : Nat} {sc : Nat} {l : ow_L} (h : ow_RL M b sc l) (hl : l.2.2.2.2.2 ≤ 3) (hr : l.2.2.2.2.1 ≤ 3) (hk : k ≤ 4) (q : Qr (some (.int (ow_b (ow_of k l)))) M) : kz_C G (d + 1) 0 0 mX3_isOf [.ref b, .int (nI k)] M Qr Qx := by
  have ne : ∀ a c : Nat, a ≤ 4 → c ≤ 4 → nI a = nI c → a = c := fun a c ha hc e => (nI_eq (by omega) (by omega)).mp e
  refine rX3_isOf_0 ⟨fun e => ?_, fun e => ?_, fun e => ?_, fun e => ?_, fun e1 e2 e3 e4 => ?_⟩
  · have e := ne k 1 hk (by omega) e
    subst e
    exact ⟨⟨_, h.1⟩, c_counts h hl ⟨_, rfl, ow_nar _, q⟩⟩
  · have e := ne k 2 hk (by omega) e
    subst e
    refine ⟨_, _, h.1, rfl, pk_eq l.2.2.2.2.1 0 (fun h0 => ?_) (fun h0 => ?_) rfl rfl⟩
    · rw [ow_bf (by simp [ow_of, h0])] at q; exact q
    · rw [ow_bt (by simp [ow_of, h0])] at q; exact q
  · have e := ne k 3 hk (by omega) e
    subst e
    refine ⟨_, _, h.1, rfl, ?_⟩
    by_cases h2 : l.2.2.2.2.2 = 2
    · rw [ow_bt (by simp [ow_of, h2])] at q
      exact ow_nn (by rw [h2]; rfl) q
    · rw [ow_bf (by simp [ow_of, h2])] at q
      exact ow_yn (fun e => h2 (ne _ 2 (by omega) (by omega) e)) q
  · have e := ne k 4 hk (by omega) e
    subst e
    refine ⟨_, _, h.1, rfl, ?_⟩
    by_cases h2 : l.2.2.2.2.2 = 3
    · rw [ow_bt (by simp [ow_of, h2])] at q
      exact ow_nn (by rw [h2]; rfl) q
    · rw [ow_bf (by simp [ow_of, h2])] at q
      exact ow_yn (fun e => h2 (ne _ 3 (by omega) (by omega) e)) q
  · have e0 : k = 0 := by
      rcases (by omega : k = 0 ∨ k = 1 ∨ k = 2 ∨ k = 3 ∨ k = 4) with h | rfl | rfl | rfl | rfl
      · exact h
      · exact absurd rfl e1
      · exact absurd rfl e2
      · exact absurd rfl e3
      · exact absurd rfl e4
    subst e0
    exact q
theorem c_different {b : Nat} {s : ow_S} {l : ow_L} (h : ow_LL M b s l) (hs : ow_Sok s) (ho : ow_Lok s l) (q : Qr (some (.int (nI (ow_df s.2.2.1 l.1 l.2.1)))) M) : kz_C G (d + 4) 0 0 mX3_different [.ref b] M Qr Qx := by
  obtain ⟨sc, h1, h2⟩ := h
  have hobj : ∃ fs, M.1 sc = some (.inl (6, fs)) := by obtain ⟨aw, as, h1, -⟩ := h2; exact ⟨_, h1⟩
  exact rX3_different_0 ⟨_, _, h1.1, rfl, _, _, h1.1, rfl, _, _, h1.1, rfl, hobj, c_differentBetween h2 ho.1 ho.2.1 (by have := hs.2.2.1; omega) ⟨_, rfl, q⟩⟩
theorem c_has {b : Nat} {x : Int64} {s : ow_S} {l : ow_L} (h : ow_LL M b s l) (hs : ow_Sok s) (ho : ow_Lok s l) (q : Qr (some (.int (ow_b (ow_has s l x)))) M) : kz_C G (d + 2) 0 0 mX3_has [.ref b, .long x] M Qr Qx := by
  obtain ⟨sc, h1, h2⟩ := h
  have hobj : ∃ fs, M.1 sc = some (.inl (6, fs)) := by obtain ⟨aw, as, h1, -⟩ := h2; exact ⟨_, h1⟩
  have hn := hs.2.2.1
  have hle := ow_tm_le s.2.2.1 x l.1 l.2.1
  have := ho.2.1
  refine rX3_has_0 ⟨_, _, h1.1, rfl, _, _, h1.1, rfl, _, _, h1.1, rfl, hobj, c_times h2 ho.1 ho.2.1 (by omega) ⟨_, rfl, pk_le (ow_tm s.2.2.1 x l.1 l.2.1) 0 (fun hz => ?_) (fun hz => ?_) rfl rfl⟩⟩
  · rw [ow_bf (by simp [ow_has]; omega)] at q; exact q
  · rw [ow_bt (by simp [ow_has]; omega)] at q; exact q
theorem c_isStuffed {b often : Nat} {s : ow_S} {l : ow_L} (h : ow_LL M b s l) (hs : ow_Sok s) (ho : ow_Lok s l) (hof : often < 2 ^ 20) (q : Qr (some (.int (ow_b (ow_stf s l often)))) M) : kz_C G (d + 2) 0 0 mX3_isStuffed [.ref b, .int (nI often)] M Qr Qx := by
  obtain ⟨sc, h1, h2⟩ := h
  have hobj : ∃ fs, M.1 sc = some (.inl (6, fs)) := by obtain ⟨aw, as, h1, -⟩ := h2; exact ⟨_, h1⟩
  have hn := hs.2.2.1
  have h21 := ho.2.1
  refine rX3_isStuffed_0 ⟨_, _, h1.1, rfl, ?_⟩
  have key : ∀ i, i ≤ l.2.1 → l.1 ≤ i → (∀ j, j < i → l.1 ≤ j → ow_tm s.2.2.1 (s.2.2.1 j) l.1 l.2.1 < often) → zX3_isStuffed_5 G d Qr Qx b (nI often) (nI i) M := by
    refine ow_loop l.2.1 ?_ ?_
    · intro _ hno
      refine rX3_isStuffed_5 ⟨_, _, h1.1, rfl, ow_y (nI_le (Nat.le_refl _) (by omega)) ?_⟩
      unfold ow_stf at q
      rw [ow_bf (ow_ex_f.mpr fun i hi => ?_)] at q
      · exact q
      · by_cases hli : l.1 ≤ i
        · have := hno i hi hli
          simp; omega
        · simp; omega
    · intro i hi ih hli hno
      have hle := ow_tm_le s.2.2.1 (s.2.2.1 i) l.1 l.2.1
      refine rX3_isStuffed_5 ⟨_, _, h1.1, rfl, ow_n (nI_ge hi (by omega)) ⟨_, _, h1.1, rfl, _, _, h1.1, rfl, hobj, c_wordAt h2 (by omega) (by omega) ⟨_, rfl, _, _, h1.1, rfl, _, _, h1.1, rfl, hobj, c_times h2 ho.1 ho.2.1 (by omega) ⟨_, rfl, pk_lt (ow_tm s.2.2.1 (s.2.2.1 i) l.1 l.2.1) often (fun hz => ?_) (fun hz => ?_) rfl rfl⟩⟩⟩⟩
      · rw [nI_1]
        refine ih (by omega) fun j hj hlj => ?_
        rcases Nat.lt_or_ge j i with hji | hji
        · exact hno j hji hlj
        · have : j = i := by omega
          subst this; exact hz
      · unfold ow_stf at q
        rw [ow_bt (ow_ex_iff.mpr ⟨i, hi, by simp [hli, hz]⟩)] at q
        exact q
  exact key l.1 ho.1 (Nat.le_refl _) fun j hj hlj => by omega
theorem c_isLike {b b2 : Nat} {s t : ow_S} {l o : ow_L} (h : ow_LL M b s l) (g : ow_LL M b2 t o) (hs : ow_Sok s) (ht : ow_Sok t) (hl : ow_Lok s l) (ho : ow_Lok t o) (q : Qr (some (.int (ow_b (ow_lk s l t o)))) M) : kz_C G (d + 1) 0 0 mX3_isLike [.ref b, .ref b2] M Qr Qx := by
  obtain ⟨sc, h1, h2⟩ := h
  obtain ⟨tc, g1, g2⟩ := g
  have hobj : ∃ fs, M.1 sc = some (.inl (6, fs)) := by obtain ⟨aw, as, h1, -⟩ := h2; exact ⟨_, h1⟩
  have gobj : ∃ fs, M.1 tc = some (.inl (6, fs)) := by obtain ⟨aw, as, h1, -⟩ := g2; exact ⟨_, h1⟩
  have hn := hs.2.2.1
  have tn := ht.2.2.1
  obtain ⟨hl1, hl2, -⟩ := hl
  obtain ⟨ho1, ho2, -⟩ := ho
  refine rX3_isLike_0 ⟨_, _, h1.1, rfl, _, _, h1.1, rfl, _, _, g1.1, rfl, _, _, g1.1, rfl, ?_⟩
  rw [pk_sub hl1, pk_sub ho1]
  refine pk_eq (l.2.1 - l.1) (o.2.1 - o.1) (fun he => ?_) (fun he => ?_) rfl rfl
  · have key : ∀ i, i ≤ l.2.1 - l.1 → (∀ j, j < i → s.2.2.1 (l.1 + j) = t.2.2.1 (o.1 + j)) → zX3_isLike_25 G d Qr Qx b b2 (nI i) M := by
      refine ow_loop (l.2.1 - l.1) ?_ ?_
      · intro hall
        refine rX3_isLike_25 ⟨_, _, h1.1, rfl, _, _, h1.1, rfl, ?_⟩
        rw [pk_sub hl1]
        refine ow_y (nI_le (Nat.le_refl _) (by omega)) ?_
        rw [ow_bt (by unfold ow_lk; rw [ow_ex_f.mpr fun i hi => by simp [hall i hi]]; simp [he])] at q
        exact q
      · intro i hi ih hall
        refine rX3_isLike_25 ⟨_, _, h1.1, rfl, _, _, h1.1, rfl, ?_⟩
        rw [pk_sub hl1]
        refine ow_n (nI_ge hi (by omega)) ⟨_, _, h1.1, rfl, _, _, h1.1, rfl, hobj, ?_⟩
        rw [nI_add]
        refine c_wordAt h2 (by omega) (by omega) ⟨_, rfl, _, _, g1.1, rfl, _, _, g1.1, rfl, gobj, ?_⟩
        rw [nI_add]
        refine c_wordAt g2 (by omega) (by omega) ⟨_, rfl, ?_⟩
        by_cases hc : s.2.2.1 (l.1 + i) = t.2.2.1 (o.1 + i)
        · refine ow_y hc ?_
          rw [nI_1]
          refine ih fun j hj => ?_
          rcases Nat.lt_or_ge j i with hji | hji
          · exact hall j hji
          · have : j = i := by omega
            subst this; exact hc
        · refine ow_n hc ?_
          rw [ow_bf (by unfold ow_lk; rw [ow_ex_iff.mpr ⟨i, hi, by simp [hc]⟩]; simp)] at q
          exact q
    exact key 0 (Nat.zero_le _) fun j hj => by omega
  · rw [ow_bf (by simp [ow_lk, he])] at q
    exact q
/-- the past: at p, its row at pl, k lines -/
abbrev ow_P : Type := Nat → ow_S × ow_L
def ow_RP (M : kz_M) (p pl k : Nat) (P : ow_P) : Prop := M.1 p = some (.inl (5, [.ref pl, .int (nI k)])) ∧ k ≤ 780 ∧ ∃ f, M.1 pl = some (.inr (.object "LineOffice$Line", 780, .inr (.inr (.inr (.inr f))))) ∧ ∀ i, i < k → (∃ b, f i = some b ∧ ow_LL M b (P i).1 (P i).2) ∧ ow_Sok (P i).1 ∧ ow_Lok (P i).1 (P i).2
def ow_lw_ (k : Nat) (P : ow_P) (x : Int64) : Nat := ow_cn (fun i => ow_has (P i).1 (P i).2 x) k
def ow_hl (k : Nat) (P : ow_P) (s : ow_S) (l : ow_L) : Bool := ow_ex (fun i => ow_lk (P i).1 (P i).2 s l) k
def ow_wn (k : Nat) (P : ow_P) (s : ow_S) (l : ow_L) (often : Nat) : Bool := !ow_ex (fun i => decide (l.1 ≤ i) && decide (ow_lw_ k P (s.2.2.1 i) < often)) l.2.1
def ow_rs (k : Nat) (P : ow_P) (s : ow_S) (l : ow_L) (stuff worn : Nat) : Nat := if ow_hl k P s l then 1 else if ow_stf s l stuff then 2 else if ow_wn k P s l worn then 3 else 0
theorem c_linesWith {p pl k : Nat} {P : ow_P} {x : Int64} (h : ow_RP M p pl k P) (q : Qr (some (.int (nI (ow_lw_ k P x)))) M) : kz_C G (d + 3) 0 0 mX5_linesWith [.ref p, .long x] M Qr Qx := by
  obtain ⟨h1, hk, f, h2, h3⟩ := h
  refine rX5_linesWith_0 (ow_loop (P := fun i => zX5_linesWith_5 G d Qr Qx p x (nI (ow_lw_ i P x)) (nI i) M) k ?_ ?_ 0 (Nat.zero_le _))
  · exact rX5_linesWith_5 ⟨_, _, h1, rfl, ow_y (nI_le (Nat.le_refl _) (by omega)) q⟩
  · intro i hi ih
    obtain ⟨⟨b, hb, hL⟩, hS, hO⟩ := h3 i hi
    refine rX5_linesWith_5 ⟨_, _, h1, rfl, ow_n (nI_ge hi (by omega)) ⟨_, _, h1, rfl, _, _, h2, ow_n (nI_ge (by omega) (by omega)) ⟨_, _, h1, rfl, _, _, h2, vp_in_nI (by omega) (by omega), ?_⟩⟩⟩
    rw [nI_clamp (by omega), nI_1, nI_1]
    intro o ho
    rw [hb] at ho
    subst ho
    refine ⟨fun h => (by cases h), fun y hy => ?_⟩
    cases hy
    refine ⟨_, _, h1, rfl, _, _, h2, vp_in_nI (by omega) (by omega), fun o2 ho2 => ?_⟩
    rw [hb] at ho2
    subst ho2
    have hobj : ∃ fs, M.1 b = some (.inl (3, fs)) := by obtain ⟨sc, g1, -⟩ := hL; exact ⟨_, g1.1⟩
    refine ⟨b, rfl, hobj, c_has hL hS hO ⟨_, rfl, ow_if0 (fun hz => ?_) (fun hz => ?_)⟩⟩
    · rw [show ow_lw_ (i + 1) P x = ow_lw_ i P x from ow_cn_f hz] at ih
      rw [show nI (ow_lw_ i P x) + 0 = nI (ow_lw_ i P x) from nI_add _ 0]
      exact ih
    · rw [show ow_lw_ (i + 1) P x = ow_lw_ i P x + 1 from ow_cn_t hz] at ih
      exact ih
theorem ow_lw__le (k : Nat) (P : ow_P) (x : Int64) : ow_lw_ k P x ≤ k := ow_cn_le _ _
theorem c_hasLike {p pl k b : Nat} {P : ow_P} {s : ow_S} {l : ow_L} (h : ow_RP M p pl k P) (hL : ow_LL M b s l) (hS : ow_Sok s) (hO : ow_Lok s l) (q : Qr (some (.int (ow_b (ow_hl k P s l)))) M) : kz_C G (d + 2) 0 0 mX5_hasLike [.ref p, .ref b] M Qr Qx := by
  obtain ⟨h1, hk, f, h2, h3⟩ := h
  refine rX5_hasLike_0 ?_
  have key : ∀ i, i ≤ k → (∀ j, j < i → ow_lk (P j).1 (P j).2 s l = false) → zX5_hasLike_2 G d Qr Qx p b (nI i) M := by
    refine ow_loop k ?_ ?_
    · intro hno
      unfold ow_hl at q
      rw [ow_bf (ow_ex_f.mpr hno)] at q
      exact rX5_hasLike_2 ⟨_, _, h1, rfl, ow_y (nI_le (Nat.le_refl _) (by omega)) q⟩
    · intro i hi ih hno
      obtain ⟨⟨b2, hb, hL2⟩, hS2, hO2⟩ := h3 i hi
      refine rX5_hasLike_2 ⟨_, _, h1, rfl, ow_n (nI_ge hi (by omega)) ⟨_, _, h1, rfl, _, _, h2, ow_n (nI_ge (by omega) (by omega)) ⟨_, _, h1, rfl, _, _, h2, vp_in_nI (by omega) (by omega), ?_⟩⟩⟩
      rw [nI_clamp (by omega), nI_1]
      intro o ho
      rw [hb] at ho
      subst ho
      refine ⟨fun h => (by cases h), fun y hy => ?_⟩
      cases hy
      refine ⟨_, _, h1, rfl, _, _, h2, vp_in_nI (by omega) (by omega), fun o2 ho2 => ?_⟩
      rw [hb] at ho2
      subst ho2
      have hobj : ∃ fs, M.1 b2 = some (.inl (3, fs)) := by obtain ⟨sc, g1, -⟩ := hL2; exact ⟨_, g1.1⟩
      refine ⟨b2, rfl, hobj, c_isLike hL2 hL hS2 hS hO2 hO ⟨_, rfl, ow_if0 (fun hz => ?_) (fun hz => ?_)⟩⟩
      · refine ih fun j hj => ?_
        rcases Nat.lt_or_ge j i with hji | hji
        · exact hno j hji
        · have : j = i := by omega
          subst this; exact hz
      · unfold ow_hl at q
        rw [ow_bt (ow_ex_iff.mpr ⟨i, hi, hz⟩)] at q
        exact q
  exact key 0 (Nat.zero_le _) fun j hj => by omega
theorem c_isWorn {p pl k b often : Nat} {P : ow_P} {s : ow_S} {l : ow_L} (h : ow_RP M p pl k P) (hL : ow_LL M b s l) (hS : ow_Sok s) (hO : ow_Lok s l) (hof : often < 2 ^ 20) (q : Qr (some (.int (ow_b (ow_wn k P s l often)))) M) : kz_C G (d + 4) 0 0 mX5_isWorn [.ref p, .ref b, .int (nI often)] M Qr Qx := by
  obtain ⟨sc, h1, h2⟩ := hL
  have hobj : ∃ fs, M.1 sc = some (.inl (6, fs)) := by obtain ⟨aw, as, h1, -⟩ := h2; exact ⟨_, h1⟩
  have pobj : ∃ fs, M.1 p = some (.inl (5, fs)) := ⟨_, h.1⟩
  have hn := hS.2.2.1
  have h21 := hO.2.1
  have hk := h.2.1
  refine rX5_isWorn_0 ⟨_, _, h1.1, rfl, ?_⟩
  have key : ∀ i, i ≤ l.2.1 → l.1 ≤ i → (∀ j, j < i → l.1 ≤ j → often ≤ ow_lw_ k P (s.2.2.1 j)) → zX5_isWorn_5 G d Qr Qx p b (nI often) (nI i) M := by
    refine ow_loop l.2.1 ?_ ?_
    · intro _ hno
      refine rX5_isWorn_5 ⟨_, _, h1.1, rfl, ow_y (nI_le (Nat.le_refl _) (by omega)) ?_⟩
      have e9 : ow_wn k P s l often = true := by
        unfold ow_wn
        rw [ow_ex_f.mpr]
        · rfl
        · intro i hi
          by_cases hli : l.1 ≤ i
          · have := hno i hi hli
            simp; omega
          · simp; omega
      rw [ow_bt e9] at q
      exact q
    · intro i hi ih hli hno
      have hle := ow_lw__le k P (s.2.2.1 i)
      refine rX5_isWorn_5 ⟨_, _, h1.1, rfl, ow_n (nI_ge hi (by omega)) ⟨_, _, h1.1, rfl, hobj, c_wordAt h2 (by omega) (by omega) ⟨_, rfl, pobj, c_linesWith h ⟨_, rfl, pk_le often (ow_lw_ k P (s.2.2.1 i)) (fun hz => ?_) (fun hz => ?_) rfl rfl⟩⟩⟩⟩
      · rw [nI_1]
        refine ih (by omega) fun j hj hlj => ?_
        rcases Nat.lt_or_ge j i with hji | hji
        · exact hno j hji hlj
        · have : j = i := by omega
          subst this; exact hz
      · rw [ow_bf (by unfold ow_wn; rw [ow_ex_iff.mpr ⟨i, hi, by simp [hli, hz]⟩]; rfl)] at q
        exact q
  exact key l.1 hO.1 (Nat.le_refl _) fun j hj hlj => by omega
theorem c_reasonAgainst {p pl k b stuff worn : Nat} {P : ow_P} {s : ow_S} {l : ow_L} (h : ow_RP M p pl k P) (hL : ow_LL M b s l) (hS : ow_Sok s) (hO : ow_Lok s l) (h1 : stuff < 2 ^ 20) (h2 : worn < 2 ^ 20) (q : Qr (some (.int (nI (ow_rs k P s l stuff worn)))) M) : kz_C G (d + 5) 0 0 mX5_reasonAgainst [.ref p, .ref b, .int (nI stuff), .int (nI worn)] M Qr Qx := by
  have pobj : ∃ fs, M.1 p = some (.inl (5, fs)) := ⟨_, h.1⟩
  have hobj : ∃ fs, M.1 b = some (.inl (3, fs)) := by obtain ⟨sc, g1, -⟩ := hL; exact ⟨_, g1.1⟩
  refine rX5_reasonAgainst_0 ⟨pobj, c_hasLike h hL hS hO ⟨_, rfl, ow_if0 (fun e1 => ⟨hobj, c_isStuffed hL hS hO h1 ⟨_, rfl, ow_if0 (fun e2 => ⟨pobj, c_isWorn h hL hS hO h2 ⟨_, rfl, ow_if0 (fun e3 => ?_) (fun e3 => ?_)⟩⟩) (fun e2 => ?_)⟩⟩) (fun e1 => ?_)⟩⟩
  · rw [show ow_rs k P s l stuff worn = 0 by simp [ow_rs, e1, e2, e3]] at q; exact q
  · rw [show ow_rs k P s l stuff worn = 3 by simp [ow_rs, e1, e2, e3]] at q; exact q
  · rw [show ow_rs k P s l stuff worn = 2 by simp [ow_rs, e1, e2]] at q; exact q
  · rw [show ow_rs k P s l stuff worn = 1 by simp [ow_rs, e1]] at q; exact q
end OWP
