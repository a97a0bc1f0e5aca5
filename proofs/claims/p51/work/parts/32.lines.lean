/-! Part 32: how a script is broken into lines, and what they pay -/
/-- a word as it is kept -/
def ow_ok (x : Int64) : Prop := ∃ c, 0 < c ∧ c < 2 ^ 60 ∧ x = lN c
/-- its letters -/
def ow_lw (x : Int64) : Nat := ow_ln x.toBitVec.toNat
theorem ow_tn {c : Nat} (h : c < 2 ^ 60) : (lN c).toBitVec.toNat = c := by
  show (BitVec.ofNat 64 c).toNat = c
  rw [BitVec.toNat_ofNat]
  omega
theorem ow_lw_le (x : Int64) : ow_lw x ≤ 12 := ow_ln_le _
theorem ow_lw_pos {x : Int64} (h : ow_ok x) : 1 ≤ ow_lw x := by
  obtain ⟨c, h0, h1, rfl⟩ := h
  unfold ow_lw
  rw [ow_tn h1]
  show 1 ≤ ow_lnF 12 c
  rw [ow_lnF, if_neg (by omega)]
  omega
/-- a script as it is read -/
def ow_Sok (s : ow_S) : Prop := s.1 ≤ 2 ∧ 1 ≤ s.2.1 ∧ s.2.1 ≤ 60 ∧ ∀ i, i < s.2.1 → ow_ok (s.2.2.1 i)
/-- letters from a on, below b -/
def ow_lt (w : Nat → Int64) (a : Nat) : Nat → Nat
  | 0 => 0
  | n + 1 => ow_lt w a n + (if a ≤ n then ow_lw (w n) else 0)
theorem ow_lt_le (w : Nat → Int64) (a : Nat) : ∀ n, ow_lt w a n ≤ 12 * n
  | 0 => Nat.le_refl _
  | n + 1 => by
    have := ow_lt_le w a n
    have h2 := ow_lw_le (w n)
    unfold ow_lt
    split <;> omega
theorem ow_lt_0 (w : Nat → Int64) (a : Nat) : ∀ n, n ≤ a → ow_lt w a n = 0
  | 0, _ => rfl
  | n + 1, h => by
    unfold ow_lt
    rw [ow_lt_0 w a n (by omega), if_neg (by omega)]
/-- the width of the words from a on, below b -/
def ow_wd (w : Nat → Int64) (a b : Nat) : Nat := (b - a - 1) + ow_lt w a b
def ow_pf (width me : Nat) (rate : Int32) : Int32 := if 2 * width < me then rate / 2 else rate
/-- does the line go on with word k? -/
def ow_go (s : ow_S) (me k width : Nat) : Bool := decide (k < s.2.1) && (decide (s.2.2.2 k = s.2.2.2 (k - 1)) && decide (width + 1 + ow_lw (s.2.2.1 k) ≤ me))
def ow_leF (s : ow_S) (me : Nat) : Nat → Nat → Nat → Nat
  | 0, k, _ => k
  | f + 1, k, width => if ow_go s me k width then ow_leF s me f (k + 1) (width + 1 + ow_lw (s.2.2.1 k)) else k
/-- where the line ends that begins with word a -/
def ow_le (s : ow_S) (me a : Nat) : Nat := if s.1 = 2 then a + 1 else ow_leF s me s.2.1 (a + 1) (ow_lw (s.2.2.1 a))
theorem ow_leF_ge (s : ow_S) (me : Nat) : ∀ f k width, k ≤ ow_leF s me f k width
  | 0, _, _ => Nat.le_refl _
  | f + 1, k, width => by
    unfold ow_leF
    split
    · have := ow_leF_ge s me f (k + 1) (width + 1 + ow_lw (s.2.2.1 k)); omega
    · exact Nat.le_refl _
theorem ow_leF_le (s : ow_S) (me : Nat) : ∀ f k width, k ≤ s.2.1 → ow_leF s me f k width ≤ s.2.1
  | 0, _, _, h => h
  | f + 1, k, width, h => by
    unfold ow_leF
    split
    · rename_i hg
      refine ow_leF_le s me f (k + 1) _ ?_
      simp [ow_go] at hg
      omega
    · exact h
theorem ow_le_gt (s : ow_S) (me a : Nat) : a < ow_le s me a := by
  unfold ow_le
  split
  · omega
  · have := ow_leF_ge s me s.2.1 (a + 1) (ow_lw (s.2.2.1 a)); omega
theorem ow_le_le {s : ow_S} {me a : Nat} (h : a < s.2.1) : ow_le s me a ≤ s.2.1 := by
  unfold ow_le
  split
  · omega
  · exact ow_leF_le s me _ _ _ h
section OWL
variable {G : kz_G} {d : Nat} {Qr : Option Value → kz_M → Prop} {Qx : String → kz_M → Prop} {M : kz_M}
theorem c_lengthW {x : Int64} (h : ow_ok x) (q : Qr (some (.int (nI (ow_lw x)))) M) : kz_C G d 0 0 mX11_lengthOf [.long x] M Qr Qx := by
  obtain ⟨c, h0, h1, rfl⟩ := h
  unfold ow_lw at q
  rw [ow_tn h1] at q
  exact c_lengthOf h1 q
theorem c_payFor {width me : Nat} {rate : Int32} (h1 : width < 2 ^ 30) (h2 : me < 2 ^ 31) (q : Qr (some (.int (ow_pf width me rate))) M) : kz_C G d 0 0 mX11_payFor [.int (nI width), .int (nI me), .int rate] M Qr Qx := by
  refine rX11_payFor_0 (pk_le me (2 * width) (fun h => ?_) (fun h => ?_) rfl (pk_mul 2 width))
  · rw [ow_pf, if_neg (by omega)] at q; exact q
  · rw [ow_pf, if_pos (by omega)] at q; exact q
theorem c_widthBetween {a x y : Nat} {s : ow_S} (h : ow_RS M a s) (hs : ow_Sok s) (hx : x ≤ y) (hy : y ≤ s.2.1) (q : Qr (some (.int (nI (ow_wd s.2.2.1 x y)))) M) : kz_C G (d + 1) 0 0 mX6_widthBetween [.ref a, .int (nI x), .int (nI y)] M Qr Qx := by
  obtain ⟨hk, hn1, hn, hw⟩ := hs
  have hobj : ∃ fs, M.1 a = some (.inl (6, fs)) := by obtain ⟨aw, as, h1, -⟩ := h; exact ⟨_, h1⟩
  refine rX6_widthBetween_0 ?_
  have e : (if (0 : Int32) < nI y - nI x - 1 then nI y - nI x - 1 else 0) = nI (y - x - 1) := by
    rw [pk_sub hx]
    cases hz : y - x with
    | zero => decide
    | succ j =>
      rw [show nI (j + 1) - 1 = nI j from nI_pred j, show j + 1 - 1 = j from rfl]
      exact ow_max j (by omega)
  rw [e]
  have key : ∀ i, i ≤ y → x ≤ i → zX6_widthBetween_13 G d Qr Qx a (nI y) (nI (y - x - 1 + ow_lt s.2.2.1 x i)) (nI i) M := by
    refine ow_loop y ?_ ?_
    · intro _
      exact rX6_widthBetween_13 (ow_y (nI_le (Nat.le_refl _) (by omega)) q)
    · intro i hi ih hxi
      have ih := ih (by omega)
      refine rX6_widthBetween_13 (ow_n (nI_ge hi (by omega)) ⟨hobj, c_wordAt h (by omega) (by omega) ⟨_, rfl, c_lengthW (hw i (by omega)) ⟨_, rfl, ?_⟩⟩⟩)
      rw [nI_1, nI_add]
      rw [ow_lt, if_pos hxi, ← Nat.add_assoc] at ih
      exact ih
  have := key x hx (Nat.le_refl _)
  rw [ow_lt_0 _ _ _ (Nat.le_refl _)] at this
  exact this
theorem c_lineEnd {a x me : Nat} {s : ow_S} (h : ow_RS M a s) (hs : ow_Sok s) (hx : x < s.2.1) (hme : me < 2 ^ 20) (q : Qr (some (.int (nI (ow_le s me x)))) M) : kz_C G (d + 2) 0 0 mX6_lineEnd [.ref a, .int (nI x), .int (nI me)] M Qr Qx := by
  obtain ⟨hk, hn1, hn, hw⟩ := hs
  obtain ⟨aw, as, h1, h2, h3, h4⟩ := h
  have h : ow_RS M a s := ⟨aw, as, h1, h2, h3, h4⟩
  refine rX6_lineEnd_0 ⟨_, _, h1, rfl, ?_⟩
  by_cases hk2 : s.1 = 2
  · rw [ow_le, if_pos hk2] at q
    refine ow_nn (by rw [hk2]; rfl) ?_
    rw [nI_1]; exact q
  · rw [ow_le, if_neg hk2] at q
    refine ow_yn (fun e => hk2 ((nI_eq (a := s.1) (b := 2) (by omega) (by omega)).mp e)) ⟨⟨_, h1⟩, c_wordAt h hx (by omega) ⟨_, rfl, c_lengthW (hw x hx) ⟨_, rfl, ?_⟩⟩⟩
    rw [nI_1]
    have key : ∀ f k width, s.2.1 ≤ k + f → k ≤ s.2.1 → 0 < k → width ≤ 13 * k → Qr (some (.int (nI (ow_leF s me f k width)))) M → zX6_lineEnd_24 G d Qr Qx a (nI me) (nI k) (nI width) M := by
      intro f
      induction f with
      | zero =>
        intro k width hf hkn _ _ q
        exact rX6_lineEnd_24 ⟨_, _, h1, rfl, _, _, h2, ow_y (nI_le (by omega) (by omega)) q⟩
      | succ f ih =>
        intro k width hf hkn hk0 hwd q
        refine rX6_lineEnd_24 ⟨_, _, h1, rfl, _, _, h2, pk_le s.2.1 k (fun hz => ?_) (fun hz => ?_) rfl rfl⟩
        · rw [ow_leF, if_neg (by simp [ow_go]; omega)] at q
          exact q
        · refine ⟨⟨_, h1⟩, c_isParted h hk0 hz (by omega) ⟨_, rfl, ?_⟩⟩
          by_cases hp : s.2.2.2 k = s.2.2.2 (k - 1)
          · rw [if_pos hp]
            refine ow_nn rfl ⟨⟨_, h1⟩, c_wordAt h hz (by omega) ⟨_, rfl, c_lengthW (hw k hz) ⟨_, rfl, ?_⟩⟩⟩
            have hl := ow_lw_le (s.2.2.1 k)
            rw [nI_1, nI_add]
            refine pk_lt me (width + 1 + ow_lw (s.2.2.1 k)) (fun hm => ?_) (fun hm => ?_) rfl rfl
            · rw [ow_leF, if_neg (by simp [ow_go]; omega)] at q
              exact q
            · refine ⟨⟨_, h1⟩, c_wordAt h hz (by omega) ⟨_, rfl, c_lengthW (hw k hz) ⟨_, rfl, ?_⟩⟩⟩
              rw [nI_1, show (1 : Int32) + nI (ow_lw (s.2.2.1 k)) = nI (1 + ow_lw (s.2.2.1 k)) from nI_add 1 _, nI_add, ← Nat.add_assoc]
              refine ih (k + 1) _ (by omega) (by omega) (by omega) (by omega) ?_
              rw [ow_leF, if_pos (by simp [ow_go, hp]; omega)] at q
              exact q
          · rw [if_neg hp]
            rw [ow_leF, if_neg (by simp [ow_go, hp])] at q
            exact ow_yn (by decide) q
    have hl := ow_lw_le (s.2.2.1 x)
    exact key s.2.1 (x + 1) _ (by omega) (by omega) (by omega) (by omega) q
/-- how many lines there are from word a on -/
def ow_nlF (s : ow_S) (me : Nat) : Nat → Nat → Nat
  | 0, _ => 0
  | f + 1, a => if a < s.2.1 then ow_nlF s me f (ow_le s me a) + 1 else 0
def ow_nl (s : ow_S) (me : Nat) : Nat := ow_nlF s me s.2.1 0
/-- what they pay -/
def ow_pbF (s : ow_S) (me : Nat) (rate : Int32) : Nat → Nat → Int32 → Int32
  | 0, _, p => p
  | f + 1, a, p => if a < s.2.1 then ow_pbF s me rate f (ow_le s me a) (p + ow_pf (ow_wd s.2.2.1 a (ow_le s me a)) me rate) else p
def ow_pb (s : ow_S) (me : Nat) (rate : Int32) : Int32 := ow_pbF s me rate s.2.1 0 0
theorem ow_maxle {x y : Nat} (h : x < y) (hy : y < 2 ^ 31) : (if nI (x + 1) < nI y then nI y else nI (x + 1)) = nI y := by
  by_cases hc : nI (x + 1) < nI y
  · rw [if_pos hc]
  · rw [if_neg hc]
    have : ¬ x + 1 < y := fun z => hc (nI_lt z hy)
    rw [show x + 1 = y by omega]
theorem c_linesBy {a me : Nat} {s : ow_S} (h : ow_RS M a s) (hs : ow_Sok s) (hme : me < 2 ^ 20) (q : Qr (some (.int (nI (ow_nl s me)))) M) : kz_C G (d + 3) 0 0 mX6_linesBy [.ref a, .int (nI me)] M Qr Qx := by
  have hs2 := hs
  obtain ⟨hk, hn1, hn, hw⟩ := hs2
  obtain ⟨aw, as, h1, h2, h3, h4⟩ := h
  have h : ow_RS M a s := ⟨aw, as, h1, h2, h3, h4⟩
  refine rX6_linesBy_0 ?_
  have key : ∀ f x n, s.2.1 ≤ x + f → x ≤ s.2.1 → Qr (some (.int (nI (n + ow_nlF s me f x)))) M → zX6_linesBy_4 G d Qr Qx a (nI me) (nI n) (nI x) M := by
    intro f
    induction f with
    | zero =>
      intro x n hf hx q
      exact rX6_linesBy_4 ⟨_, _, h1, rfl, _, _, h2, ow_y (nI_le (by omega) (by omega)) q⟩
    | succ f ih =>
      intro x n hf hx q
      refine rX6_linesBy_4 ⟨_, _, h1, rfl, _, _, h2, pk_le s.2.1 x (fun hz => ?_) (fun hz => ?_) rfl rfl⟩
      · rw [ow_nlF, if_neg (by omega)] at q
        exact q
      · refine ⟨⟨_, h1⟩, c_lineEnd h hs hz hme ⟨_, rfl, ?_⟩⟩
        have hg := ow_le_gt s me x
        have hl := ow_le_le (me := me) hz
        rw [nI_1, nI_1, ow_maxle hg (by omega)]
        refine ih _ _ (by omega) hl ?_
        rw [ow_nlF, if_pos hz, ← Nat.add_assoc, Nat.add_right_comm] at q
        exact q
  refine key s.2.1 0 0 (by omega) (by omega) ?_
  rw [Nat.zero_add]; exact q
end OWL
