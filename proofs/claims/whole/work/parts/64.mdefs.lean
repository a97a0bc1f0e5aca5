/-! Part 64: the reference's rows hold the same office; what reads them -/
/-- the reference's own fields: addresses of its rows, and its numbers -/
abbrev mo_fs (s : Nat → Int32) (rb : Int64) : List Value := [.ref 100, .ref 101, .ref 102, .ref 103, .ref 104, .ref 105, .ref 106, .int (s 7), .int (s 8), .int (s 9), .ref 107, .long rb, .int (s 12), .int (s 13), .ref 108, .ref 109, .ref 110, .ref 111, .ref 112, .int (s 19), .int (s 20), .int (s 21), .int (s 22), .int (s 23), .int (s 24), .int (s 25), .int (s 26), .int (s 27), .int (s 28), .int (s 29), .ref 113, .int (s 31)]
def mo_D (M : kz_M) (s : Nat → Int32) (rb : Int64) (f : Nat → Int32) (g : Nat → Int64) : Prop := M.1 99 = some (.inl (11, mo_fs s rb)) ∧ M.1 100 = some (.inr (.int, 3813, .inl f)) ∧ M.1 104 = some (.inr (.long, 732, .inr (.inl g)))
/-- a name by 27, from its number by 32 -/
def mo_nmF : Nat → Nat → Nat
  | 0, _ => 0
  | k + 1, c => if c = 0 then 0 else 27 * mo_nmF k (c / 32) + c % 32
def mo_nm (c : Nat) : Nat := mo_nmF 12 c
/-- does a slash stand ahead of a word, behind the one before? -/
def mo_bk (br : Int64) (k : Nat) : Bool := decide ((br >>> ((nI k).toInt64 &&& 63)) &&& 1 = 1)
def mo_br (s : ow_S) (br : Int64) : Prop := ∀ k, 0 < k → k < s.2.1 → (mo_bk br k = true ↔ s.2.2.2 k ≠ s.2.2.2 (k - 1))
/-- a work, from its place on -/
def mo_w (w : ow_W) (f : Nat → Int32) (g : Nat → Int64) (a c : Nat) (br : Int64) : Prop := f (a + 0) = nI w.1 ∧ f (a + 1) = nI w.2.2.1.1 ∧ f (a + 2) = nI w.2.1 ∧ f (a + 3) = nI w.2.2.1.2.1 ∧ f (a + 4) = nI w.2.2.2.1 ∧ (∀ l, l < w.2.2.2.1 → f (a + 5 + 5 * l + 0) = nI (w.2.2.2.2 l).1 ∧ f (a + 5 + 5 * l + 1) = nI ((w.2.2.2.2 l).2.1 - (w.2.2.2.2 l).1) ∧ f (a + 5 + 5 * l + 2) = nI (w.2.2.2.2 l).2.2.2.2.2 ∧ f (a + 5 + 5 * l + 3) = nI (w.2.2.2.2 l).2.2.2.2.1 ∧ f (a + 5 + 5 * l + 4) = (w.2.2.2.2 l).2.2.2.1) ∧ (∀ k, k < w.2.2.1.2.1 → g (c + k) = w.2.2.1.2.2.1 k) ∧ mo_br w.2.2.1 br
/-- the office lies in the rows, from a and c on -/
def mo_W (O : ow_O) (f : Nat → Int32) (g : Nat → Int64) (a c : Nat) : Prop := (f (a + 0) = nI (o_nw O) ∧ f (a + 1) = nI (o_wk O) ∧ f (a + 2) = nI (o_dy O) ∧ f (a + 3) = nI (o_mo O) ∧ f (a + 4) = nI (o_ne O)) ∧ (∀ i, i < 10 → f (a + (5 + i)) = nI (o_ru O i)) ∧ (∀ i, i < o_nw O → f (a + (15 + i)) = nI (mo_nm (o_nm O i)) ∧ f (a + (21 + i)) = o_ba O i ∧ f (a + (27 + i)) = o_pd O i) ∧ (∀ v, v < o_wk O → mo_w (o_ws O v) f g (a + (33 + 305 * v)) (c + 60 * v) (g (c + (720 + v)))) ∧ ∀ i, i < 4 * o_ne O → f (a + (3693 + i)) = o_le O i
/-- what holds of every office that calls lead to -/
def ow_Lin (s : ow_S) (l : ow_L) : Prop := ow_Lwd s l ∧ (l.2.2.2.2.2 = 0 ↔ l.2.2.2.2.1 = 0) ∧ ∃ p, p ≤ 99 ∧ l.2.2.2.1 = nI p
def ow_Ok2 (O : ow_O) : Prop := ow_Ok1 O ∧ ow_Ow O ∧ 0 < o_nw O ∧ ∀ i, i < o_wk O → 1 ≤ (o_ws O i).2.2.2.1 ∧ ∀ l, l < (o_ws O i).2.2.2.1 → ow_Lin (o_ws O i).2.2.1 ((o_ws O i).2.2.2.2 l)
theorem mo_ix (v k : Nat) : ((33 : Int32) + 305 * nI v) + nI k = nI (33 + 305 * v + k) := by
  rw [show (305 : Int32) * nI v = nI (305 * v) from pk_mul 305 v, show (33 : Int32) + nI (305 * v) = nI (33 + 305 * v) from nI_add 33 _, nI_add]
theorem mo_ixl (v l k : Nat) : (((33 : Int32) + 305 * nI v) + 5 + 5 * nI l) + nI k = nI (33 + 305 * v + 5 + 5 * l + k) := by
  rw [show ((33 : Int32) + 305 * nI v) + 5 = nI (33 + 305 * v + 5) from mo_ix v 5, show (5 : Int32) * nI l = nI (5 * l) from pk_mul 5 l, nI_add, nI_add]
theorem mo_ixw (v k : Nat) : (60 : Int32) * nI v + nI k = nI (60 * v + k) := by
  rw [show (60 : Int32) * nI v = nI (60 * v) from pk_mul 60 v, nI_add]
theorem mo_cl (n : Nat) (h : n < 2 ^ 31) : (OfNat.ofNat n : Int32).toNatClampNeg = n := nI_clamp h
theorem ow_lnF_bd : ∀ k c, c < 2 ^ (5 * k) → c < 2 ^ (5 * ow_lnF k c)
  | 0, c, h => h
  | k + 1, c, h => by
    unfold ow_lnF
    split
    · rename_i h0
      rw [h0]; decide
    · have h2 : c / 32 < 2 ^ (5 * k) := by
        rw [Nat.div_lt_iff_lt_mul (by omega)]
        rw [show 5 * (k + 1) = 5 * k + 5 by omega, Nat.pow_add] at h
        exact h
      have ih := ow_lnF_bd k (c / 32) h2
      rw [show 5 * (ow_lnF k (c / 32) + 1) = 5 * ow_lnF k (c / 32) + 5 by omega, Nat.pow_add]
      omega
section MOA
variable {G : kz_G} {d : Nat} {Qr : Option Value → kz_M → Prop} {Qx : String → kz_M → Prop} {M : kz_M} {O : ow_O} {s : Nat → Int32} {rb : Int64} {f : Nat → Int32} {g : Nat → Int64}
theorem mo_D.ob (D : mo_D M s rb f g) : ∃ fs, M.1 99 = some (.inl (11, fs)) := ⟨_, D.1⟩
theorem m_in {x y z : Int32} {v : Bool} (e : v = (!decide (x < y) && !decide (z < x))) (q : Qr (some (.int (ow_b v))) M) : kz_C G d 0 0 mX12_inRange [.int x, .int y, .int z] M Qr Qx := by
  subst e
  refine rX12_inRange_0 ⟨fun h1 => ?_, fun h1 => ⟨fun h2 => ?_, fun h2 => ?_⟩⟩
  · rw [decide_eq_true h1] at q; exact q
  · rw [decide_eq_false h1, decide_eq_true h2] at q; exact q
  · rw [decide_eq_false h1, decide_eq_false h2] at q; exact q
theorem m_of {v k : Nat} {x : Int32} (D : mo_D M s rb f g) (hv : v < 12) (hk : k < 305) (hx : f (33 + 305 * v + k) = x) (q : Qr (some (.int x)) M) : kz_C G d 0 0 mX12_of [.ref 99, .int (nI v), .int (nI k)] M Qr Qx := by
  refine rX12_of_0 ⟨_, _, D.1, rfl, _, _, D.2.1, ?_⟩
  rw [mo_ix, nI_clamp (by omega), hx]
  exact ⟨vp_in_nI (by omega) (by omega), q⟩
theorem m_ofL {v l k : Nat} {x : Int32} (D : mo_D M s rb f g) (hv : v < 12) (hl : l < 60) (hk : k < 5) (hx : f (33 + 305 * v + 5 + 5 * l + k) = x) (q : Qr (some (.int x)) M) : kz_C G (d + 1) 0 0 mX12_ofLine [.ref 99, .int (nI v), .int (nI l), .int (nI k)] M Qr Qx := by
  refine rX12_ofLine_0 ⟨_, _, D.1, rfl, D.ob, rX12_lineAt_0 ⟨_, rfl, _, _, D.2.1, ?_⟩⟩
  rw [mo_ixl, nI_clamp (by omega), hx]
  exact ⟨vp_in_nI (by omega) (by omega), q⟩
theorem m_word {v k : Nat} {x : Int64} (D : mo_D M s rb f g) (hv : v < 12) (hk : k < 60) (hx : g (60 * v + k) = x) (q : Qr (some (.long x)) M) : kz_C G d 0 0 mX12_word [.ref 99, .int (nI v), .int (nI k)] M Qr Qx := by
  refine rX12_word_0 ⟨_, _, D.1, rfl, _, _, D.2.2, ?_⟩
  rw [mo_ixw, nI_clamp (by omega), hx]
  exact ⟨vp_in_nI (by omega) (by omega), q⟩
theorem m_its {k : Nat} {x : Int32} (D : mo_D M s rb f g) (hk : k < 10) (hx : f (5 + k) = x) (q : Qr (some (.int x)) M) : kz_C G d 0 0 mX12_its [.ref 99, .int (nI k)] M Qr Qx := by
  refine rX12_its_0 ⟨_, _, D.1, rfl, _, _, D.2.1, ?_⟩
  rw [show (5 : Int32) + nI k = nI (5 + k) from nI_add 5 k, nI_clamp (by omega), hx]
  exact ⟨vp_in_nI (by omega) (by omega), q⟩
theorem m_lettersOf {c : Nat} (hc : c < 2 ^ 60) (q : Qr (some (.int (nI (ow_ln c)))) M) : kz_C G d 0 0 mX12_lettersOf [.long (lN c)] M Qr Qx := by
  have key : ∀ k c n, c < 2 ^ (5 * k) → k ≤ 12 → n + k ≤ 12 → Qr (some (.int (nI (n + ow_lnF k c)))) M → zX12_lettersOf_4 G d Qr Qx (nI n) (lN c) M := by
    intro k
    induction k with
    | zero =>
      intro c n hc _ _ q
      have : c = 0 := by
        have h1 : 2 ^ (5 * 0) = 1 := by decide
        omega
      subst this
      exact rX12_lettersOf_4 (ow_y (by decide) q)
    | succ k ih =>
      intro c n hc hk hn q
      have p : 2 ^ (5 * (k + 1)) ≤ 2 ^ 60 := Nat.pow_le_pow_right (by omega) (by omega)
      by_cases h0 : c = 0
      · subst h0
        rw [ow_lnF, if_pos rfl] at q
        exact rX12_lettersOf_4 (ow_y (by decide) q)
      · rw [ow_lnF, if_neg h0] at q
        refine rX12_lettersOf_4 (ow_n (fun e => h0 ?_) ?_)
        · have := (pk_lLE (a := c) (b := 0) (by omega) (by omega)).mp e
          omega
        · rw [nI_1, ow_shr (d := 5) (by decide) (by omega)]
          have h2 : c / 32 < 2 ^ (5 * k) := by
            rw [Nat.div_lt_iff_lt_mul (by omega)]
            rw [show 5 * (k + 1) = 5 * k + 5 by omega, Nat.pow_add] at hc
            exact hc
          refine ih (c / 2 ^ 5) (n + 1) h2 (by omega) (by omega) ?_
          rw [show n + 1 + ow_lnF k (c / 2 ^ 5) = n + (ow_lnF k (c / 32) + 1) by
            show n + 1 + ow_lnF k (c / 32) = _
            omega]
          exact q
  refine rX12_lettersOf_0 (key 12 c 0 hc (Nat.le_refl _) (Nat.le_refl _) ?_)
  rw [Nat.zero_add]
  exact q
theorem m_lettersW {x : Int64} (h : ow_ok x) (q : Qr (some (.int (nI (ow_lw x)))) M) : kz_C G d 0 0 mX12_lettersOf [.long x] M Qr Qx := by
  obtain ⟨c, h0, h1, rfl⟩ := h
  unfold ow_lw at q
  rw [ow_tn h1] at q
  exact m_lettersOf h1 q
theorem mo_W.ww {v : Nat} (W : mo_W O f g 0 0) (hv : v < o_wk O) : mo_w (o_ws O v) f g (33 + 305 * v) (60 * v) (g (720 + v)) := by
  have := W.2.2.2.1 v hv
  rw [Nat.zero_add, Nat.zero_add, Nat.zero_add] at this
  exact this
theorem mo_W.wk (W : mo_W O f g 0 0) : f 1 = nI (o_wk O) := W.1.2.1
theorem mo_W.nw (W : mo_W O f g 0 0) : f 0 = nI (o_nw O) := W.1.1
theorem mo_W.ln {v l : Nat} (W : mo_W O f g 0 0) (hv : v < o_wk O) (hl : l < (o_ws O v).2.2.2.1) : f (33 + 305 * v + 5 + 5 * l + 0) = nI ((o_ws O v).2.2.2.2 l).1 ∧ f (33 + 305 * v + 5 + 5 * l + 1) = nI (((o_ws O v).2.2.2.2 l).2.1 - ((o_ws O v).2.2.2.2 l).1) ∧ f (33 + 305 * v + 5 + 5 * l + 2) = nI ((o_ws O v).2.2.2.2 l).2.2.2.2.2 ∧ f (33 + 305 * v + 5 + 5 * l + 3) = nI ((o_ws O v).2.2.2.2 l).2.2.2.2.1 ∧ f (33 + 305 * v + 5 + 5 * l + 4) = ((o_ws O v).2.2.2.2 l).2.2.2.1 := (W.ww hv).2.2.2.2.2.1 l hl
theorem mo_W.wd {v k : Nat} (W : mo_W O f g 0 0) (hv : v < o_wk O) (hk : k < (o_ws O v).2.2.1.2.1) : g (60 * v + k) = (o_ws O v).2.2.1.2.2.1 k := (W.ww hv).2.2.2.2.2.2.1 k hk
theorem m_isBy {v x : Nat} (D : mo_D M s rb f g) (W : mo_W O f g 0 0) (hO : ow_Ok1 O) (hv : v < o_wk O) (hx : x < 2 ^ 31) (q : Qr (some (.int (ow_b (decide ((o_ws O v).1 = x))))) M) : kz_C G (d + 1) 0 0 mX12_isBy [.ref 99, .int (nI v), .int (nI x)] M Qr Qx := by
  have hwk := hO.1.2.2.2.1
  have hw := (hO.2.2.2 v hv).2.2.1
  refine rX12_isBy_0 ⟨D.ob, m_of (k := 0) D (by omega) (by omega) (W.ww hv).1 ⟨_, rfl, ?_⟩⟩
  by_cases hc : (o_ws O v).1 = x
  · rw [decide_eq_true hc] at q
    exact ow_nn (by rw [hc]) q
  · rw [decide_eq_false hc] at q
    exact ow_yn (fun e => hc ((nI_eq (by omega) hx).mp e)) q
theorem m_counts {v l : Nat} (D : mo_D M s rb f g) (W : mo_W O f g 0 0) (hO : ow_Ok1 O) (hv : v < o_wk O) (hl : l < (o_ws O v).2.2.2.1) (q : Qr (some (.int (ow_b (ow_cts ((o_ws O v).2.2.2.2 l))))) M) : kz_C G (d + 2) 0 0 mX12_countsNow [.ref 99, .int (nI v), .int (nI l)] M Qr Qx := by
  have hwk := hO.1.2.2.2.1
  have hW := hO.2.2.2 v hv
  have hm := hW.2.1
  have hL := (hW.2.2.2.2 l hl).2.2.2
  refine rX12_countsNow_0 ⟨D.ob, m_ofL (k := 2) D (by omega) (by omega) (by omega) (W.ln hv hl).2.2.1 ⟨_, rfl, pk_eq ((o_ws O v).2.2.2.2 l).2.2.2.2.2 0 (fun h0 => ?_) (fun h0 => ?_) rfl rfl⟩⟩
  · rw [ow_bt (by simp [ow_cts, h0])] at q; exact q
  · by_cases h2 : ((o_ws O v).2.2.2.2 l).2.2.2.2.2 = 2
    · rw [ow_bt (by simp [ow_cts, h2])] at q
      exact ow_nn (by rw [h2]; rfl) q
    · rw [ow_bf (by simp [ow_cts, h0, h2])] at q
      exact ow_yn (fun e => h2 ((nI_eq (b := 2) (by omega) (by omega)).mp e)) q
theorem m_wordIn {v l k : Nat} (D : mo_D M s rb f g) (W : mo_W O f g 0 0) (hO : ow_Ok1 O) (hv : v < o_wk O) (hl : l < (o_ws O v).2.2.2.1) (hk : ((o_ws O v).2.2.2.2 l).1 + k < ((o_ws O v).2.2.2.2 l).2.1) (q : Qr (some (.long ((o_ws O v).2.2.1.2.2.1 (((o_ws O v).2.2.2.2 l).1 + k)))) M) : kz_C G (d + 2) 0 0 mX12_wordIn [.ref 99, .int (nI v), .int (nI l), .int (nI k)] M Qr Qx := by
  have hwk := hO.1.2.2.2.1
  have hW := hO.2.2.2 v hv
  have hm := hW.2.1
  have hn := hW.1.2.2.1
  have hL := hW.2.2.2.2 l hl
  have hL2 := hL.2.1
  refine rX12_wordIn_0 ⟨D.ob, m_ofL (k := 0) D (by omega) (by omega) (by omega) (W.ln hv hl).1 ⟨_, rfl, D.ob, ?_⟩⟩
  rw [nI_add]
  exact m_word D (by omega) (by omega) (W.wd hv (by omega)) ⟨_, rfl, q⟩
theorem m_widthOf {v l : Nat} (D : mo_D M s rb f g) (W : mo_W O f g 0 0) (hO : ow_Ok1 O) (hv : v < o_wk O) (hl : l < (o_ws O v).2.2.2.1) (h1 : ((o_ws O v).2.2.2.2 l).1 < ((o_ws O v).2.2.2.2 l).2.1) (q : Qr (some (.int (nI (ow_wd (o_ws O v).2.2.1.2.2.1 ((o_ws O v).2.2.2.2 l).1 ((o_ws O v).2.2.2.2 l).2.1)))) M) : kz_C G (d + 3) 0 0 mX12_widthOf [.ref 99, .int (nI v), .int (nI l)] M Qr Qx := by
  have hwk := hO.1.2.2.2.1
  have hW := hO.2.2.2 v hv
  have hm := hW.2.1
  have hn := hW.1.2.2.1
  have hL := hW.2.2.2.2 l hl
  have hL2 := hL.2.1
  refine rX12_widthOf_0 ⟨D.ob, m_ofL (k := 1) D (by omega) (by omega) (by omega) (W.ln hv hl).2.1 ⟨_, rfl, ?_⟩⟩
  obtain ⟨j, hj⟩ : ∃ j, ((o_ws O v).2.2.2.2 l).2.1 - ((o_ws O v).2.2.2.2 l).1 = j + 1 := ⟨((o_ws O v).2.2.2.2 l).2.1 - ((o_ws O v).2.2.2.2 l).1 - 1, by omega⟩
  rw [hj, show nI (j + 1) - 1 = nI j from nI_pred j]
  have key : ∀ k, k ≤ j + 1 → zX12_widthOf_16 G d Qr Qx 99 (nI v) (nI l) (nI (j + 1)) (nI (j + ow_lt (o_ws O v).2.2.1.2.2.1 ((o_ws O v).2.2.2.2 l).1 (((o_ws O v).2.2.2.2 l).1 + k))) (nI k) M := by
    refine ow_loop (j + 1) ?_ ?_
    · refine rX12_widthOf_16 (ow_y (nI_le (Nat.le_refl _) (by omega)) ?_)
      rw [ow_wd, show ((o_ws O v).2.2.2.2 l).2.1 - ((o_ws O v).2.2.2.2 l).1 - 1 = j by omega] at q
      rw [show ((o_ws O v).2.2.2.2 l).1 + (j + 1) = ((o_ws O v).2.2.2.2 l).2.1 by omega]
      exact q
    · intro k hk ih
      refine rX12_widthOf_16 (ow_n (nI_ge hk (by omega)) ⟨D.ob, m_wordIn D W hO hv hl (by omega) ⟨_, rfl, m_lettersW (hW.1.2.2.2 _ (by omega)) ⟨_, rfl, ?_⟩⟩⟩)
      rw [nI_1, nI_add]
      rw [← Nat.add_assoc, ow_lt_s, ← Nat.add_assoc] at ih
      exact ih
  have := key 0 (Nat.zero_le _)
  rw [show ow_lt (o_ws O v).2.2.1.2.2.1 ((o_ws O v).2.2.2.2 l).1 (((o_ws O v).2.2.2.2 l).1 + 0) = 0 from ow_lt_0 _ _ _ (Nat.le_refl _)] at this
  exact this
theorem m_stands {v l : Nat} {x : Int64} (D : mo_D M s rb f g) (W : mo_W O f g 0 0) (hO : ow_Ok1 O) (hv : v < o_wk O) (hl : l < (o_ws O v).2.2.2.1) (q : Qr (some (.int (ow_b (ow_has (o_ws O v).2.2.1 ((o_ws O v).2.2.2.2 l) x)))) M) : kz_C G (d + 3) 0 0 mX12_stands [.ref 99, .long x, .int (nI v), .int (nI l)] M Qr Qx := by
  have hwk := hO.1.2.2.2.1
  have hW := hO.2.2.2 v hv
  have hm := hW.2.1
  have hn := hW.1.2.2.1
  have hL := hW.2.2.2.2 l hl
  have hL1 := hL.1
  have hL2 := hL.2.1
  refine rX12_stands_0 ?_
  have key : ∀ k, k ≤ ((o_ws O v).2.2.2.2 l).2.1 - ((o_ws O v).2.2.2.2 l).1 → (∀ j, j < k → (o_ws O v).2.2.1.2.2.1 (((o_ws O v).2.2.2.2 l).1 + j) ≠ x) → zX12_stands_3 G d Qr Qx 99 x (nI v) (nI l) (nI k) M := by
    refine ow_loop (((o_ws O v).2.2.2.2 l).2.1 - ((o_ws O v).2.2.2.2 l).1) ?_ ?_
    · intro hno
      refine rX12_stands_3 ⟨D.ob, m_ofL (k := 1) D (by omega) (by omega) (by omega) (W.ln hv hl).2.1 ⟨_, rfl, ow_y (nI_le (Nat.le_refl _) (by omega)) ?_⟩⟩
      rw [ow_bf (by
        unfold ow_has ow_tm
        rw [decide_eq_false]
        rw [ow_cn_0 fun i hi => ?_]
        · exact Nat.lt_irrefl 0
        · by_cases hi2 : ((o_ws O v).2.2.2.2 l).1 ≤ i
          · have := hno (i - ((o_ws O v).2.2.2.2 l).1) (by omega)
            rw [show ((o_ws O v).2.2.2.2 l).1 + (i - ((o_ws O v).2.2.2.2 l).1) = i by omega] at this
            simp [this]
          · simp; omega)] at q
      exact q
    · intro k hk ih hno
      refine rX12_stands_3 ⟨D.ob, m_ofL (k := 1) D (by omega) (by omega) (by omega) (W.ln hv hl).2.1 ⟨_, rfl, ow_n (nI_ge hk (by omega)) ⟨D.ob, m_wordIn D W hO hv hl (by omega) ⟨_, rfl, fun he => ?_, fun he => ?_⟩⟩⟩⟩
      · rw [nI_1]
        refine ih fun j hj => ?_
        rcases Nat.lt_or_ge j k with hjk | hjk
        · exact hno j hjk
        · have : j = k := by omega
          subst this; exact he
      · rw [ow_bt (by
          unfold ow_has ow_tm
          exact decide_eq_true (ow_cn_pos.mpr ⟨((o_ws O v).2.2.2.2 l).1 + k, by omega, by simp [he]⟩))] at q
        exact q
  exact key 0 (Nat.zero_le _) fun j hj => absurd hj (Nat.not_lt_zero j)
end MOA
