/-! Part 67: the reference as a whole; its checks; words of a writer; ranks -/
def mo_rows (M : kz_M) : Prop := (∃ g, M.1 107 = some (.inr (.long, 60, .inr (.inl g)))) ∧ (∃ f, M.1 108 = some (.inr (.int, 60, .inl f))) ∧ (∃ f, M.1 109 = some (.inr (.int, 60, .inl f))) ∧ (∃ f, M.1 110 = some (.inr (.int, 60, .inl f))) ∧ ∃ f, M.1 111 = some (.inr (.int, 60, .inl f))
def mo_A (M : kz_M) (O : ow_O) (hn : Nat) (h : Nat → ow_O) (sv : ow_O) (isS : Bool) (n : Nat) (b : Nat → Nat) (l : List Nat) : Prop := (∃ f g, M.1 100 = some (.inr (.int, 3813, .inl f)) ∧ M.1 104 = some (.inr (.long, 732, .inr (.inl g))) ∧ mo_W O f g 0 0) ∧ (∃ f, M.1 101 = some (.inr (.int, 3813, .inl f))) ∧ (∃ f g, M.1 102 = some (.inr (.int, 3813, .inl f)) ∧ M.1 105 = some (.inr (.long, 732, .inr (.inl g))) ∧ (isS = true → mo_W sv f g 0 0)) ∧ (∃ f g, M.1 103 = some (.inr (.int, 30504, .inl f)) ∧ M.1 106 = some (.inr (.long, 5856, .inr (.inl g))) ∧ hn ≤ 8 ∧ ∀ i, i < hn → mo_W (h i) f g (3813 * i) (732 * i)) ∧ mo_rows M ∧ (∃ f, M.1 112 = some (.inr (.int, 600, .inl f)) ∧ n ≤ 600 ∧ ∀ i, i < n → f i = nI (b i) ∧ b i < 256) ∧ ∃ f, M.1 113 = some (.inr (.int, 400, .inl f)) ∧ l.length ≤ 256 ∧ ∀ i, i < l.length → f i = nI (l.getD i 0)
def mo_I (M : kz_M) (O : ow_O) (hn : Nat) (h : Nat → ow_O) (sv : ow_O) (isS : Bool) (er : Nat) (ea : Int32) (n : Nat) (b : Nat → Nat) (l : List Nat) (s : Nat → Int32) (rb : Int64) : Prop := M.1 99 = some (.inl (11, mo_fs s rb)) ∧ (s 7 = nI hn ∧ s 8 = ow_b isS ∧ s 19 = nI n ∧ s 20 = nI er ∧ s 21 = ea ∧ s 31 = nI l.length) ∧ mo_A M O hn h sv isS n b l
/-- what a call of the reference leaves as it was -/
def mo_Cf (M M1 : kz_M) : Prop := (∀ k, k < 99 ∨ 114 ≤ k → M1.1 k = M.1 k) ∧ M1.2 = M.2
theorem mo_Cf.refl (M : kz_M) : mo_Cf M M := ⟨fun _ _ => rfl, rfl⟩
theorem mo_Cf.trans {M M1 M2 : kz_M} (h : mo_Cf M M1) (g : mo_Cf M1 M2) : mo_Cf M M2 := ⟨fun k hk => (g.1 k hk).trans (h.1 k hk), g.2.trans h.2⟩
theorem mo_Cf.up {M M1 : kz_M} {a : Nat} {e : kz_E} (h : mo_Cf M M1) (h1 : 99 ≤ a) (h2 : a < 114) : mo_Cf M (kz_up M1 a e) := ⟨fun k hk => (kz_up_ne (by omega)).trans (h.1 k hk), h.2⟩
/-- a continuation: the reference's state, thrown c -/
def mo_K (M : kz_M) (O : ow_O) (hn : Nat) (h : Nat → ow_O) (sv : ow_O) (isS : Bool) (er : Nat) (ea : Int32) (n : Nat) (b : Nat → Nat) (l : List Nat) (c : Nat) (Q : kz_M → Prop) : Prop := ∀ M1 s1 rb1, mo_Cf M M1 → mo_I M1 O hn h sv isS er ea n b l s1 rb1 → s1 9 = nI c → Q M1
/-- balances are bounded -/
def ow_Bd (O : ow_O) (c : Nat) : Prop := ∀ i, i < o_nw O → (o_ba O i).toInt.natAbs ≤ c
theorem mo_A.up {M : kz_M} {O : ow_O} {hn : Nat} {h : Nat → ow_O} {sv : ow_O} {isS : Bool} {n : Nat} {b : Nat → Nat} {l : List Nat} {e : kz_E} (A : mo_A M O hn h sv isS n b l) : mo_A (kz_up M 99 e) O hn h sv isS n b l := by
  obtain ⟨⟨f1, g1, a1, a2, a3⟩, ⟨f2, a4⟩, ⟨f3, g3, a5, a6, a7⟩, ⟨f4, g4, a8, a9, a10⟩, ⟨⟨g5, b1⟩, ⟨f6, b2⟩, ⟨f7, b3⟩, ⟨f8, b4⟩, f9, b5⟩, ⟨f10, c1, c2⟩, f11, c3, c4⟩ := A
  have u : ∀ k x, k ≠ 99 → M.1 k = some x → (kz_up M 99 e).1 k = some x := fun k x hk hx => (kz_up_ne hk).trans hx
  exact ⟨⟨f1, g1, u _ _ (by omega) a1, u _ _ (by omega) a2, a3⟩, ⟨f2, u _ _ (by omega) a4⟩, ⟨f3, g3, u _ _ (by omega) a5, u _ _ (by omega) a6, a7⟩, ⟨f4, g4, u _ _ (by omega) a8, u _ _ (by omega) a9, a10⟩, ⟨⟨g5, u _ _ (by omega) b1⟩, ⟨f6, u _ _ (by omega) b2⟩, ⟨f7, u _ _ (by omega) b3⟩, ⟨f8, u _ _ (by omega) b4⟩, f9, u _ _ (by omega) b5⟩, ⟨f10, u _ _ (by omega) c1, c2⟩, f11, u _ _ (by omega) c3, c4⟩
section MOA
variable {G : kz_G} {d : Nat} {Qr : Option Value → kz_M → Prop} {Qx : String → kz_M → Prop} {M : kz_M} {O : ow_O} {s : Nat → Int32} {rb : Int64} {f : Nat → Int32} {g : Nat → Int64} {hn : Nat} {h : Nat → ow_O} {sv : ow_O} {isS : Bool} {er : Nat} {ea : Int32} {n : Nat} {b : Nat → Nat} {l : List Nat}
theorem mo_I.ob (I : mo_I M O hn h sv isS er ea n b l s rb) : ∃ fs, M.1 99 = some (.inl (11, fs)) := ⟨_, I.1⟩
theorem mo_I.D (I : mo_I M O hn h sv isS er ea n b l s rb) : ∃ f g, mo_D M s rb f g ∧ mo_W O f g 0 0 := by
  obtain ⟨h1, h2, ⟨f1, g1, a1, a2, a3⟩, -⟩ := I
  exact ⟨f1, g1, ⟨h1, a1, a2⟩, a3⟩
theorem mo_I.th (I : mo_I M O hn h sv isS er ea n b l s rb) (c : Int32) : mo_I (kz_up M 99 (.inl (11, mo_fs (upd s 9 c) rb))) O hn h sv isS er ea n b l (upd s 9 c) rb := ⟨kz_up_same _ _ _, I.2.1, I.2.2.up⟩
theorem mo_D.up {s' : Nat → Int32} {rb' : Int64} (D : mo_D M s rb f g) : mo_D (kz_up M 99 (.inl (11, mo_fs s' rb'))) s' rb' f g := ⟨kz_up_same _ _ _, (kz_up_ne (by omega)).trans D.2.1, (kz_up_ne (by omega)).trans D.2.2⟩
theorem mo_K.at0 {Q : kz_M → Prop} (q : mo_K M O hn h sv isS er ea n b l 0 Q) (I : mo_I M O hn h sv isS er ea n b l s rb) : Q (kz_up M 99 (.inl (11, mo_fs (upd s 9 0) rb))) := q _ _ _ ((mo_Cf.refl M).up (by omega) (by omega)) (I.th 0) rfl
theorem mo_K.at {Q : kz_M → Prop} {c : Nat} {v : Int32} (q : mo_K M O hn h sv isS er ea n b l c Q) (I : mo_I M O hn h sv isS er ea n b l s rb) (e : v = nI c) : Q (kz_up (kz_up M 99 (.inl (11, mo_fs (upd s 9 0) rb))) 99 (.inl (11, mo_fs (upd (upd s 9 0) 9 v) rb))) := q _ _ _ (((mo_Cf.refl M).up (by omega) (by omega)).up (by omega) (by omega)) ((I.th 0).th v) e
theorem m_fails0 {v : Int32} (q : Qr (some (.int 0)) M) : kz_C G d 0 0 mX12_fails [.ref 99, .int 0, .int v] M Qr Qx := rX12_fails_0 (ow_y rfl ⟨rfl, q⟩)
theorem m_fails1 {v : Int32} (h9 : M.1 99 = some (.inl (11, mo_fs s rb))) (q : Qr (some (.int 1)) (kz_up M 99 (.inl (11, mo_fs (upd s 9 v) rb)))) : kz_C G d 0 0 mX12_fails [.ref 99, .int 1, .int v] M Qr Qx := rX12_fails_0 (ow_n (by decide) ⟨_, h9, ow_l rfl, rfl, q⟩)
/-- a place below n, by inRange's own words -/
theorem mo_rng {x : Int32} {n : Nat} (hn : n < 2 ^ 31) : (!decide (x < 0) && !decide (nI n - 1 < x)) = ow_ex (fun j => decide (x = nI j)) n := by
  have e : nI n - 1 < x ↔ nI n ≤ x ∨ (n = 0 ∧ ¬ x < 0) := by
    cases n with
    | zero =>
      rw [Int32.lt_iff_toInt_lt, Int32.le_iff_toInt_le, Int32.lt_iff_toInt_lt]
      have h1 : (nI 0 - 1 : Int32).toInt = -1 := by decide
      have h2 : (nI 0 : Int32).toInt = 0 := by decide
      have h3 : (0 : Int32).toInt = 0 := by decide
      omega
    | succ m =>
      rw [show nI (m + 1) - 1 = nI m from nI_pred m, Int32.lt_iff_toInt_lt, Int32.le_iff_toInt_le, nI_toInt (by omega), nI_toInt hn]
      omega
  rcases pk_ix x hn with hx | hx | ⟨j, hj, rfl⟩
  · rw [decide_eq_true hx, ow_ex_f.mpr fun i hi => decide_eq_false fun (z : x = nI i) => nI_pos (n := i) (by omega) (z ▸ hx)]
    rfl
  · rw [decide_eq_true (e.mpr (Or.inl hx)), ow_ex_f.mpr fun i hi => decide_eq_false fun (z : x = nI i) => nI_ge hi hn (z ▸ hx)]
    simp
  · rw [decide_eq_false (nI_pos (by omega)), decide_eq_false (fun z => ?_), ow_ex_iff.mpr ⟨j, hj, decide_eq_true rfl⟩]
    · rfl
    · rcases e.mp z with h1 | h1
      · exact nI_ge hj hn h1
      · omega
theorem mo_if {x : Int32} {n : Nat} {A B : Prop} (hn : n < 2 ^ 31) (a : (∀ j, j < n → x ≠ nI j) → A) (q : ∀ j, j < n → x = nI j → B) : (¬ ow_b (ow_ex (fun j => decide (x = nI j)) n) = 0 → B) ∧ (ow_b (ow_ex (fun j => decide (x = nI j)) n) = 0 → A) :=
  ow_ifn (fun e => by
    obtain ⟨j, hj, e⟩ := ow_ex_iff.mp e
    exact q j hj (of_decide_eq_true e)) (fun e => a fun j hj z => by
    have := ow_ex_f.mp e j hj
    rw [decide_eq_true z] at this
    cases this)
theorem m_noWork {x : Int32} (D : mo_D M s rb f g) (W : mo_W O f g 0 0) (hO : ow_Ok1 O) (q0 : (∀ j, j < o_wk O → x ≠ nI j) → Qr (some (.int 1)) (kz_up M 99 (.inl (11, mo_fs (upd s 9 1) rb)))) (q1 : ∀ j, j < o_wk O → x = nI j → Qr (some (.int 0)) M) : kz_C G (d + 1) 0 0 mX12_noWork [.ref 99, .int x] M Qr Qx := by
  have hwk := hO.1.2.2.2.1
  refine rX12_noWork_0 ⟨_, _, D.1, rfl, _, _, D.2.1, mo_in1, ?_⟩
  rw [W.at1]
  exact m_in (mo_rng (by omega)).symm ⟨_, rfl, mo_if (by omega) (fun hx => ⟨D.ob, m_fails1 D.1 ⟨_, rfl, rfl, q0 hx⟩⟩) (fun j hj e => ⟨D.ob, m_fails0 ⟨_, rfl, rfl, q1 j hj e⟩⟩)⟩
theorem m_noWriter {x : Int32} (D : mo_D M s rb f g) (W : mo_W O f g 0 0) (hO : ow_Ok1 O) (q0 : (∀ j, j < o_nw O → x ≠ nI j) → Qr (some (.int 1)) (kz_up M 99 (.inl (11, mo_fs (upd s 9 1) rb)))) (q1 : ∀ j, j < o_nw O → x = nI j → Qr (some (.int 0)) M) : kz_C G (d + 1) 0 0 mX12_noWriter [.ref 99, .int x] M Qr Qx := by
  have hnw := hO.1.2.2.1
  refine rX12_noWriter_0 ⟨_, _, D.1, rfl, _, _, D.2.1, mo_in0, ?_⟩
  rw [W.at0]
  exact m_in (mo_rng (by omega)).symm ⟨_, rfl, mo_if (by omega) (fun hx => ⟨D.ob, m_fails1 D.1 ⟨_, rfl, rfl, q0 hx⟩⟩) (fun j hj e => ⟨D.ob, m_fails0 ⟨_, rfl, rfl, q1 j hj e⟩⟩)⟩
theorem m_noLine {x y : Int32} (D : mo_D M s rb f g) (W : mo_W O f g 0 0) (hO : ow_Ok1 O) (q0 : (∀ j k, j < o_wk O → k < (o_ws O j).2.2.2.1 → x = nI j → y = nI k → False) → Qr (some (.int 1)) (kz_up M 99 (.inl (11, mo_fs (upd s 9 1) rb)))) (q1 : ∀ j k, j < o_wk O → x = nI j → k < (o_ws O j).2.2.2.1 → y = nI k → Qr (some (.int 0)) M) : kz_C G (d + 2) 0 0 mX12_noLine [.ref 99, .int x, .int y] M Qr Qx := by
  have hwk := hO.1.2.2.2.1
  refine rX12_noLine_0 ⟨D.ob, m_noWork D W hO (fun hx => ⟨_, rfl, fun _ => q0 fun j k hj hk e _ => hx j hj e, fun z => absurd z (by decide)⟩) fun j hj e => ⟨_, rfl, fun z => absurd rfl z, fun _ => ?_⟩⟩
  have h60 := (hO.2.2.2 j hj).2.1
  have Q0 := fun hy : ∀ k, k < (o_ws O j).2.2.2.1 → y ≠ nI k => q0 fun j' k hj' hk e' ek => by
    have : j = j' := ow_inj (by omega) (by omega) e e'
    subst this
    exact hy k hk ek
  subst e
  exact ⟨D.ob, m_of (k := 4) D (by omega) (by omega) (W.ww hj).2.2.2.2.1 ⟨_, rfl, m_in (mo_rng (by omega)).symm ⟨_, rfl, mo_if (by omega) (fun hy => ⟨D.ob, m_fails1 D.1 ⟨_, rfl, fun z => absurd z (by decide), fun _ => Q0 hy⟩⟩) (fun k hk ek => ⟨D.ob, m_fails0 ⟨_, rfl, fun _ => q1 j k hj rfl hk ek, fun z => absurd rfl z⟩⟩)⟩⟩⟩
theorem m_stoodAhead {v j k : Nat} (D : mo_D M s rb f g) (W : mo_W O f g 0 0) (hO : ow_Ok1 O) (hv : v < 2 ^ 31) (hj : j < o_wk O) (hk : k < (o_ws O j).2.2.1.2.1) (q : Qr (some (.int (ow_b (!(decide (ow_tm (o_ws O j).2.2.1.2.2.1 ((o_ws O j).2.2.1.2.2.1 k) 0 k = 0) && !sp_ub O ((o_ws O j).2.2.1.2.2.1 k) v j))))) M) : kz_C G (d + 2) 0 0 mX12_stoodAhead [.ref 99, .int (nI v), .int (nI j), .int (nI k)] M Qr Qx := by
  have hwk := hO.1.2.2.2.1
  have hn60 := (hO.2.2.2 j hj).1.2.2.1
  refine rX12_stoodAhead_0 ⟨D.ob, m_word D (by omega) (by omega) (W.wd hj hk) ⟨_, rfl, ?_⟩⟩
  have key : ∀ i, i ≤ j → (∀ i', i' < i → (decide ((o_ws O i').1 = v) && decide (0 < ow_tm (o_ws O i').2.2.1.2.2.1 ((o_ws O j).2.2.1.2.2.1 k) 0 (o_ws O i').2.2.1.2.1)) = false) → zX12_stoodAhead_11 G d Qr Qx 99 (nI v) (nI j) (nI k) ((o_ws O j).2.2.1.2.2.1 k) (nI i) M := by
    refine ow_loop j ?_ ?_
    · intro hno
      have hub : sp_ub O ((o_ws O j).2.2.1.2.2.1 k) v j = false := ow_ex_f.mpr hno
      rw [hub] at q
      refine rX12_stoodAhead_11 (ow_y (nI_le (Nat.le_refl _) (by omega)) ⟨D.ob, m_placeIn D W hO hj ⟨_, rfl, ?_⟩⟩)
      have hs : (mo_pl (o_ws O j).2.2.1.2.2.1 (o_ws O j).2.2.1.2.1 ((o_ws O j).2.2.1.2.2.1 k)).isSome = true := by
        rw [mo_pl_some]
        exact decide_eq_true (ow_tm_pos.mpr ⟨k, hk, rfl⟩)
      obtain ⟨i, hi⟩ := Option.isSome_iff_exists.mp hs
      obtain ⟨hlt, h2, h3⟩ := ow_fsL hi
      rw [hi]
      have hle : i ≤ k := Nat.not_lt.mp fun z => by
        have := h3 k z
        simp at this
      refine pk_le k i (fun hz => ?_) (fun hz => ?_) rfl rfl
      · have : i = k := by omega
        subst this
        rw [decide_eq_true ((mo_pl_first hk).mp hi)] at q
        exact q
      · rw [decide_eq_false (fun z => by
          have := (mo_pl_first hk).mpr z
          rw [hi] at this
          have := Option.some.inj this
          omega)] at q
        exact q
    · intro i hi ih hno
      refine rX12_stoodAhead_11 (ow_n (nI_ge hi (by omega)) ⟨D.ob, m_isBy D W hO (by omega) hv ⟨_, rfl, ow_if0 (fun hz => ?_) (fun hz => ⟨D.ob, m_placeIn D W hO (by omega) ⟨_, rfl, mo_oi (n := (o_ws O i).2.2.1.2.1) mo_pl_lt (by have := (hO.2.2.2 i (by omega)).1.2.2.1; omega) (fun hp => ?_) (fun hp => ?_)⟩⟩)⟩⟩)
      · rw [nI_1]
        refine ih fun i' hi' => ?_
        rcases Nat.lt_or_ge i' i with h9 | h9
        · exact hno i' h9
        · have : i' = i := by omega
          subst this
          rw [hz]; rfl
      · rw [nI_1]
        refine ih fun i' hi' => ?_
        rcases Nat.lt_or_ge i' i with h9 | h9
        · exact hno i' h9
        · have : i' = i := by omega
          subst this
          rw [hz, Bool.true_and, ← mo_pl_some, hp]
          rfl
      · have hub : sp_ub O ((o_ws O j).2.2.1.2.2.1 k) v j = true := ow_ex_iff.mpr ⟨i, hi, by rw [hz, Bool.true_and, ← mo_pl_some]; exact hp⟩
        rw [hub, Bool.not_true, Bool.and_false] at q
        exact q
  exact key 0 (Nat.zero_le _) fun i hi => absurd hi (Nat.not_lt_zero i)
theorem mu_uses_le (O : ow_O) (hO : ow_Ok1 O) (x : Int64) (v : Nat) : ∀ e, e ≤ o_wk O → mu_uses O x v e ≤ 60 * e := fun e he => ow_sn_le fun i hi => by
  have h1 := (hO.2.2.2 i (by omega)).2.1
  have h2 := mu_u1_le (o_ws O i) x (o_ws O i).2.2.2.1
  split <;> omega
theorem m_wordsUsed {v least : Nat} (D : mo_D M s rb f g) (W : mo_W O f g 0 0) (hO : ow_Ok1 O) (hv : v < 2 ^ 31) (hl : least ≤ 99) (q : Qr (some (.int (nI (sp_wi O v least)))) M) : kz_C G (d + 5) 0 0 mX12_wordsUsed [.ref 99, .int (nI v), .int (nI least)] M Qr Qx := by
  have hwk := hO.1.2.2.2.1
  refine rX12_wordsUsed_0 (ow_loop (P := fun i => zX12_wordsUsed_5 G d Qr Qx 99 (nI v) (nI least) (nI (ow_sn (fun i => if (o_ws O i).1 = v then ow_cn (sp_w1 O v least i) (o_ws O i).2.2.1.2.1 else 0) i)) (nI i) M) (o_wk O) ?_ ?_ 0 (Nat.zero_le _))
  · refine rX12_wordsUsed_5 ⟨_, _, D.1, rfl, _, _, D.2.1, mo_in1, ?_⟩
    rw [W.at1]
    exact ow_y (nI_le (Nat.le_refl _) (by omega)) q
  · intro i hi ih
    have hW := hO.2.2.2 i hi
    have hn60 := hW.1.2.2.1
    rw [ow_sn] at ih
    refine rX12_wordsUsed_5 ⟨_, _, D.1, rfl, _, _, D.2.1, mo_in1, ?_⟩
    rw [W.at1]
    refine ow_n (nI_ge hi (by omega)) ⟨D.ob, m_isBy D W hO hi hv ⟨_, rfl, ow_ifn (fun hz => ?_) (fun hz => ?_)⟩⟩
    · rw [if_pos (of_decide_eq_true hz)] at ih
      refine ow_loop (P := fun k => zX12_wordsUsed_32 G d Qr Qx 99 (nI v) (nI least) (nI (ow_sn (fun i => if (o_ws O i).1 = v then ow_cn (sp_w1 O v least i) (o_ws O i).2.2.1.2.1 else 0) i + ow_cn (sp_w1 O v least i) k)) (nI i) (nI k) M) (o_ws O i).2.2.1.2.1 ?_ ?_ 0 (Nat.zero_le _)
      · refine rX12_wordsUsed_32 ⟨D.ob, m_of (k := 3) D (by omega) (by omega) (W.ww hi).2.2.2.1 ⟨_, rfl, ow_y (nI_le (Nat.le_refl _) (by omega)) ?_⟩⟩
        rw [nI_1]; exact ih
      · intro k hk ih2
        rw [ow_cn, ← Nat.add_assoc] at ih2
        refine rX12_wordsUsed_32 ⟨D.ob, m_of (k := 3) D (by omega) (by omega) (W.ww hi).2.2.2.1 ⟨_, rfl, ow_n (nI_ge hk (by omega)) ⟨D.ob, m_stoodAhead D W hO hv hi hk ⟨_, rfl, ow_ifn (fun h1 => ?_) (fun h1 => ⟨D.ob, m_word D (by omega) (by omega) (W.wd hi hk) ⟨_, rfl, _, _, D.1, rfl, _, _, D.2.1, mo_in1, ?_⟩⟩)⟩⟩⟩⟩
        · rw [if_neg (by
            unfold sp_w1
            rw [Bool.not_eq_true'] at h1
            rw [h1]; simp)] at ih2
          rw [nI_1, ow_add0]; exact ih2
        · rw [W.at1]
          have hle := mu_uses_le O hO ((o_ws O i).2.2.1.2.2.1 k) v (o_wk O) (Nat.le_refl _)
          refine ⟨D.ob, m_usesOf D W hO hv (Nat.le_refl _) ⟨_, rfl, pk_lt (mu_uses O ((o_ws O i).2.2.1.2.2.1 k) v (o_wk O)) least (fun h2 => ?_) (fun h2 => ?_) rfl rfl⟩⟩
          · rw [if_neg (by
              unfold sp_w1
              rw [mu_uses_lines] at h2
              rw [decide_eq_false (p := least ≤ sp_lines O v ((o_ws O i).2.2.1.2.2.1 k)) (by omega)]; simp)] at ih2
            rw [nI_1, ow_add0]; exact ih2
          · rw [if_pos (by
              unfold sp_w1
              rw [mu_uses_lines] at h2
              rw [Bool.not_eq_false'] at h1
              rw [h1, decide_eq_true (p := least ≤ sp_lines O v ((o_ws O i).2.2.1.2.2.1 k)) h2]; rfl)] at ih2
            rw [nI_1, nI_1]; exact ih2
    · rw [if_neg (of_decide_eq_false hz), Nat.add_zero] at ih
      rw [nI_1]; exact ih
theorem mo_sub {a b : Int32} {c : Nat} (ha : a.toInt.natAbs ≤ c) (hb : b.toInt.natAbs ≤ c) (hc : c < 2 ^ 30) : (a - b).toInt = a.toInt - b.toInt := by
  rw [Int32.toInt_sub]
  exact Int.bmod_eq_of_le (by omega) (by omega)
theorem m_aheadOf {v c : Nat} (D : mo_D M s rb f g) (W : mo_W O f g 0 0) (hO : ow_Ok1 O) (hB : ow_Bd O c) (hc : c < 2 ^ 30) (hv : v < o_nw O) (q : Qr (some (.int (nI (sp_rank O v)))) M) : kz_C G d 0 0 mX12_aheadOf [.ref 99, .int (nI v)] M Qr Qx := by
  have hnw := hO.1.2.2.1
  refine rX12_aheadOf_0 (ow_loop (P := fun i => zX12_aheadOf_4 G d Qr Qx 99 (nI v) (nI (ow_cn (fun i => decide (o_ba O v < o_ba O i) || (decide (o_ba O i = o_ba O v) && decide (i < v))) i)) (nI i) M) (o_nw O) ?_ ?_ 0 (Nat.zero_le _))
  · refine rX12_aheadOf_4 ⟨_, _, D.1, rfl, _, _, D.2.1, mo_in0, ?_⟩
    rw [W.at0]
    exact ow_y (nI_le (Nat.le_refl _) (by omega)) q
  · intro i hi ih
    rw [ow_cn] at ih
    have hs := mo_sub (hB i hi) (hB v hv) hc
    have e0 : (0 : Int32).toInt = 0 := by decide
    refine rX12_aheadOf_4 ⟨_, _, D.1, rfl, _, _, D.2.1, mo_in0, ?_⟩
    rw [W.at0]
    refine ow_n (nI_ge hi (by omega)) ⟨_, _, D.1, rfl, _, _, D.2.1, ?_⟩
    rw [show (21 : Int32) + nI i = nI (21 + i) from nI_add 21 i, nI_clamp (by omega), W.ba hi]
    refine ⟨vp_in_nI (by omega) (by omega), _, _, D.1, rfl, _, _, D.2.1, ?_⟩
    rw [show (21 : Int32) + nI v = nI (21 + v) from nI_add 21 v, nI_clamp (by omega), W.ba hv]
    refine ⟨vp_in_nI (by omega) (by omega), fun h1 => ?_, fun h1 => ⟨fun h2 => ?_, fun h2 => pk_le v i (fun h3 => ?_) (fun h3 => ?_) rfl rfl⟩⟩
    · have h1' : o_ba O v < o_ba O i := by
        rw [Int32.lt_iff_toInt_lt] at h1 ⊢
        omega
      rw [if_pos (by rw [decide_eq_true h1']; rfl)] at ih
      rw [nI_1, nI_1]; exact ih
    all_goals
      have h1' : ¬ o_ba O v < o_ba O i := by
        rw [Int32.lt_iff_toInt_lt] at h1 ⊢
        omega
    · have h2' : o_ba O i ≠ o_ba O v := fun z => h2 (by
        apply Int32.toInt_inj.mp
        rw [hs, z, e0]; omega)
      rw [if_neg (by rw [decide_eq_false h1', decide_eq_false h2']; simp)] at ih
      rw [nI_1, ow_add0]; exact ih
    · rw [if_neg (by rw [decide_eq_false h1', decide_eq_false (p := i < v) (by omega), Bool.and_false]; decide)] at ih
      rw [nI_1, ow_add0]; exact ih
    · have h2' : o_ba O i = o_ba O v := by
        apply Int32.toInt_inj.mp
        have := congrArg Int32.toInt h2
        rw [hs, e0] at this
        omega
      rw [if_pos (by rw [decide_eq_true h2', decide_eq_true h3]; simp)] at ih
      rw [nI_1, nI_1]; exact ih
end MOA
