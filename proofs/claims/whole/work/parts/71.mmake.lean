/-! Part 71: the reference: a row is broken into lines -/
/-- cells that a row's making changes -/
abbrev mo_inR (k : Nat) : Prop := k = 99 ∨ (107 ≤ k ∧ k ≤ 111)
/-- a script lies in the row -/
def mo_row (M : kz_M) (S : ow_S) (s : Nat → Int32) (rb : Int64) : Prop := s 12 = nI S.2.1 ∧ mo_br S rb ∧ ∃ g, M.1 107 = some (.inr (.long, 60, .inr (.inl g))) ∧ ∀ k, k < S.2.1 → g k = S.2.2.1 k
/-- its first n lines lie in the rows beside it -/
def mo_L (M : kz_M) (s : Nat → Int32) (rb : Int64) (n : Nat) (L : Nat → ow_L) : Prop := M.1 99 = some (.inl (11, mo_fs s rb)) ∧ s 13 = nI n ∧ n ≤ 60 ∧ (∃ f, M.1 108 = some (.inr (.int, 60, .inl f)) ∧ ∀ i, i < n → f i = nI (L i).1) ∧ (∃ f, M.1 109 = some (.inr (.int, 60, .inl f)) ∧ ∀ i, i < n → f i = nI ((L i).2.1 - (L i).1)) ∧ (∃ f, M.1 110 = some (.inr (.int, 60, .inl f)) ∧ ∀ i, i < n → f i = nI (L i).2.2.2.2.1) ∧ ∃ f, M.1 111 = some (.inr (.int, 60, .inl f)) ∧ ∀ i, i < n → f i = (L i).2.2.2.1
theorem ow_wd_1 (w : Nat → Int64) (a : Nat) : ow_wd w a (a + 1) = ow_lw (w a) := by
  unfold ow_wd
  rw [show a + 1 - a - 1 = 0 by omega, Nat.zero_add]
  have this : ow_lt w a (a + 1) = ow_lt w a a + ow_lw (w a) := ow_lt_s w a 0
  rw [this, ow_lt_0 w a a (Nat.le_refl _), Nat.zero_add]
theorem ow_wd_s {w : Nat → Int64} {a k : Nat} (h : a < k) : ow_wd w a (k + 1) = ow_wd w a k + (1 + ow_lw (w k)) := by
  unfold ow_wd
  obtain ⟨i, rfl⟩ : ∃ i, k = a + i := ⟨k - a, by omega⟩
  rw [ow_lt_s]
  omega
theorem ow_wd_le {w : Nat → Int64} {a k : Nat} : ow_wd w a k ≤ 13 * k := by
  have := ow_lt_le w a k
  unfold ow_wd
  omega
def mo_go (S : ow_S) (me k width : Nat) : Bool := decide (S.1 ≠ 2) && ow_go S me k width
section MOA
variable {G : kz_G} {d : Nat} {Qr : Option Value → kz_M → Prop} {Qx : String → kz_M → Prop} {M : kz_M} {O : ow_O} {s : Nat → Int32} {rb : Int64} {f : Nat → Int32} {g : Nat → Int64} {S : ow_S}
theorem m_goesOn {me k width : Nat} (h9 : M.1 99 = some (.inl (11, mo_fs s rb))) (R : mo_row M S s rb) (hS : ow_Sok S) (hk : k ≤ S.2.1) (h0 : 0 < k) (hw : width < 2 ^ 20) (hme : me < 2 ^ 20) (q : Qr (some (.int (ow_b (mo_go S me k width)))) M) : kz_C G (d + 1) 0 0 mX12_goesOn [.ref 99, .int (nI S.1), .int (nI k), .int (nI width), .int (nI me)] M Qr Qx := by
  obtain ⟨r1, r2, gr, r3, r4⟩ := R
  have hn := hS.2.2.1
  have hk2 := hS.1
  refine rX12_goesOn_0 ⟨_, _, h9, rfl, ?_⟩
  rw [r1]
  refine pk_eq k S.2.1 (fun he => ?_) (fun he => ?_) rfl rfl
  · rw [ow_bf (by unfold mo_go ow_go; rw [decide_eq_false (p := k < S.2.1) (by omega)]; simp)] at q
    exact q
  · refine pk_eq S.1 2 (fun h2 => ?_) (fun h2 => ⟨_, _, h9, rfl, ?_⟩) rfl rfl
    · rw [ow_bf (by unfold mo_go; rw [decide_eq_false (p := S.1 ≠ 2) (fun z => z h2)]; rfl)] at q
      exact q
    · have hb := r2 k h0 (by omega)
      refine ⟨fun hz => ⟨_, _, h9, rfl, _, _, r3, vp_in_nI (by omega) (by omega), ?_⟩, fun hz => ?_⟩
      · have hsl : S.2.2.2 k = S.2.2.2 (k - 1) := by
          by_cases h9' : S.2.2.2 k = S.2.2.2 (k - 1)
          · exact h9'
          · exact absurd (of_decide_eq_true (hb.mpr h9')) hz
        rw [nI_clamp (by omega), r4 k (by omega)]
        have hl := ow_lw_le (S.2.2.1 k)
        refine m_lettersW (hS.2.2.2 k (by omega)) ⟨_, rfl, ?_⟩
        rw [nI_1, nI_add]
        refine pk_lt me (width + 1 + ow_lw (S.2.2.1 k)) (fun hm => ?_) (fun hm => ?_) rfl rfl
        · rw [ow_bf (by unfold mo_go ow_go; rw [decide_eq_false (p := width + 1 + ow_lw (S.2.2.1 k) ≤ me) (by omega)]; simp)] at q
          exact q
        · rw [ow_bt (by unfold mo_go ow_go; rw [decide_eq_true h2, decide_eq_true (p := k < S.2.1) (by omega), decide_eq_true hsl, decide_eq_true hm]; rfl)] at q
          exact q
      · have hsl := hb.mp (decide_eq_true hz)
        rw [ow_bf (by unfold mo_go ow_go; rw [decide_eq_false hsl]; simp)] at q
        exact q
theorem mo_upd_lt {α : Type} {f f' : Nat → α} {n : Nat} {h : ∀ i, i < n → f i = f' i} {x : α} (e : f' n = x) : ∀ i, i < n + 1 → (fun k => if k = n then x else f k) i = f' i := fun i hi => by
  show (if i = n then x else f i) = f' i
  by_cases h2 : i = n
  · rw [if_pos h2, h2, e]
  · rw [if_neg h2]
    exact h i (by omega)
theorem mo_updI {f f' : Nat → Int32} {n : Nat} {x : Int32} (h : ∀ i, i < n → f i = f' i) (e : x = f' n) : ∀ i, i < n + 1 → upd f n x i = f' i := fun i hi => by
  unfold upd
  by_cases h2 : i = n
  · rw [if_pos h2, h2, e]
  · rw [if_neg h2]
    exact h i (by omega)
theorem m_makes {me : Nat} (D : mo_D M s rb f g) (W : mo_W O f g 0 0) (hO : ow_Ok1 O) (hS : ow_Sok S) (R : mo_row M S s rb) (A : mo_rows M) (hme : me < 2 ^ 20) (q : ∀ M1 s1, ow_Sm mo_inR M M1 → M1.2 = M.2 → (∀ j, j ≠ 13 → s1 j = s j) → mo_row M1 S s1 rb → mo_L M1 s1 rb (ow_nl S me) (ow_l0 S me (nI (o_ru O (7 + S.1)))) → Qr none M1) : kz_C G (d + 2) 0 0 mX12_makes [.ref 99, .int (nI S.1), .int (nI me)] M Qr Qx := by
  have hn := hS.2.2.1
  have hk2 := hS.1
  obtain ⟨hit, hend, hle⟩ := ow_it_nl S me S.2.1 0 (by omega) (Nat.zero_le _)
  have hnl : ow_nlF S me S.2.1 0 = ow_nl S me := rfl
  rw [hnl] at hit hend hle
  refine rX12_makes_0 ⟨_, D.1, ow_l rfl, ?_⟩
  have key : ∀ i, i ≤ ow_nl S me → ∀ M1 s1, ow_Sm mo_inR M M1 → M1.2 = M.2 → (∀ j, j ≠ 13 → s1 j = s j) → mo_row M1 S s1 rb → mo_L M1 s1 rb i (ow_l0 S me (nI (o_ru O (7 + S.1)))) → zX12_makes_7 G d Qr Qx 99 (nI S.1) (nI me) (nI (ow_it S me i 0)) M1 := by
    refine ow_loop (ow_nl S me) ?_ ?_
    · intro M1 s1 g1 g2 g3 g4 g5
      refine rX12_makes_7 ⟨_, _, g5.1, rfl, ?_⟩
      rw [g4.1, hend]
      exact ow_y (nI_le (Nat.le_refl _) (by omega)) (q M1 s1 g1 g2 g3 g4 g5)
    · intro i hi ih M1 s1 g1 g2 g3 g4 g5
      have hin := hit i hi
      have g40 := g4
      have g50 := g5
      obtain ⟨r1, r2, gr, r3, r4⟩ := g4
      obtain ⟨l1, l2, l3, ⟨f8, a8, b8⟩, ⟨f9, a9, b9⟩, ⟨f10, a10, b10⟩, f11, a11, b11⟩ := g5
      have D1 : mo_D M1 s1 rb f g := ⟨l1, (g1 100 (by omega)).trans D.2.1, (g1 104 (by omega)).trans D.2.2⟩
      have hE := ow_it_s S me i 0
      have hEgt := ow_le_gt S me (ow_it S me i 0)
      have hEle := ow_le_le (me := me) hin
      refine rX12_makes_7 ⟨_, _, l1, rfl, ?_⟩
      rw [r1]
      refine ow_n (nI_ge hin (by omega)) ⟨_, _, l1, rfl, _, _, r3, vp_in_nI (by omega) (by omega), ?_⟩
      rw [nI_clamp (by omega), r4 _ hin]
      refine m_lettersW (hS.2.2.2 _ hin) ⟨_, rfl, ?_⟩
      rw [nI_1, ← ow_wd_1]
      have inner : ∀ fuel k, S.2.1 ≤ k + fuel → k ≤ S.2.1 → ow_it S me i 0 < k → (S.1 = 2 → k = ow_le S me (ow_it S me i 0)) → (S.1 ≠ 2 → ow_leF S me fuel k (ow_wd S.2.2.1 (ow_it S me i 0) k) = ow_le S me (ow_it S me i 0)) → zX12_makes_32 G d Qr Qx 99 (nI S.1) (nI me) (nI k) (nI (ow_it S me i 0)) (nI (ow_wd S.2.2.1 (ow_it S me i 0) k)) M1 := by
        have stop : ∀ k, k ≤ S.2.1 → ow_it S me i 0 < k → k = ow_le S me (ow_it S me i 0) → mo_go S me k (ow_wd S.2.2.1 (ow_it S me i 0) k) = false → zX12_makes_32 G d Qr Qx 99 (nI S.1) (nI me) (nI k) (nI (ow_it S me i 0)) (nI (ow_wd S.2.2.1 (ow_it S me i 0) k)) M1 := by
          intro k hk1 hk3 hkE hgo
          have hwd := ow_wd_le (w := S.2.2.1) (a := ow_it S me i 0) (k := k)
          refine rX12_makes_32 ⟨⟨_, l1⟩, m_goesOn l1 g40 hS hk1 (by omega) (by omega) hme ⟨_, rfl, ?_⟩⟩
          rw [hgo]
          refine ow_y rfl ⟨_, _, l1, rfl, _, _, l1, rfl, _, _, a8, ?_⟩
          rw [l2, nI_clamp (by omega), pk_sub (show ow_it S me i 0 ≤ k by omega)]
          refine ⟨vp_in_nI (by omega) (by omega), _, _, (kz_up_ne (by omega)).trans l1, rfl, _, _, (kz_up_ne (by omega)).trans l1, rfl, _, _, (kz_up_ne (by omega)).trans a9, ?_⟩
          rw [l2, nI_clamp (by omega)]
          refine ⟨vp_in_nI (by omega) (by omega), fun M2 e2 => ?_⟩
          have u2 : ∀ z, z ≠ 108 → z ≠ 109 → M2.1 z = M1.1 z := fun z h1 h2 => by rw [e2, kz_up_ne h2, kz_up_ne h1]
          have n8 : M2.1 108 = some (.inr (.int, 60, .inl (upd f8 i (nI (ow_it S me i 0))))) := by rw [e2, kz_up_ne (by omega)]; exact kz_up_same _ _ _
          have n9 : M2.1 109 = some (.inr (.int, 60, .inl (upd f9 i (nI (k - ow_it S me i 0))))) := by rw [e2]; exact kz_up_same _ _ _
          have t2 : M2.2 = M1.2 := by rw [e2]; rfl
          clear e2
          have D2 : mo_D M2 s1 rb f g := ⟨(u2 99 (by omega) (by omega)).trans l1, (u2 100 (by omega) (by omega)).trans D1.2.1, (u2 104 (by omega) (by omega)).trans D1.2.2⟩
          have e7 : (7 : Int32) + nI S.1 = nI (7 + S.1) := nI_add 7 _
          refine ⟨_, _, D2.1, rfl, _, _, D2.1, rfl, ?_⟩
          rw [e7]
          refine pk_le me (2 * ow_wd S.2.2.1 (ow_it S me i 0) k) (fun hz => ⟨D2.ob, m_its D2 (by omega) (W.ru (by omega)) ⟨_, rfl, ?_⟩⟩) (fun hz => ⟨D2.ob, m_its D2 (by omega) (W.ru (by omega)) ⟨_, rfl, ?_⟩⟩) rfl (pk_mul 2 _)
          all_goals
            refine ⟨_, _, (u2 111 (by omega) (by omega)).trans a11, ?_⟩
            rw [l2, nI_clamp (by omega)]
            refine ⟨vp_in_nI (by omega) (by omega), _, _, (kz_up_ne (by omega)).trans D2.1, rfl, _, _, (kz_up_ne (by omega)).trans D2.1, rfl, _, _, (kz_up_ne (by omega)).trans ((u2 110 (by omega) (by omega)).trans a10), ?_⟩
            rw [l2, nI_clamp (by omega)]
            refine ⟨vp_in_nI (by omega) (by omega), fun M3 e3 => ?_⟩
            have u3 : ∀ z, z ≠ 110 → z ≠ 111 → M3.1 z = M2.1 z := fun z h1 h2 => by rw [e3, kz_up_ne h1, kz_up_ne h2]
            have n11 : ∃ pay, M3.1 111 = some (.inr (.int, 60, .inl (upd f11 i pay))) ∧ pay = ow_pf (ow_wd S.2.2.1 (ow_it S me i 0) k) me (nI (o_ru O (7 + S.1))) := by
              rw [e3, kz_up_ne (by omega)]
              refine ⟨_, kz_up_same _ _ _, ?_⟩
              first
                | (rw [ow_pf, if_neg (by omega)])
                | (rw [ow_pf, if_pos (by omega)])
            obtain ⟨pay, n11, hpay⟩ := n11
            have n10 : M3.1 110 = some (.inr (.int, 60, .inl (upd f10 i 0))) := by rw [e3]; exact kz_up_same _ _ _
            have t3 : M3.2 = M2.2 := by rw [e3]; rfl
            clear e3
            have h99 : M3.1 99 = some (.inl (11, mo_fs s1 rb)) := (u3 99 (by omega) (by omega)).trans D2.1
            refine ⟨_, _, h99, rfl, _, h99, ow_l rfl, ?_⟩
            rw [l2, nI_1]
            have hh : nI k = nI (ow_it S me (i + 1) 0) := by rw [hE, ← hkE]
            rw [hh]
            refine ih (kz_up M3 99 (.inl (11, mo_fs (upd s1 13 (nI (i + 1))) rb))) (upd s1 13 (nI (i + 1))) (fun z hz => ?_) (by rw [kz_up_2, t3, t2]; exact g2) (fun j hj => ?_) ⟨?_, r2, gr, ?_, r4⟩ ⟨kz_up_same _ _ _, rfl, by omega, ⟨_, (kz_up_ne (by omega)).trans ((u3 108 (by omega) (by omega)).trans n8), mo_updI b8 rfl⟩, ⟨_, (kz_up_ne (by omega)).trans ((u3 109 (by omega) (by omega)).trans n9), mo_updI b9 ?_⟩, ⟨_, (kz_up_ne (by omega)).trans n10, mo_updI b10 rfl⟩, ⟨_, (kz_up_ne (by omega)).trans n11, mo_updI b11 ?_⟩⟩
            · rw [kz_up_ne (by omega), u3 z (by omega) (by omega), u2 z (by omega) (by omega)]
              exact g1 z hz
            · show (if j = 13 then nI (i + 1) else s1 j) = s j
              rw [if_neg hj]
              exact g3 j hj
            · exact r1
            · rw [kz_up_ne (by omega), u3 107 (by omega) (by omega), u2 107 (by omega) (by omega)]
              exact r3
            · show nI (k - ow_it S me i 0) = nI (ow_it S me (i + 1) 0 - ow_it S me i 0)
              rw [hE, ← hkE]
            · show pay = ow_pf (ow_wd S.2.2.1 (ow_it S me i 0) (ow_it S me (i + 1) 0)) me (nI (o_ru O (7 + S.1)))
              rw [hE, ← hkE]
              exact hpay
        intro fuel
        induction fuel with
        | zero =>
          intro k h1 h2 h3 h4 h5
          refine stop k h2 h3 ?_ ?_
          · by_cases h6 : S.1 = 2
            · exact h4 h6
            · exact h5 h6
          · unfold mo_go ow_go
            rw [decide_eq_false (p := k < S.2.1) (by omega)]
            simp
        | succ fuel ihf =>
          intro k h1 h2 h3 h4 h5
          have hwd := ow_wd_le (w := S.2.2.1) (a := ow_it S me i 0) (k := k)
          cases hgo : mo_go S me k (ow_wd S.2.2.1 (ow_it S me i 0) k) with
          | false =>
            refine stop k h2 h3 ?_ hgo
            by_cases h6 : S.1 = 2
            · exact h4 h6
            · have h7 := h5 h6
              rw [ow_leF, if_neg (fun z => by
                unfold mo_go at hgo
                rw [z, decide_eq_true h6] at hgo
                cases hgo)] at h7
              exact h7
          | true =>
            have h6 : S.1 ≠ 2 := by
              unfold mo_go at hgo
              rw [Bool.and_eq_true] at hgo
              exact of_decide_eq_true hgo.1
            have h8 : ow_go S me k (ow_wd S.2.2.1 (ow_it S me i 0) k) = true := by
              unfold mo_go at hgo
              rw [Bool.and_eq_true] at hgo
              exact hgo.2
            have hkn : k < S.2.1 := by
              unfold ow_go at h8
              rw [Bool.and_eq_true] at h8
              exact of_decide_eq_true h8.1
            have h7 := h5 h6
            rw [ow_leF, if_pos h8] at h7
            refine rX12_makes_32 ⟨⟨_, l1⟩, m_goesOn l1 g40 hS h2 (by omega) (by omega) hme ⟨_, rfl, ?_⟩⟩
            rw [hgo]
            refine ow_n (by decide) ⟨_, _, l1, rfl, _, _, r3, vp_in_nI (by omega) (by omega), ?_⟩
            rw [nI_clamp (by omega), r4 k hkn]
            refine m_lettersW (hS.2.2.2 k hkn) ⟨_, rfl, ?_⟩
            rw [show (1 : Int32) + nI (ow_lw (S.2.2.1 k)) = nI (1 + ow_lw (S.2.2.1 k)) from nI_add 1 _, nI_add, ← ow_wd_s h3, nI_1]
            refine ihf (k + 1) (by omega) (by omega) (by omega) (fun z => absurd z h6) fun _ => ?_
            rw [ow_wd_s h3, ← Nat.add_assoc]
            exact h7
      refine inner S.2.1 (ow_it S me i 0 + 1) (by omega) (by omega) (by omega) (fun h2 => ?_) (fun h2 => ?_)
      · rw [ow_le, if_pos h2]
      · rw [ow_le, if_neg h2, ow_wd_1]
  obtain ⟨A0, ⟨f8, A1⟩, ⟨f9, A2⟩, ⟨f10, A3⟩, f11, A4⟩ := A
  obtain ⟨r1, r2, gr, r3, r4⟩ := R
  exact key 0 (Nat.zero_le _) (kz_up M 99 (.inl (11, mo_fs (upd s 13 0) rb))) (upd s 13 0) (fun z hz => kz_up_ne (by omega)) rfl (fun j hj => if_neg hj) ⟨r1, r2, gr, (kz_up_ne (by omega)).trans r3, r4⟩ ⟨kz_up_same _ _ _, rfl, by omega, ⟨f8, (kz_up_ne (by omega)).trans A1, fun i hi => absurd hi (Nat.not_lt_zero i)⟩, ⟨f9, (kz_up_ne (by omega)).trans A2, fun i hi => absurd hi (Nat.not_lt_zero i)⟩, ⟨f10, (kz_up_ne (by omega)).trans A3, fun i hi => absurd hi (Nat.not_lt_zero i)⟩, ⟨f11, (kz_up_ne (by omega)).trans A4, fun i hi => absurd hi (Nat.not_lt_zero i)⟩⟩
end MOA
