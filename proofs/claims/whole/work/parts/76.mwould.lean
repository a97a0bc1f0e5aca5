/-! Part 76: the reference: what would be, uses -/
theorem mo_D.row {M M1 : kz_M} {s s1 : Nat → Int32} {rb rb1 : Int64} {f : Nat → Int32} {g : Nat → Int64} (D : mo_D M s rb f g) (h : ow_Sm mo_inR M M1) (h99 : M1.1 99 = some (.inl (11, mo_fs s1 rb1))) : mo_D M1 s1 rb1 f g := ⟨h99, (h 100 (by omega)).trans D.2.1, (h 104 (by omega)).trans D.2.2⟩
theorem ow_sm_ext {F H : Nat → Int32} : ∀ {n : Nat}, (∀ i, i < n → F i = H i) → ow_sm F n = ow_sm H n
  | 0, _ => rfl
  | n + 1, h => by
    rw [ow_sm, ow_sm, h n (by omega), ow_sm_ext fun i hi => h i (by omega)]
theorem mo_jw1 (O : ow_O) (v : Nat) (S : ow_S) (ru : Nat → Nat) (e : Nat) : ow_wl 1 (ow_jw O v S ru e) = ow_cn (fun i => decide ((mu_jl S (ru 0) (nI (ru (7 + S.1))) (ru 1) (ru 2) (ow_co O v e) i).2.2.2.2.1 = 0)) (ow_nl S (ru 0)) := ow_cn_ext fun i _ => mu_jl_cts S (ru 0) (nI (ru (7 + S.1))) (ru 1) (ru 2) (ow_co O v e) i
theorem mo_jw2 (O : ow_O) (v : Nat) (S : ow_S) (ru : Nat → Nat) (e : Nat) : ow_wl 2 (ow_jw O v S ru e) = ow_cn (fun i => !decide ((mu_jl S (ru 0) (nI (ru (7 + S.1))) (ru 1) (ru 2) (ow_co O v e) i).2.2.2.2.1 = 0)) (ow_nl S (ru 0)) := ow_cn_ext fun i _ => decide_not
theorem mo_jwp (O : ow_O) (v : Nat) (S : ow_S) (ru : Nat → Nat) (e : Nat) : ow_wp (ow_jw O v S ru e) = ow_sm (fun i => if (mu_jl S (ru 0) (nI (ru (7 + S.1))) (ru 1) (ru 2) (ow_co O v e) i).2.2.2.2.1 = 0 then (mu_jl S (ru 0) (nI (ru (7 + S.1))) (ru 1) (ru 2) (ow_co O v e) i).2.2.2.1 else 0) (ow_nl S (ru 0)) := by
  refine ow_sm_ext fun i _ => ?_
  have := mu_jl_cts S (ru 0) (nI (ru (7 + S.1))) (ru 1) (ru 2) (ow_co O v e) i
  show (if ow_cts (mu_jl S (ru 0) (nI (ru (7 + S.1))) (ru 1) (ru 2) (ow_co O v e) i) = true then _ else _) = _
  rw [this]
  by_cases hz : (mu_jl S (ru 0) (nI (ru (7 + S.1))) (ru 1) (ru 2) (ow_co O v e) i).2.2.2.2.1 = 0
  · rw [if_pos hz, if_pos (decide_eq_true hz)]; rfl
  · rw [if_neg hz, if_neg (by rw [decide_eq_false hz]; decide)]
theorem mo_L.mv {M M1 : kz_M} {s : Nat → Int32} {rb : Int64} {n : Nat} {L : Nat → ow_L} (h : mo_L M s rb n L) (e : ∀ a, mo_inR a → M1.1 a = M.1 a) : mo_L M1 s rb n L := by
  obtain ⟨h1, h2, h3, ⟨f1, a1, b1⟩, ⟨f2, a2, b2⟩, ⟨f3, a3, b3⟩, f4, a4, b4⟩ := h
  exact ⟨(e 99 (by omega)).trans h1, h2, h3, ⟨f1, (e 108 (by omega)).trans a1, b1⟩, ⟨f2, (e 109 (by omega)).trans a2, b2⟩, ⟨f3, (e 110 (by omega)).trans a3, b3⟩, f4, (e 111 (by omega)).trans a4, b4⟩
theorem mo_row.mv {M M1 : kz_M} {S : ow_S} {s : Nat → Int32} {rb : Int64} (h : mo_row M S s rb) (e : ∀ a, mo_inR a → M1.1 a = M.1 a) : mo_row M1 S s rb := by
  obtain ⟨h1, h2, g, h3, h4⟩ := h
  exact ⟨h1, h2, g, (e 107 (by omega)).trans h3, h4⟩
/-- with one rule changed the past is as it was -/
theorem ow_co_rule (O : ow_O) (k m v : Nat) : ∀ e, ow_co (o_rule O k m) v e = ow_co O v e
  | 0 => rfl
  | e + 1 => by
    unfold ow_co
    rw [ow_co_rule O k m v e]
    rfl
theorem mo_W.rule {O : ow_O} {f : Nat → Int32} {g : Nat → Int64} {k m : Nat} (W : mo_W O f g 0 0) (hO : ow_Ok1 O) (hk : k < 10) : mo_W (o_rule O k m) (upd f (5 + k) (nI m)) g 0 0 := by
  have hnw := hO.1.2.2.1
  have u : ∀ j, j ≠ 5 + k → upd f (5 + k) (nI m) j = f j := fun j hj => if_neg hj
  obtain ⟨⟨a0, a1, a2, a3, a4⟩, a5, a6, a7, a8⟩ := W
  refine ⟨⟨(u _ (by omega)).trans a0, (u _ (by omega)).trans a1, (u _ (by omega)).trans a2, (u _ (by omega)).trans a3, (u _ (by omega)).trans a4⟩, fun i hi => ?_, fun i hi => ?_, fun v hv => ?_, fun i hi => (u _ (by omega)).trans (a8 i hi)⟩
  · show (if 0 + (5 + i) = 5 + k then nI m else f (0 + (5 + i))) = nI (if i = k then m else o_ru O i)
    by_cases h : i = k
    · rw [if_pos h, if_pos (by omega)]
    · rw [if_neg h, if_neg (by omega)]
      exact a5 i hi
  · have hi : i < o_nw O := hi
    obtain ⟨b1, b2, b3⟩ := a6 i hi
    exact ⟨(u _ (by omega)).trans b1, (u _ (by omega)).trans b2, (u _ (by omega)).trans b3⟩
  · obtain ⟨b1, b2, b3, b4, b5, b6, b7⟩ := a7 v hv
    refine ⟨(u _ (by omega)).trans b1, (u _ (by omega)).trans b2, (u _ (by omega)).trans b3, (u _ (by omega)).trans b4, (u _ (by omega)).trans b5, fun l hl => ?_, b7⟩
    obtain ⟨c1, c2, c3, c4, c5⟩ := b6 l hl
    exact ⟨(u _ (by omega)).trans c1, (u _ (by omega)).trans c2, (u _ (by omega)).trans c3, (u _ (by omega)).trans c4, (u _ (by omega)).trans c5⟩
section MOA
variable {G : kz_G} {d : Nat} {Qr : Option Value → kz_M → Prop} {Qx : String → kz_M → Prop} {M : kz_M} {O : ow_O} {s : Nat → Int32} {rb : Int64} {hn : Nat} {h : Nat → ow_O} {sv : ow_O} {isS : Bool} {er : Nat} {ea : Int32} {n : Nat} {b : Nat → Nat} {l : List Nat}
theorem mo_I.inp (I : mo_I M O hn h sv isS er ea n b l s rb) : n ≤ 600 ∧ ∃ f, M.1 112 = some (.inr (.int, 600, .inl f)) ∧ ∀ i, i < n → f i = nI (b i) ∧ b i < 256 := by
  obtain ⟨f, h1, h2, h3⟩ := I.2.2.2.2.2.2.2.1
  exact ⟨h2, f, h1, h3⟩

theorem m_wouldCount {x y z : Int32} (I : mo_I M O hn h sv isS er ea n b l s rb) (hO : ow_Ok2 O) (q0 : (∀ j, j < o_nw O → x ≠ nI j) → mo_K M O hn h sv isS er ea n b l 1 (Qr (some (.int 0)))) (q1 : ∀ j, j < o_nw O → x = nI j → sp_sub n y z = false → mo_K M O hn h sv isS er ea n b l 2 (Qr (some (.int 0)))) (q2 : ∀ j kd len, j < o_nw O → x = nI j → y = nI kd → z = nI len → kd ≤ 2 → len ≤ n → len ≤ 500 → sp_sub n y z = true → rd_can kd b len = false → mo_K M O hn h sv isS er ea n b l 0 (Qr (some (.int (-1))))) (q3 : ∀ j kd len, j < o_nw O → x = nI j → y = nI kd → z = nI len → kd ≤ 2 → len ≤ n → len ≤ 500 → sp_sub n y z = true → rd_can kd b len = true → mo_K M O hn h sv isS er ea n b l 0 (Qr (some (.int (nI (ow_wl 1 (ow_jw O j (rd_S kd b len) (o_ru O) (o_wk O)))))))) : kz_C G (d + 7) 0 0 mX12_wouldCount [.ref 99, .int x, .int y, .int z] M Qr Qx := by
  have I0 := I.th' 0
  have C0 := I.cf 0
  have h9 : upd s 9 0 9 = nI 0 := rfl
  refine rX12_wouldCount_0 ⟨_, I.1, ow_l rfl, ?_⟩
  generalize kz_up M 99 (.inl (11, (mo_fs s rb).set 9 (.int 0))) = M0 at I0 C0 ⊢
  generalize upd s 9 0 = s0 at I0 h9
  obtain ⟨f, g, D, W⟩ := I0.D
  obtain ⟨hn6, hin⟩ := I0.inp
  have hwk := hO.1.1.2.2.2.1
  have hnw := hO.1.1.2.2.1
  refine ⟨D.ob, m_noReading I0 D W hO.1 (fun hx => ⟨_, rfl, fun z => absurd z (by decide), fun _ => (q0 hx).fl C0 I0 rfl⟩) (fun j hj e hs => ⟨_, rfl, fun z => absurd z (by decide), fun _ => (q1 j hj e hs).fl C0 I0 rfl⟩) fun j hj e hs => ⟨_, rfl, fun _ => ?_, fun z => absurd rfl z⟩⟩
  obtain ⟨kd, len, rfl, rfl, hk, hl, hl5⟩ := sp_sub_ix (by omega) hs
  have Q2 := q2 j kd len hj e rfl rfl hk hl hl5 hs
  have Q3 := q3 j kd len hj e rfl rfl hk hl hl5 hs
  subst e
  refine ⟨D.ob, m_readsRow D.1 I0.rows hin hl hl5 hk (fun hc M1 s1 rb1 g1 t1 e1 d1 A1 => ⟨_, rfl, fun z => absurd rfl z, fun _ => (Q2 hc).goR C0 I0 h9 g1 t1 d1 (fun j h12 _ => e1 j h12) A1⟩) fun hc M1 s1 rb1 g1 t1 e1 d1 A1 R1 => ⟨_, rfl, fun _ => ?_, fun z => absurd z (by decide)⟩⟩
  have D1 := D.row g1 d1
  have hS := rd_S_ok hk hc
  refine ⟨_, _, D1.1, rfl, _, _, D1.2.1, mo_in1, ?_⟩
  rw [W.at1]
  refine ⟨D1.ob, m_looks D1 W hO.1 hS R1 A1 (by omega) (Nat.le_refl _) fun M2 s2 g2 t2 e2 R2 L2 => ⟨rfl, ?_⟩⟩
  have D2 := D1.row g2 L2.1
  have Q := (Q3 hc).goR C0 I0 h9 (g1.trans g2) (t2.trans t1) L2.1 (fun j h12 h13 => (e2 j h13).trans (e1 j h12)) (L2.rows R2)
  have hr : ∀ i, i < ow_nl (rd_S kd b len) (o_ru O 0) → (mu_jl (rd_S kd b len) (o_ru O 0) (nI (o_ru O (7 + (rd_S kd b len).1))) (o_ru O 1) (o_ru O 2) (ow_co O j (o_wk O)) i).2.2.2.2.1 ≤ 3 := fun i hi => (mu_jl_ok hi).2.2.1
  rw [mo_jw1] at Q
  exact ⟨D2.ob, m_rowCounting L2 hr ⟨_, rfl, Q⟩⟩

theorem m_wouldPay {x y z : Int32} (I : mo_I M O hn h sv isS er ea n b l s rb) (hO : ow_Ok2 O) (q0 : (∀ j, j < o_nw O → x ≠ nI j) → mo_K M O hn h sv isS er ea n b l 1 (Qr (some (.int 0)))) (q1 : ∀ j, j < o_nw O → x = nI j → sp_sub n y z = false → mo_K M O hn h sv isS er ea n b l 2 (Qr (some (.int 0)))) (q2 : ∀ j kd len, j < o_nw O → x = nI j → y = nI kd → z = nI len → kd ≤ 2 → len ≤ n → len ≤ 500 → sp_sub n y z = true → rd_can kd b len = false → mo_K M O hn h sv isS er ea n b l 0 (Qr (some (.int 0)))) (q3 : ∀ j kd len, j < o_nw O → x = nI j → y = nI kd → z = nI len → kd ≤ 2 → len ≤ n → len ≤ 500 → sp_sub n y z = true → rd_can kd b len = true → mo_K M O hn h sv isS er ea n b l 0 (Qr (some (.int (ow_wp (ow_jw O j (rd_S kd b len) (o_ru O) (o_wk O)) - nI (o_ru O 3) * nI (ow_wl 2 (ow_jw O j (rd_S kd b len) (o_ru O) (o_wk O)))))))) : kz_C G (d + 7) 0 0 mX12_wouldPay [.ref 99, .int x, .int y, .int z] M Qr Qx := by
  have I0 := I.th' 0
  have C0 := I.cf 0
  have h9 : upd s 9 0 9 = nI 0 := rfl
  refine rX12_wouldPay_0 ⟨_, I.1, ow_l rfl, ?_⟩
  generalize kz_up M 99 (.inl (11, (mo_fs s rb).set 9 (.int 0))) = M0 at I0 C0 ⊢
  generalize upd s 9 0 = s0 at I0 h9
  obtain ⟨f, g, D, W⟩ := I0.D
  obtain ⟨hn6, hin⟩ := I0.inp
  have hwk := hO.1.1.2.2.2.1
  have hnw := hO.1.1.2.2.1
  refine ⟨D.ob, m_noReading I0 D W hO.1 (fun hx => ⟨_, rfl, fun _ => (q0 hx).fl C0 I0 rfl, fun z => absurd z (by decide)⟩) (fun j hj e hs => ⟨_, rfl, fun _ => (q1 j hj e hs).fl C0 I0 rfl, fun z => absurd z (by decide)⟩) fun j hj e hs => ⟨_, rfl, fun z => absurd rfl z, fun _ => ?_⟩⟩
  obtain ⟨kd, len, rfl, rfl, hk, hl, hl5⟩ := sp_sub_ix (by omega) hs
  have Q2 := q2 j kd len hj e rfl rfl hk hl hl5 hs
  have Q3 := q3 j kd len hj e rfl rfl hk hl hl5 hs
  subst e
  refine ⟨D.ob, m_readsRow D.1 I0.rows hin hl hl5 hk (fun hc M1 s1 rb1 g1 t1 e1 d1 A1 => ⟨_, rfl, fun z => absurd rfl z, fun _ => (Q2 hc).goR C0 I0 h9 g1 t1 d1 (fun j h12 _ => e1 j h12) A1⟩) fun hc M1 s1 rb1 g1 t1 e1 d1 A1 R1 => ⟨_, rfl, fun _ => ?_, fun z => absurd z (by decide)⟩⟩
  have D1 := D.row g1 d1
  have hS := rd_S_ok hk hc
  refine ⟨_, _, D1.1, rfl, _, _, D1.2.1, mo_in1, ?_⟩
  rw [W.at1]
  refine ⟨D1.ob, m_looks D1 W hO.1 hS R1 A1 (by omega) (Nat.le_refl _) fun M2 s2 g2 t2 e2 R2 L2 => ⟨rfl, ?_⟩⟩
  have D2 := D1.row g2 L2.1
  have Q := (Q3 hc).goR C0 I0 h9 (g1.trans g2) (t2.trans t1) L2.1 (fun j h12 h13 => (e2 j h13).trans (e1 j h12)) (L2.rows R2)
  have hr : ∀ i, i < ow_nl (rd_S kd b len) (o_ru O 0) → (mu_jl (rd_S kd b len) (o_ru O 0) (nI (o_ru O (7 + (rd_S kd b len).1))) (o_ru O 1) (o_ru O 2) (ow_co O j (o_wk O)) i).2.2.2.2.1 ≤ 3 := fun i hi => (mu_jl_ok hi).2.2.1
  rw [mo_jwp, mo_jw2] at Q
  exact ⟨D2.ob, m_rowPays L2 hr ⟨_, rfl, D2.ob, m_rowFines D2 W L2 hr ⟨_, rfl, Q⟩⟩⟩

theorem m_countsIf {x y z : Int32} (I : mo_I M O hn h sv isS er ea n b l s rb) (hO : ow_Ok2 O) (q0 : (∀ j, j < o_wk O → x ≠ nI j) → mo_K M O hn h sv isS er ea n b l 1 (Qr (some (.int 0)))) (q1 : ∀ j, j < o_wk O → x = nI j → sp_val y z = false → mo_K M O hn h sv isS er ea n b l 2 (Qr (some (.int 0)))) (q2 : ∀ j k m, j < o_wk O → x = nI j → k < 10 → y = nI k → z = nI m → ow_lo k ≤ m → m ≤ ow_hi k → sp_val y z = true → mo_K M O hn h sv isS er ea n b l 0 (Qr (some (.int (nI (ow_wl 1 (ow_jw O (o_ws O j).1 (o_ws O j).2.2.1 (ow_ru1 (o_ru O) k m) j))))))) : kz_C G (d + 7) 0 0 mX12_countsIf [.ref 99, .int x, .int y, .int z] M Qr Qx := by
  have I0 := I.th' 0
  have C0 := I.cf 0
  have h9 : upd s 9 0 9 = nI 0 := rfl
  refine rX12_countsIf_0 ⟨_, I.1, ow_l rfl, ?_⟩
  generalize kz_up M 99 (.inl (11, (mo_fs s rb).set 9 (.int 0))) = M0 at I0 C0 ⊢
  generalize upd s 9 0 = s0 at I0 h9
  obtain ⟨f, g, D, W⟩ := I0.D
  obtain ⟨hn6, hin⟩ := I0.inp
  have hwk := hO.1.1.2.2.2.1
  have hnw := hO.1.1.2.2.1
  refine ⟨D.ob, m_noWork D W hO.1 (fun hx => ⟨_, rfl, fun _ => (q0 hx).fl C0 I0 rfl, fun z => absurd z (by decide)⟩) fun j hj e => ⟨_, rfl, fun z => absurd rfl z, fun _ => m_mayBe ⟨_, rfl, ow_ifn (fun hv => ⟨D.ob, m_fails0 ⟨_, rfl, fun _ => ?_, fun z => absurd rfl z⟩⟩) (fun hv => ⟨D.ob, m_fails1 D.1 ⟨_, rfl, fun z => absurd z (by decide), fun _ => (q1 j hj e hv).fl C0 I0 rfl⟩⟩)⟩⟩⟩
  obtain ⟨k, hk, rfl⟩ := sp_val_ix hv
  obtain ⟨m, rfl, h1, h2⟩ := sp_val_me hk hv
  have hm99 := ow_hi_le k hk
  have Q2 := q2 j k m hj e hk rfl rfl h1 h2 hv
  subst e
  have hwj := hO.1.2.2.2 j hj
  have hS := hwj.1
  have hw6 := hwj.2.2.1
  have hX : ow_Ok1 (o_rule O k m) := hO.1.rule (by omega)
  have WX := W.rule (m := m) hO.1 hk
  refine ⟨D.ob, m_its D hk (W.ru hk) ⟨_, rfl, D.ob, m_sets D hk fun M1 g1 t1 D1 => ⟨rfl, ?_⟩⟩⟩
  have A1 : mo_rows M1 := by
    obtain ⟨⟨g5, b1⟩, ⟨f6, b2⟩, ⟨f7, b3⟩, ⟨f8, b4⟩, f9, b5⟩ := I0.rows
    exact ⟨⟨g5, (g1 107 (by omega)).trans b1⟩, ⟨f6, (g1 108 (by omega)).trans b2⟩, ⟨f7, (g1 109 (by omega)).trans b3⟩, ⟨f8, (g1 110 (by omega)).trans b4⟩, f9, (g1 111 (by omega)).trans b5⟩
  refine ⟨D1.ob, m_takes (O := o_rule O k m) D1 WX hX hj A1 fun M2 s2 rb2 g2 t2 e2 D2 R2 A2 => ⟨rfl, D2.ob, m_of (k := 1) D2 (by omega) (by omega) (WX.ww hj).2.1 ⟨_, rfl, D2.ob, m_of (k := 0) D2 (by omega) (by omega) (WX.ww hj).1 ⟨_, rfl, D2.ob, m_looks (S := (o_ws O j).2.2.1) (v := (o_ws O j).1) (e := j) (O := o_rule O k m) D2 WX hX hS R2 A2 (by omega) (Nat.le_of_lt hj) fun M3 s3 g3 t3 e3 R3 L3 => ⟨rfl, ?_⟩⟩⟩⟩⟩
  have D3 := D2.row g3 L3.1
  refine ⟨D3.ob, m_sets D3 hk fun M4 g4 t4 D4 => ⟨rfl, ?_⟩⟩
  have L4 : mo_L M4 s3 rb2 (ow_nl (o_ws O j).2.2.1 (o_ru (o_rule O k m) 0)) (mu_jl (o_ws O j).2.2.1 (o_ru (o_rule O k m) 0) (nI (o_ru (o_rule O k m) (7 + (o_ws O j).2.2.1.1))) (o_ru (o_rule O k m) 1) (o_ru (o_rule O k m) 2) (ow_co (o_rule O k m) (o_ws O j).1 j)) := L3.mv fun a ha => g4 a (by omega)
  have R4 : mo_row M4 (o_ws O j).2.2.1 s3 rb2 := R3.mv fun a ha => g4 a (by omega)
  have hf : upd (upd f (5 + k) (nI m)) (5 + k) (nI (o_ru O k)) = f := by
    funext i
    show (if i = 5 + k then nI (o_ru O k) else if i = 5 + k then nI m else f i) = f i
    by_cases h : i = 5 + k
    · rw [if_pos h, h, W.ru hk]
    · rw [if_neg h, if_neg h]
  rw [hf] at D4
  have G : ow_Sm mo_inR M0 M4 := fun i hi => by
    by_cases h : i = 100
    · rw [h, D4.2.1, D.2.1]
    · exact (g4 i h).trans ((g3 i hi).trans ((g2 i hi).trans (g1 i h)))
  refine ⟨D4.ob, m_rowCounting L4 (fun i hi => (mu_jl_ok hi).2.2.1) ⟨_, rfl, ?_⟩⟩
  rw [ow_co_rule]
  rw [mo_jw1] at Q2
  exact Q2.goR C0 I0 h9 G (t4.trans (t3.trans (t2.trans t1))) D4.1 (fun j h12 h13 => (e3 j h13).trans (e2 j h12)) (L4.rows R4)

theorem m_uses {x : Int32} (I : mo_I M O hn h sv isS er ea n b l s rb) (hO : ow_Ok2 O) (q0 : (∀ j, j < o_nw O → x ≠ nI j) → mo_K M O hn h sv isS er ea n b l 1 (Qr (some (.int 0)))) (q1 : ∀ j, j < o_nw O → x = nI j → mo_K M O hn h sv isS er ea 0 b l 0 (Qr (some (.int (nI (sp_uses O j (ow_ww n b))))))) : kz_C G (d + 5) 0 0 mX12_uses [.ref 99, .int x] M Qr Qx := by
  have I0 := I.th' 0
  have C0 := I.cf 0
  have h9 : upd s 9 0 9 = nI 0 := rfl
  refine rX12_uses_0 ⟨_, I.1, ow_l rfl, ?_⟩
  generalize kz_up M 99 (.inl (11, (mo_fs s rb).set 9 (.int 0))) = M0 at I0 C0 ⊢
  generalize upd s 9 0 = s0 at I0 h9
  obtain ⟨f, g, D, W⟩ := I0.D
  obtain ⟨hn6, hin⟩ := I0.inp
  have hwk := hO.1.1.2.2.2.1
  have hnw := hO.1.1.2.2.1
  refine ⟨D.ob, m_noWriter D W hO.1 (fun hx => ⟨_, rfl, fun z => absurd z (by decide), fun _ => (q0 hx).fl C0 I0 rfl⟩) fun j hj e => ⟨_, rfl, fun _ => ?_, fun z => absurd rfl z⟩⟩
  have Q1 := q1 j hj e
  subst e
  refine ⟨_, _, D.1, rfl, _, D.1, ow_l rfl, ?_⟩
  have I1 : mo_I (kz_up M0 99 (.inl (11, mo_fs (upd s0 19 0) rb))) O hn h sv isS er ea 0 b l (upd s0 19 0) rb := by
    obtain ⟨i1, ⟨i2, i3, i4, i5, i6, i7⟩, i8⟩ := I0
    refine ⟨kz_up_same _ _ _, ⟨i2, i3, rfl, i5, i6, i7⟩, ?_⟩
    obtain ⟨k1, k2, k3, k4, k5, ⟨f10, c1, c2⟩, k7⟩ := i8.up (e := .inl (11, mo_fs (upd s0 19 0) rb))
    exact ⟨k1, k2, k3, k4, k5, ⟨f10, c1, Nat.zero_le _, fun i hi => absurd hi (Nat.not_lt_zero i)⟩, k7⟩
  have Q := Q1.go (C0.up (e := .inl (11, mo_fs (upd s0 19 0) rb)) (a := 99) (by omega) (by omega)) I1 h9
  have D1 : mo_D (kz_up M0 99 (.inl (11, mo_fs (upd s0 19 0) rb))) (upd s0 19 0) rb f g := D.up
  have hin1 : ∃ f, (kz_up M0 99 (.inl (11, mo_fs (upd s0 19 0) rb))).1 112 = some (.inr (.int, 600, .inl f)) ∧ ∀ i, i < n → f i = nI (b i) ∧ b i < 256 := by
    obtain ⟨f, h1, h2⟩ := hin
    exact ⟨f, (kz_up_ne (by omega)).trans h1, h2⟩
  show kz_C G _ 0 0 mX12_inRange _ (kz_up M0 99 (.inl (11, mo_fs (upd s0 19 0) rb))) _ _
  generalize kz_up M0 99 (.inl (11, mo_fs (upd s0 19 0) rb)) = M1 at Q D1 hin1 ⊢
  generalize upd s0 19 0 = s1 at D1
  obtain ⟨fi, hi1, hi2⟩ := hin1
  rw [I0.2.1.2.2.1]
  have sm : sp_uses O j 0 = 0 := if_pos rfl
  refine m_in rfl ⟨_, rfl, ow_ifn (fun e => ?_) (fun e => ?_)⟩
  · have hr : 1 ≤ n ∧ n ≤ 12 := by
      simp only [Bool.and_eq_true, Bool.not_eq_true', decide_eq_false_iff_not] at e
      exact ⟨Nat.not_lt.mp fun z => e.1 (nI_lt (b := 1) z (by omega)), Nat.not_lt.mp fun z => e.2 (nI_lt (a := 12) z (by omega))⟩
    have key : ∀ i, i ≤ n → (∀ j, j < i → rd_L (b j) = true) → zX12_uses_42 G d Qr Qx 99 (nI j) (nI n) (lN (ow_nm b 0 i)) (nI i) M1 := by
      refine ow_loop n ?_ ?_
      · intro hall
        have hal : ow_al b n = true := by
          unfold ow_al
          rw [ow_ex_f.mpr fun i hi => ?_]
          · rfl
          · have := hall i hi
            unfold rd_L at this
            rw [this]; rfl
        have hww : ow_ww n b = ow_nm b 0 n := by
          unfold ow_ww
          rw [if_pos hr.2, if_pos hal]
        have hpos : ow_nm b 0 n ≠ 0 := by
          obtain ⟨m, rfl⟩ : ∃ m, n = m + 1 := ⟨n - 1, by omega⟩
          have := hall m (by omega)
          unfold rd_L at this
          simp only [Bool.and_eq_true, decide_eq_true_eq] at this
          rw [ow_nm]; omega
        rw [hww, sp_uses, if_neg hpos, ← mu_uses_lines] at Q
        refine rX12_uses_42 (ow_y (nI_le (Nat.le_refl _) (by omega)) ⟨_, _, D1.1, rfl, _, _, D1.2.1, mo_in1, ?_⟩)
        rw [W.at1]
        exact ⟨D1.ob, m_usesOf D1 W hO.1 (by omega) (Nat.le_refl _) ⟨_, rfl, Q⟩⟩
      · intro i hi ih hall
        obtain ⟨hb, hb2⟩ := hi2 i hi
        refine rX12_uses_42 (ow_n (nI_ge hi (by omega)) ⟨_, _, D1.1, rfl, _, _, hi1, vp_in_nI (by omega) (by omega), ?_⟩)
        rw [nI_clamp (by omega), hb]
        refine m_isLetter hb2 ⟨_, rfl, ow_ifn (fun hz => ⟨_, _, D1.1, rfl, _, _, hi1, vp_in_nI (by omega) (by omega), ?_⟩) (fun hz => ?_)⟩
        · rw [hb]
          have hbl : 97 ≤ b i ∧ b i ≤ 122 := by
            unfold rd_L at hz
            simpa using hz
          have hlt := ow_nm_lt (b := b) (k := i) fun k hk => by
            have := hall k hk
            unfold rd_L at this
            simp only [Bool.and_eq_true, decide_eq_true_eq] at this
            exact this.2
          have h55 : ow_nm b 0 i < 2 ^ 55 := Nat.lt_of_lt_of_le hlt (Nat.pow_le_pow_right (by omega) (by omega))
          rw [mo_wl h55 hbl.1 hbl.2, nI_1]
          exact ih fun k hk => by
            rcases Nat.lt_or_ge k i with h | h
            · exact hall k h
            · have : k = i := by omega
              subst this; exact hz
        · have hal : ow_al b n = false := by
            unfold ow_al
            rw [ow_ex_iff.mpr ⟨i, hi, ?_⟩]
            · rfl
            · unfold rd_L at hz
              rw [hz]; rfl
          have hww : ow_ww n b = 0 := by
            unfold ow_ww
            rw [if_pos hr.2, hal]; rfl
          rw [hww, sm] at Q
          exact Q
    exact key 0 (Nat.zero_le _) fun i hi => absurd hi (Nat.not_lt_zero i)
  · have hww : ow_ww n b = 0 := by
      rcases Nat.eq_zero_or_pos n with h0 | h0
      · subst h0
        unfold ow_ww
        rw [if_pos (by omega)]
        split <;> rfl
      · unfold ow_ww
        refine if_neg fun h12 => ?_
        rw [decide_eq_false (p := nI n < 1) (Int32.not_lt.mpr (nI_le (a := 1) h0 (by omega))), decide_eq_false (p := 12 < nI n) (Int32.not_lt.mpr (nI_le (b := 12) h12 (by omega)))] at e
        cases e
    rw [hww, sm] at Q
    exact Q
end MOA
