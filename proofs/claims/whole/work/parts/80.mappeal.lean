/-! Part 80: the reference: submit, appeal, undo, what is saved, the input -/
theorem mo_W.wst {O : ow_O} {f : Nat → Int32} {g : Nat → Int64} {j k x : Nat} (W : mo_W O f g 0 0) (hO : ow_Ok1 O) (hj : j < o_wk O) (hk : k < (o_ws O j).2.2.2.1) : mo_W (o_repl O j (ow_wst (o_ws O j) k x)) (upd f (33 + 305 * j + 5 + 5 * k + 2) (nI x)) g 0 0 := by
  have z : ∀ j, 0 + j = j := Nat.zero_add
  have hnw := hO.1.2.2.1
  have hwk := hO.1.2.2.2.1
  have h60 := (hO.2.2.2 j hj).2.1
  have u : ∀ t, t ≠ 33 + 305 * j + 5 + 5 * k + 2 → upd f (33 + 305 * j + 5 + 5 * k + 2) (nI x) t = f t := fun t ht => if_neg ht
  refine ⟨⟨(u _ (by omega)).trans W.1.1, (u _ (by omega)).trans W.1.2.1, (u _ (by omega)).trans W.1.2.2.1, (u _ (by omega)).trans W.1.2.2.2.1, (u _ (by omega)).trans W.1.2.2.2.2⟩, fun i hi => ?_, fun i hi => ?_, fun v hv => ?_, fun i hi => ?_⟩
  · rw [z]; exact (u _ (by omega)).trans (W.ru hi)
  · have hi : i < o_nw O := hi
    rw [z, z, z]
    exact ⟨(u _ (by omega)).trans (W.nm hi), (u _ (by omega)).trans (W.ba hi), (u _ (by omega)).trans (W.pd hi)⟩
  · have hv : v < o_wk O := hv
    rw [z, z, z]
    show mo_w (if v = j then ow_wst (o_ws O j) k x else o_ws O v) _ _ _ _ _
    by_cases hz : v = j
    · subst hz
      rw [if_pos rfl]
      obtain ⟨a0, a1, a2, a3, a4, a5, a6, a7⟩ := W.ww hj
      refine ⟨(u _ (by omega)).trans a0, (u _ (by omega)).trans a1, (u _ (by omega)).trans a2, (u _ (by omega)).trans a3, (u _ (by omega)).trans a4, fun l hl => ?_, a6, a7⟩
      have hl : l < (o_ws O v).2.2.2.1 := hl
      obtain ⟨b0, b1, b2, b3, b4⟩ := a5 l hl
      by_cases hlk : l = k
      · subst hlk
        have e : (ow_wst (o_ws O v) l x).2.2.2.2 l = (((o_ws O v).2.2.2.2 l).1, ((o_ws O v).2.2.2.2 l).2.1, ((o_ws O v).2.2.2.2 l).2.2.1, ((o_ws O v).2.2.2.2 l).2.2.2.1, ((o_ws O v).2.2.2.2 l).2.2.2.2.1, x) := if_pos rfl
        rw [e]
        exact ⟨(u _ (by omega)).trans b0, (u _ (by omega)).trans b1, if_pos rfl, (u _ (by omega)).trans b3, (u _ (by omega)).trans b4⟩
      · have e : (ow_wst (o_ws O v) k x).2.2.2.2 l = (o_ws O v).2.2.2.2 l := if_neg hlk
        rw [e]
        exact ⟨(u _ (by omega)).trans b0, (u _ (by omega)).trans b1, (u _ (by omega)).trans b2, (u _ (by omega)).trans b3, (u _ (by omega)).trans b4⟩
    · rw [if_neg hz]
      exact (W.ww hv).cp (hO.2.2.2 v hv) (fun i hi => u _ (by omega)) (fun i hi => rfl)
  · rw [z]
    have hi : i < 4 * o_ne O := hi
    exact (u _ (by omega)).trans (W.le hi)
section MOA
variable {G : kz_G} {d : Nat} {Qr : Option Value → kz_M → Prop} {Qx : String → kz_M → Prop} {M : kz_M} {O : ow_O} {s : Nat → Int32} {rb : Int64} {hn : Nat} {h : Nat → ow_O} {sv : ow_O} {isS : Bool} {er : Nat} {ea : Int32} {n : Nat} {b : Nat → Nat} {l : List Nat} {f : Nat → Int32} {g : Nat → Int64}
theorem mo_I.n0 (I : mo_I M O hn h sv isS er ea n b l s rb) (m : Nat) (hm : m ≤ n) : mo_I (kz_up M 99 (.inl (11, mo_fs (upd s 19 (nI m)) rb))) O hn h sv isS er ea m b l (upd s 19 (nI m)) rb := by
  obtain ⟨i1, ⟨i2, i3, i4, i5, i6, i7⟩, i8⟩ := I
  refine ⟨kz_up_same _ _ _, ⟨i2, i3, rfl, i5, i6, i7⟩, ?_⟩
  obtain ⟨k1, k2, k3, k4, k5, ⟨f10, c1, c2, c3⟩, k7⟩ := i8.up (e := .inl (11, mo_fs (upd s 19 (nI m)) rb))
  exact ⟨k1, k2, k3, k4, k5, ⟨f10, c1, by omega, fun i hi => c3 i (by omega)⟩, k7⟩

theorem m_submit {x y z : Int32} (I : mo_I M O hn h sv isS er ea n b l s rb) (hO : ow_Ok2 O) (hh : ∀ i, i < hn → ow_Ok1 (h i)) (q0 : (∀ j, j < o_nw O → x ≠ nI j) → mo_K M O hn h sv isS er ea n b l 1 (Qr (some (.int 0)))) (q1 : ∀ j, j < o_nw O → x = nI j → sp_sub n y z = false → mo_K M O hn h sv isS er ea n b l 2 (Qr (some (.int 0)))) (q2 : ∀ j kd len, j < o_nw O → x = nI j → y = nI kd → z = nI len → kd ≤ 2 → len ≤ n → len ≤ 500 → sp_sub n y z = true → rd_can kd b len = false → mo_K M O hn h sv isS er ea 0 b l 0 (Qr (some (.int (-2))))) (q3 : ∀ j kd len, j < o_nw O → x = nI j → y = nI kd → z = nI len → kd ≤ 2 → len ≤ n → len ≤ 500 → sp_sub n y z = true → rd_can kd b len = true → 12 ≤ o_wk O → mo_K M O hn h sv isS er ea 0 b l 0 (Qr (some (.int (-3))))) (q4 : ∀ j kd len, j < o_nw O → x = nI j → y = nI kd → z = nI len → kd ≤ 2 → len ≤ n → len ≤ 500 → sp_sub n y z = true → rd_can kd b len = true → o_wk O < 12 → mo_K M (o_in O (ow_jw O j (rd_S kd b len) (o_ru O) (o_wk O))) (o_keep hn h O).1 (o_keep hn h O).2 sv isS er ea 0 b l 0 (Qr (some (.int (nI (o_wk O)))))) : kz_C G (d + 7) 0 0 mX12_submit [.ref 99, .int x, .int y, .int z] M Qr Qx := by
  have I0 := I.th' 0
  have C0 := I.cf 0
  have h9 : upd s 9 0 9 = nI 0 := rfl
  refine rX12_submit_0 ⟨_, I.1, ow_l rfl, ?_⟩
  generalize kz_up M 99 (.inl (11, (mo_fs s rb).set 9 (.int 0))) = M0 at I0 C0 ⊢
  generalize upd s 9 0 = s0 at I0 h9
  obtain ⟨f, g, D, W⟩ := I0.D
  have hwk := hO.1.1.2.2.2.1
  have hnw := hO.1.1.2.2.1
  have hO1 := hO.1
  obtain ⟨hn6, hin⟩ := I0.inp
  refine ⟨D.ob, m_noReading I0 D W hO1 (fun hx => ⟨_, rfl, fun z => absurd z (by decide), fun _ => (q0 hx).fl C0 I0 rfl⟩) (fun j hj e hs => ⟨_, rfl, fun z => absurd z (by decide), fun _ => (q1 j hj e hs).fl C0 I0 rfl⟩) fun j hj e hs => ⟨_, rfl, fun _ => ?_, fun z => absurd rfl z⟩⟩
  obtain ⟨kd, len, rfl, rfl, hk, hl, hl5⟩ := sp_sub_ix (by omega) hs
  have Q2 := q2 j kd len hj e rfl rfl hk hl hl5 hs
  have Q3 := q3 j kd len hj e rfl rfl hk hl hl5 hs
  have Q4 := q4 j kd len hj e rfl rfl hk hl hl5 hs
  subst e
  refine ⟨D.ob, m_readsRow D.1 I0.rows hin hl hl5 hk (fun hc M1 s1 rb1 g1 t1 e1 d1 A1 => ⟨_, rfl, _, d1, ow_l rfl, fun z => absurd rfl z, fun _ => ?_⟩) fun hc M1 s1 rb1 g1 t1 e1 d1 A1 R1 => ⟨_, rfl, _, d1, ow_l rfl, fun _ => ?_, fun z => absurd z (by decide)⟩⟩
  · have I1 := I0.row g1 d1 (fun j h12 _ => e1 j h12) A1
    exact (Q2 hc) _ _ _ ((C0.sm g1 t1).up (a := 99) (by omega) (by omega)) (I1.n0 0 (Nat.zero_le _)) ((e1 9 (by omega)).trans h9)
  · have I1 := I0.row g1 d1 (fun j h12 _ => e1 j h12) A1
    have I2 := I1.n0 0 (Nat.zero_le _)
    have C2 := (C0.sm g1 t1).up (a := 99) (e := .inl (11, mo_fs (upd s1 19 (nI 0)) rb1)) (by omega) (by omega)
    have D2 := (D.row g1 d1).up (s' := upd s1 19 (nI 0)) (rb' := rb1)
    have h92 : upd s1 19 (nI 0) 9 = nI 0 := (e1 9 (by omega)).trans h9
    have y12 : upd s1 19 (nI 0) 12 = nI (rd_S kd b len).2.1 := R1.1
    have y107 : (kz_up M1 99 (.inl (11, mo_fs (upd s1 19 (nI 0)) rb1))).1 107 = M1.1 107 := kz_up_ne (by omega)
    have y2 := kz_up_2 M1 99 (.inl (11, mo_fs (upd s1 19 (nI 0)) rb1))
    have I2 : mo_I (kz_up M1 99 (.inl (11, (mo_fs s1 rb1).set 19 (.int 0)))) O hn h sv isS er ea 0 b l (upd s1 19 (nI 0)) rb1 := I2
    have C2 : mo_Cf M (kz_up M1 99 (.inl (11, (mo_fs s1 rb1).set 19 (.int 0)))) := C2
    have D2 : mo_D (kz_up M1 99 (.inl (11, (mo_fs s1 rb1).set 19 (.int 0)))) (upd s1 19 (nI 0)) rb1 f g := D2
    have y107 : (kz_up M1 99 (.inl (11, (mo_fs s1 rb1).set 19 (.int 0)))).1 107 = M1.1 107 := y107
    generalize kz_up M1 99 (.inl (11, (mo_fs s1 rb1).set 19 (.int 0))) = M2 at I2 C2 D2 y107 ⊢
    generalize upd s1 19 (nI 0) = s2 at I2 D2 h92 y12
    have hS := rd_S_ok hk hc
    refine ⟨_, _, D2.1, rfl, _, _, D2.2.1, mo_in1, ?_⟩
    rw [W.at1]
    refine ⟨fun z => ?_, fun z => ?_⟩
    · have hlt : o_wk O < 12 := by
        have : o_wk O ≠ 12 := fun e => z (by rw [e]; rfl)
        omega
      refine ⟨D2.ob, m_remembers I2 D2 W hO1 hh fun M3 s3 S3 t3 e3 I3 D3 => ⟨rfl, ?_⟩⟩
      have R3 : mo_row M3 (rd_S kd b len) s3 rb1 := by
        obtain ⟨r1, r2, r3, r4, r5⟩ := R1
        exact ⟨(e3 12 (by omega)).trans y12, r2, r3, (S3 107 (by omega)).trans (y107.trans r4), r5⟩
      refine ⟨D3.ob, m_looks D3 W hO1 hS R3 I3.rows (by omega) (Nat.le_refl _) fun M4 s4 g4 t4 e4 R4 L4 => ⟨rfl, ?_⟩⟩
      have D4 := D3.row g4 L4.1
      have I4 := I3.row g4 L4.1 (fun j _ h13 => e4 j h13) (L4.rows R4)
      have hr : ∀ i, i < ow_nl (rd_S kd b len) (o_ru O 0) → (mu_jl (rd_S kd b len) (o_ru O 0) (nI (o_ru O (7 + (rd_S kd b len).1))) (o_ru O 1) (o_ru O 2) (ow_co O j (o_wk O)) i).2.2.2.2.1 ≤ 3 := fun i hi => (mu_jl_ok hi).2.2.1
      have hW := ow_jw_ok (O := O) (v := j) (e := o_wk O) (ru := o_ru O) hS (by omega) hO1.1.1
      refine ⟨D4.ob, m_keepsRow (w := ow_jw O j (rd_S kd b len) (o_ru O) (o_wk O)) D4 W hO1 hlt hW rfl (fun i _ => rfl) R4 L4 fun M5 f5 g5 S5 t5 D5 W5 => ⟨rfl, ?_⟩⟩
      have I5 := I4.now S5 D5 W5
      have L5 := L4.mv (M1 := M5) (fun a ha => S5 a (by omega))
      have P1 := mo_jwp O j (rd_S kd b len) (o_ru O) (o_wk O)
      have P2 := mo_jw2 O j (rd_S kd b len) (o_ru O) (o_wk O)
      refine ⟨D5.ob, m_rowPays L5 hr ⟨_, rfl, ?_⟩⟩
      rw [← P1]
      have hv5 : j < o_nw (o_more O (ow_jw O j (rd_S kd b len) (o_ru O) (o_wk O))) := hj
      have O5 := hO1.more hlt hW
      refine ⟨D5.ob, m_books D5 W5 O5 hv5 fun M6 f6 S6 t6 D6 W6 => ⟨rfl, ?_⟩⟩
      have I6 := I5.now (fun z hz => S6 z (by omega)) D6 W6
      have L6 := L5.mv (M1 := M6) (fun a ha => S6 a (by omega))
      refine ⟨D6.ob, m_rowFines D6 W6 L6 hr ⟨_, rfl, ?_⟩⟩
      rw [o_book_ru, ← P2]
      have hv6 := hv5
      rw [← o_book_nw (v := j) (kd := 0) (am := ow_wp (ow_jw O j (rd_S kd b len) (o_ru O) (o_wk O)))] at hv6
      refine ⟨D6.ob, m_books D6 W6 O5.book hv6 fun M7 f7 S7 t7 D7 W7 => ⟨rfl, ?_⟩⟩
      have I7 := I6.now (fun z hz => S7 z (by omega)) D7 W7
      exact (Q4 hc hlt) _ _ _ (((((C2.sm2 S3 t3 (fun z hz => by omega)).sm g4 t4).sm2 S5 t5 (fun z hz => by omega)).sm2 S6 t6 (fun z hz => by omega)).sm2 S7 t7 (fun z hz => by omega)) I7 ((e4 9 (by omega)).trans ((e3 9 (by omega)).trans h92))
    · have h12 : o_wk O = 12 := (nI_eq (b := 12) (by omega) (by omega)).mp z
      exact (Q3 hc (by omega)) _ _ _ C2 I2 h92

theorem m_decides {v k : Nat} (D : mo_D M s rb f g) (W : mo_W O f g 0 0) (hO : ow_Ok1 O) (hOw : ow_Ow O) (hv : v < o_wk O) (hk : k < (o_ws O v).2.2.2.1) (q0 : sp_gr O (o_ws O v) ((o_ws O v).2.2.2.2 k) = false → ∀ M1 f1, ow_Sm (· = 100) M M1 → M1.2 = M.2 → mo_D M1 s rb f1 g → mo_W (o_lose O v k) f1 g 0 0 → Qr (some (.int 0)) M1) (q1 : sp_gr O (o_ws O v) ((o_ws O v).2.2.2.2 k) = true → ∀ M1 f1, ow_Sm (· = 100) M M1 → M1.2 = M.2 → mo_D M1 s rb f1 g → mo_W (o_gain O v k) f1 g 0 0 → Qr (some (.int 1)) M1) : kz_C G (d + 5) 0 0 mX12_decides [.ref 99, .int (nI v), .int (nI k), .int (nI (o_ws O v).1)] M Qr Qx := by
  have hwk := hO.1.2.2.2.1
  have hwv := hO.2.2.2 v hv
  have h60 := hwv.2.1
  have x2 : (((33 : Int32) + 305 * nI v) + 5 + 5 * nI k) + 2 = nI (33 + 305 * v + 5 + 5 * k + 2) := mo_ixl v k 2
  have hw := hOw v hv
  refine rX12_decides_0 ⟨D.ob, m_isVaried D W hO hv hk ⟨_, rfl, ow_if0 (fun hg => ⟨_, _, D.1, rfl, D.ob, rX12_lineAt_0 ⟨_, rfl, _, _, D.2.1, ?_⟩⟩) (fun hg => ⟨_, _, D.1, rfl, D.ob, rX12_lineAt_0 ⟨_, rfl, _, _, D.2.1, ?_⟩⟩)⟩⟩
  · rw [x2, nI_clamp (n := 33 + 305 * v + 5 + 5 * k + 2) (by omega)]
    have W1 := W.wst (x := 3) hO hv hk
    have O1 : ow_Ok1 (o_repl O v (ow_wst (o_ws O v) k 3)) := hO.repl (hwv.wst hk (by omega))
    refine ⟨vp_in_nI (by omega) (by omega), D.w.ob, m_its (k := 6) D.w (by omega) (W1.ru (i := 6) (by omega)) ⟨_, rfl, D.w.ob, m_books (O := o_repl O v (ow_wst (o_ws O v) k 3)) D.w W1 O1 hw fun M1 f1 S1 t1 D1 W2 => ⟨rfl, q0 hg M1 f1 (fun z hz => (S1 z hz).trans (kz_up_ne hz)) t1 D1 W2⟩⟩⟩
  · rw [x2, nI_clamp (n := 33 + 305 * v + 5 + 5 * k + 2) (by omega)]
    have W1 := W.wst (x := 2) hO hv hk
    have O1 : ow_Ok1 (o_repl O v (ow_wst (o_ws O v) k 2)) := hO.repl (hwv.wst hk (by omega))
    have e4 : upd f (33 + 305 * v + 5 + 5 * k + 2) (nI 2) (33 + 305 * v + 5 + 5 * k + 4) = ((o_ws O v).2.2.2.2 k).2.2.2.1 := (if_neg (by omega)).trans (W.ln hv hk).2.2.2.2
    refine ⟨vp_in_nI (by omega) (by omega), D.w.ob, m_ofL (k := 4) D.w (by omega) (by omega) (by omega) e4 ⟨_, rfl, D.w.ob, m_its (k := 3) D.w (by omega) (W1.ru (i := 3) (by omega)) ⟨_, rfl, D.w.ob, m_books (O := o_repl O v (ow_wst (o_ws O v) k 2)) D.w W1 O1 hw fun M1 f1 S1 t1 D1 W2 => ⟨rfl, q1 hg M1 f1 (fun z hz => (S1 z hz).trans (kz_up_ne hz)) t1 D1 W2⟩⟩⟩⟩

theorem m_appeal {x y : Int32} (I : mo_I M O hn h sv isS er ea n b l s rb) (hO : ow_Ok2 O) (hh : ∀ i, i < hn → ow_Ok1 (h i)) (q0 : (∀ j k, j < o_wk O → k < (o_ws O j).2.2.2.1 → x = nI j → y = nI k → False) → mo_K M O hn h sv isS er ea n b l 1 (Qr (some (.int 0)))) (q1 : ∀ j k, j < o_wk O → x = nI j → k < (o_ws O j).2.2.2.1 → y = nI k → o_obj O (o_ws O j) ((o_ws O j).2.2.2.2 k) ≠ 0 → mo_K M O hn h sv isS er ea n b l 0 (Qr (some (.int (-(nI (o_obj O (o_ws O j) ((o_ws O j).2.2.2.2 k)))))))) (q2 : ∀ j k, j < o_wk O → x = nI j → k < (o_ws O j).2.2.2.1 → y = nI k → o_obj O (o_ws O j) ((o_ws O j).2.2.2.2 k) = 0 → sp_gr O (o_ws O j) ((o_ws O j).2.2.2.2 k) = false → mo_K M (o_lose O j k) (o_keep hn h O).1 (o_keep hn h O).2 sv isS er ea n b l 0 (Qr (some (.int 0)))) (q3 : ∀ j k, j < o_wk O → x = nI j → k < (o_ws O j).2.2.2.1 → y = nI k → o_obj O (o_ws O j) ((o_ws O j).2.2.2.2 k) = 0 → sp_gr O (o_ws O j) ((o_ws O j).2.2.2.2 k) = true → mo_K M (o_gain O j k) (o_keep hn h O).1 (o_keep hn h O).2 sv isS er ea n b l 0 (Qr (some (.int 1)))) : kz_C G (d + 6) 0 0 mX12_appeal [.ref 99, .int x, .int y] M Qr Qx := by
  have I0 := I.th' 0
  have C0 := I.cf 0
  have h9 : upd s 9 0 9 = nI 0 := rfl
  refine rX12_appeal_0 ⟨_, I.1, ow_l rfl, ?_⟩
  generalize kz_up M 99 (.inl (11, (mo_fs s rb).set 9 (.int 0))) = M0 at I0 C0 ⊢
  generalize upd s 9 0 = s0 at I0 h9
  obtain ⟨f, g, D, W⟩ := I0.D
  have hwk := hO.1.1.2.2.2.1
  have hnw := hO.1.1.2.2.1
  have hO1 := hO.1
  refine ⟨D.ob, m_noLine D W hO1 (fun hx => ⟨_, rfl, fun z => absurd z (by decide), fun _ => (q0 hx).fl C0 I0 rfl⟩) fun j k hj e hk ek => ⟨_, rfl, fun _ => ?_, fun z => absurd rfl z⟩⟩
  have Q1 := q1 j k hj e hk ek
  have Q2 := q2 j k hj e hk ek
  have Q3 := q3 j k hj e hk ek
  subst e
  subst ek
  have ho : o_obj O (o_ws O j) ((o_ws O j).2.2.2.2 k) < 2 ^ 31 := by
    unfold o_obj
    split
    · split
      · omega
      · split <;> omega
    · omega
  refine ⟨D.ob, m_against D W hO1 hj hk ⟨_, rfl, fun z => ?_, fun z => (Q1 fun e => z (by rw [e]; rfl)).go C0 I0 h9⟩⟩
  have hz : o_obj O (o_ws O j) ((o_ws O j).2.2.2.2 k) = 0 := (nI_eq (b := 0) ho (by omega)).mp z
  exact ⟨D.ob, m_remembers I0 D W hO1 hh fun M1 s1 S1 t1 e1 I1 D1 => ⟨rfl, D1.ob, m_of (k := 0) D1 (by omega) (by omega) (W.ww hj).1 ⟨_, rfl, D1.ob, m_decides D1 W hO1 hO.2.1 hj hk (fun hg M2 f2 S2 t2 D2 W2 => ⟨_, rfl, (Q2 hz hg).chg C0 S1 t1 I1 ((e1 9 (by omega)).trans h9) (fun z hz => S2 z (by omega)) t2 D2 W2⟩) (fun hg M2 f2 S2 t2 D2 W2 => ⟨_, rfl, (Q3 hz hg).chg C0 S1 t1 I1 ((e1 9 (by omega)).trans h9) (fun z hz => S2 z (by omega)) t2 D2 W2⟩)⟩⟩⟩
end MOA
