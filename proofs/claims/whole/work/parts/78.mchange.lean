/-! Part 78: the reference: days, money, rules, payments -/
theorem mo_rgT {x : Int32} {a b : Nat} (ha : a < 2 ^ 31) (hb : b < 2 ^ 31) (e : (!decide (x < nI a) && !decide (nI b < x)) = true) : ∃ m, a ≤ m ∧ m ≤ b ∧ x = nI m := by
  simp only [Bool.and_eq_true, Bool.not_eq_true', decide_eq_false_iff_not] at e
  obtain ⟨e1, e2⟩ := e
  have hn : ¬ x < 0 := by
    rw [Int32.lt_iff_toInt_lt, nI_toInt ha] at e1
    rw [Int32.lt_iff_toInt_lt]
    have e0 : (0 : Int32).toInt = 0 := by decide
    omega
  obtain ⟨m, hm, rfl⟩ := nI_of hn
  exact ⟨m, Nat.not_lt.mp fun z => e1 (nI_lt z ha), Nat.not_lt.mp fun z => e2 (nI_lt z hm), rfl⟩
theorem mo_rgF {x : Int32} {a b : Nat} (hb : b < 2 ^ 31) (e : (!decide (x < nI a) && !decide (nI b < x)) = false) : ∀ m, a ≤ m → m ≤ b → x ≠ nI m := fun m h1 h2 z => by
  subst z
  rw [decide_eq_false (nI_nlt h1 (by omega)), decide_eq_false (nI_nlt h2 (by omega))] at e
  cases e
theorem mo_W.day {O : ow_O} {f : Nat → Int32} {g : Nat → Int64} {m : Nat} (W : mo_W O f g 0 0) (hO : ow_Ok1 O) : mo_W (o_pass O m) (upd f 2 (nI (o_dy O + m))) g 0 0 := by
  have hnw := hO.1.2.2.1
  have u : ∀ j, j ≠ 2 → upd f 2 (nI (o_dy O + m)) j = f j := fun j hj => if_neg hj
  exact W.sc hO rfl rfl (fun j h1 h2 => u j (by omega)) ((u 0 (by omega)).trans W.1.1) ((u 1 (by omega)).trans W.1.2.1) (if_pos rfl) ((u 3 (by omega)).trans W.1.2.2.2.1) ((u 4 (by omega)).trans W.1.2.2.2.2) (fun i hi => (u _ (by omega)).trans (W.ru hi)) (fun i hi => ⟨(u _ (by omega)).trans (W.nm hi), (u _ (by omega)).trans (W.ba hi), (u _ (by omega)).trans (W.pd hi)⟩) fun i hi => (u _ (by omega)).trans (W.le hi)
theorem mo_W.mon {O : ow_O} {f : Nat → Int32} {g : Nat → Int64} {m : Nat} (W : mo_W O f g 0 0) (hO : ow_Ok1 O) : mo_W (o_money O m) (upd f 3 (nI m)) g 0 0 := by
  have hnw := hO.1.2.2.1
  have u : ∀ j, j ≠ 3 → upd f 3 (nI m) j = f j := fun j hj => if_neg hj
  exact W.sc hO rfl rfl (fun j h1 h2 => u j (by omega)) ((u 0 (by omega)).trans W.1.1) ((u 1 (by omega)).trans W.1.2.1) ((u 2 (by omega)).trans W.1.2.2.1) (if_pos rfl) ((u 4 (by omega)).trans W.1.2.2.2.2) (fun i hi => (u _ (by omega)).trans (W.ru hi)) (fun i hi => ⟨(u _ (by omega)).trans (W.nm hi), (u _ (by omega)).trans (W.ba hi), (u _ (by omega)).trans (W.pd hi)⟩) fun i hi => (u _ (by omega)).trans (W.le hi)
/-- money is handed over, before the entry -/
def o_hd (O : ow_O) (v am : Nat) : ow_O := (o_dy O, o_mo O - am, o_nw O, o_wk O, o_ru O, o_nm O, o_ba O, upd (o_pd O) v (o_pd O v + nI am), o_ws O, o_ne O, o_le O)
theorem o_hd_ok {O : ow_O} {v am : Nat} (hO : ow_Ok1 O) : ow_Ok1 (o_hd O v am) := ⟨⟨hO.1.1, Nat.le_trans (Nat.sub_le _ _) hO.1.2.1, hO.1.2.2.1, hO.1.2.2.2.1, hO.1.2.2.2.2⟩, hO.2.1, hO.2.2.1, hO.2.2.2⟩
theorem mo_W.hd {O : ow_O} {f : Nat → Int32} {g : Nat → Int64} {v am : Nat} (W : mo_W O f g 0 0) (hO : ow_Ok1 O) (hv : v < o_nw O) : mo_W (o_hd O v am) (upd (upd f 3 (nI (o_mo O - am))) (27 + v) (o_pd O v + nI am)) g 0 0 := by
  have hnw := hO.1.2.2.1
  have u : ∀ j, j ≠ 3 → j ≠ 27 + v → upd (upd f 3 (nI (o_mo O - am))) (27 + v) (o_pd O v + nI am) j = f j := fun j hj h2 => (if_neg h2).trans (if_neg hj)
  refine W.sc hO rfl rfl (fun j h1 h2 => u j (by omega) (by omega)) ((u 0 (by omega) (by omega)).trans W.1.1) ((u 1 (by omega) (by omega)).trans W.1.2.1) ((u 2 (by omega) (by omega)).trans W.1.2.2.1) ((if_neg (by omega)).trans (if_pos rfl)) ((u 4 (by omega) (by omega)).trans W.1.2.2.2.2) (fun i hi => (u _ (by omega) (by omega)).trans (W.ru hi)) (fun i hi => ?_) fun i hi => (u _ (by omega) (by omega)).trans (W.le hi)
  have hi : i < o_nw O := hi
  refine ⟨(u _ (by omega) (by omega)).trans (W.nm hi), (u _ (by omega) (by omega)).trans (W.ba hi), ?_⟩
  show (if 27 + i = 27 + v then o_pd O v + nI am else if 27 + i = 3 then nI (o_mo O - am) else f (27 + i)) = if i = v then o_pd O v + nI am else o_pd O i
  by_cases hz : i = v
  · rw [if_pos hz, if_pos (by omega)]
  · rw [if_neg hz, if_neg (by omega), if_neg (by omega)]
    exact W.pd hi
theorem sp_po_eqM {O : ow_O} (hm : o_mo O ≤ 99999) (v : Nat) : (if 0 < (if o_ba O v < nI (o_mo O) then o_ba O v else nI (o_mo O)) then (if o_ba O v < nI (o_mo O) then o_ba O v else nI (o_mo O)) else 0) = nI (sp_po O v) := by
  rw [← sp_po_eq hm v]
  have e : (if o_ba O v < nI (o_mo O) then o_ba O v else nI (o_mo O)) = (if nI (o_mo O) < o_ba O v then nI (o_mo O) else o_ba O v) := by
    by_cases h1 : o_ba O v < nI (o_mo O)
    · rw [if_pos h1, if_neg (fun z => ?_)]
      rw [Int32.lt_iff_toInt_lt] at h1 z
      omega
    · rw [if_neg h1]
      by_cases h2 : nI (o_mo O) < o_ba O v
      · rw [if_pos h2]
      · rw [if_neg h2]
        apply Int32.toInt_inj.mp
        rw [Int32.lt_iff_toInt_lt] at h1 h2
        omega
  rw [e]
theorem mo_Cf.sm2 {M M0 M1 : kz_M} {R : Nat → Prop} (C : mo_Cf M M0) (g : ow_Sm R M0 M1) (e : M1.2 = M0.2) (hR : ∀ z, R z → 99 ≤ z ∧ z < 114) : mo_Cf M M1 := ⟨fun k hk => (g k (fun z => by have := hR k z; omega)).trans (C.1 k hk), e.trans C.2⟩
section MOA
variable {G : kz_G} {d : Nat} {Qr : Option Value → kz_M → Prop} {Qx : String → kz_M → Prop} {M : kz_M} {O : ow_O} {s : Nat → Int32} {rb : Int64} {hn : Nat} {h : Nat → ow_O} {sv : ow_O} {isS : Bool} {er : Nat} {ea : Int32} {n : Nat} {b : Nat → Nat} {l : List Nat} {f : Nat → Int32} {g : Nat → Int64}
theorem mo_K.chg {O' : ow_O} {hn' : Nat} {h' : Nat → ow_O} {Q : kz_M → Prop} {M0 M1 M2 : kz_M} {s1 : Nat → Int32} {f' : Nat → Int32} {g' : Nat → Int64} (q : mo_K M O' hn' h' sv isS er ea n b l 0 Q) (C : mo_Cf M M0) (S1 : ow_Sm (fun z => z = 99 ∨ z = 103 ∨ z = 106) M0 M1) (t1 : M1.2 = M0.2) (I : mo_I M1 O hn' h' sv isS er ea n b l s1 rb) (e : s1 9 = nI 0) (S2 : ow_Sm (fun z => z = 100 ∨ z = 104) M1 M2) (t2 : M2.2 = M1.2) (D : mo_D M2 s1 rb f' g') (W : mo_W O' f' g' 0 0) : Q M2 := q _ _ _ ((C.sm2 S1 t1 (fun z hz => by omega)).sm2 S2 t2 (fun z hz => by omega)) (I.now S2 D W) e
theorem m_gives {v am : Nat} {kd : Int32} (D : mo_D M s rb f g) (W : mo_W O f g 0 0) (hO : ow_Ok1 O) (hv : v < o_nw O) (ham : am ≤ o_mo O) (q : ∀ M1 f1, ow_Sm (· = 100) M M1 → M1.2 = M.2 → mo_D M1 s rb f1 g → mo_W (o_hand O v kd am) f1 g 0 0 → Qr none M1) : kz_C G (d + 2) 0 0 mX12_gives [.ref 99, .int (nI v), .int kd, .int (nI am)] M Qr Qx := by
  have hnw := hO.1.2.2.1
  have iv : (27 : Int32) + nI v = nI (27 + v) := nI_add 27 v
  refine rX12_gives_0 ⟨_, _, D.1, rfl, _, _, D.2.1, mo_in3, _, _, D.2.1, mo_in3, ?_⟩
  rw [W.at3, show nI (o_mo O) - nI am = nI (o_mo O - am) from pk_sub ham, iv, nI_clamp (n := 27 + v) (by omega)]
  refine ⟨_, _, D.w.1, rfl, _, _, D.w.2.1, vp_in_nI (by omega) (by omega), _, _, D.w.2.1, vp_in_nI (by omega) (by omega), fun M1 e1 => ?_⟩
  have e27 : upd f (3 : Int32).toNatClampNeg (nI (o_mo O - am)) (27 + v) = o_pd O v := (if_neg (by show ¬ 27 + v = 3; omega)).trans (W.pd hv)
  rw [e27] at e1
  have D1 : mo_D M1 s rb (upd (upd f 3 (nI (o_mo O - am))) (27 + v) (o_pd O v + nI am)) g := e1 ▸ D.w.w
  have hv' : v < o_nw (o_hd O v am) := hv
  exact ⟨D1.ob, m_books (O := o_hd O v am) D1 (W.hd hO hv) (o_hd_ok hO) hv' fun M2 f2 S2 t2 D2 W2 => ⟨rfl, q M2 f2 (fun z hz => by rw [S2 z hz, e1, kz_up_ne hz, kz_up_ne hz]) (by rw [t2, e1]; rfl) D2 W2⟩⟩

theorem m_pass {x : Int32} (I : mo_I M O hn h sv isS er ea n b l s rb) (hO : ow_Ok2 O) (hh : ∀ i, i < hn → ow_Ok1 (h i)) (q0 : (∀ m, 1 ≤ m → m ≤ 99 → x ≠ nI m) → mo_K M O hn h sv isS er ea n b l 1 (Qr (some (.int 0)))) (q1 : ∀ m, 1 ≤ m → m ≤ 99 → x = nI m → 9999 < o_dy O + m → mo_K M O hn h sv isS er ea n b l 2 (Qr (some (.int 0)))) (q2 : ∀ m, 1 ≤ m → m ≤ 99 → x = nI m → o_dy O + m ≤ 9999 → mo_K M (o_pass O m) (o_keep hn h O).1 (o_keep hn h O).2 sv isS er ea n b l 0 (Qr (some (.int (nI (o_dy O + m)))))) : kz_C G (d + 2) 0 0 mX12_pass [.ref 99, .int x] M Qr Qx := by
  have I0 := I.th' 0
  have C0 := I.cf 0
  have h9 : upd s 9 0 9 = nI 0 := rfl
  refine rX12_pass_0 ⟨_, I.1, ow_l rfl, ?_⟩
  generalize kz_up M 99 (.inl (11, (mo_fs s rb).set 9 (.int 0))) = M0 at I0 C0 ⊢
  generalize upd s 9 0 = s0 at I0 h9
  obtain ⟨f, g, D, W⟩ := I0.D
  have hwk := hO.1.1.2.2.2.1
  have hnw := hO.1.1.2.2.1
  have hO1 := hO.1
  have hdy := hO1.1.1
  refine m_in rfl ⟨_, rfl, ow_ifn (fun e => ⟨D.ob, m_fails0 ⟨_, rfl, fun z => absurd rfl z, fun _ => ?_⟩⟩) (fun e => ⟨D.ob, m_fails1 D.1 ⟨_, rfl, fun _ => (q0 (mo_rgF (b := 99) (by omega) e)).fl C0 I0 rfl, fun z => absurd z (by decide)⟩⟩)⟩
  obtain ⟨m, h1, h2, rfl⟩ := mo_rgT (a := 1) (b := 99) (by omega) (by omega) e
  refine ⟨_, _, D.1, rfl, _, _, D.2.1, mo_in2, ?_⟩
  rw [W.at2, nI_add]
  refine pk_le (o_dy O + m) 9999 (fun hle => ⟨D.ob, m_fails0 ⟨_, rfl, fun _ => ⟨D.ob, m_remembers I0 D W hO1 hh fun M1 s1 S1 t1 e1 I1 D1 => ⟨rfl, ?_⟩⟩, fun z => absurd rfl z⟩⟩) (fun hgt => ⟨D.ob, m_fails1 D.1 ⟨_, rfl, fun z => absurd z (by decide), fun _ => (q1 m h1 h2 rfl hgt).fl C0 I0 rfl⟩⟩) rfl rfl
  refine ⟨_, _, D1.1, rfl, _, _, D1.2.1, mo_in2, _, _, D1.2.1, mo_in2, ?_⟩
  rw [W.at2, nI_add]
  refine ⟨_, _, D1.w.1, rfl, _, _, D1.w.2.1, mo_in2, ?_⟩
  rw [show upd f (2 : Int32).toNatClampNeg (nI (o_dy O + m)) (2 : Int32).toNatClampNeg = nI (o_dy O + m) from if_pos rfl]
  exact (q2 m h1 h2 rfl hle).chg C0 S1 t1 I1 ((e1 9 (by omega)).trans h9) (fun z hz => kz_up_ne (by omega)) rfl D1.w (W.day hO1)

theorem m_endow {x : Int32} (I : mo_I M O hn h sv isS er ea n b l s rb) (hO : ow_Ok2 O) (hh : ∀ i, i < hn → ow_Ok1 (h i)) (q0 : (∀ m, 1 ≤ m → m ≤ 9999 → x ≠ nI m) → mo_K M O hn h sv isS er ea n b l 1 (Qr (some (.int 0)))) (q2 : ∀ m, 1 ≤ m → m ≤ 9999 → x = nI m → mo_K M (o_endow O m) (o_keep hn h O).1 (o_keep hn h O).2 sv isS er ea n b l 0 (Qr (some (.int (nI (o_mo (o_endow O m))))))) : kz_C G (d + 2) 0 0 mX12_endow [.ref 99, .int x] M Qr Qx := by
  have I0 := I.th' 0
  have C0 := I.cf 0
  have h9 : upd s 9 0 9 = nI 0 := rfl
  refine rX12_endow_0 ⟨_, I.1, ow_l rfl, ?_⟩
  generalize kz_up M 99 (.inl (11, (mo_fs s rb).set 9 (.int 0))) = M0 at I0 C0 ⊢
  generalize upd s 9 0 = s0 at I0 h9
  obtain ⟨f, g, D, W⟩ := I0.D
  have hwk := hO.1.1.2.2.2.1
  have hnw := hO.1.1.2.2.1
  have hO1 := hO.1
  have hmo := hO1.1.2.1
  refine m_in rfl ⟨_, rfl, ow_ifn (fun e => ⟨D.ob, m_fails0 ⟨_, rfl, fun _ => ⟨D.ob, m_remembers I0 D W hO1 hh fun M1 s1 S1 t1 e1 I1 D1 => ⟨rfl, ?_⟩⟩, fun z => absurd rfl z⟩⟩) (fun e => ⟨D.ob, m_fails1 D.1 ⟨_, rfl, fun z => absurd z (by decide), fun _ => (q0 (mo_rgF (b := 9999) (by omega) e)).fl C0 I0 rfl⟩⟩)⟩
  obtain ⟨m, h1, h2, rfl⟩ := mo_rgT (a := 1) (b := 9999) (by omega) (by omega) e
  have em : (if nI (o_mo O + m) < 99999 then nI (o_mo O + m) else 99999) = nI (if o_mo O + m < 99999 then o_mo O + m else 99999) := by
    by_cases hz : o_mo O + m < 99999
    · have hl : nI (o_mo O + m) < 99999 := nI_lt (b := 99999) hz (by omega)
      rw [if_pos hz, if_pos hl]
    · have hl : ¬ nI (o_mo O + m) < 99999 := nI_nlt (b := 99999) (by omega) (by omega)
      rw [if_neg hz, if_neg hl]
      rfl
  refine ⟨_, _, D1.1, rfl, _, _, D1.1, rfl, _, _, D1.2.1, mo_in3, _, _, D1.2.1, mo_in3, fun M2 e2 => ?_⟩
  rw [W.at3, nI_add, em] at e2
  have D2 : mo_D M2 s1 rb (upd f 3 (nI (if o_mo O + m < 99999 then o_mo O + m else 99999))) g := e2 ▸ D1.w
  refine ⟨_, _, D2.1, rfl, _, _, D2.2.1, mo_in3, ?_⟩
  exact (q2 m h1 h2 rfl).chg C0 S1 t1 I1 ((e1 9 (by omega)).trans h9) (fun z hz => by rw [e2]; exact kz_up_ne (by omega)) (by rw [e2]; rfl) D2 (W.mon hO1)

theorem m_set {x y : Int32} (I : mo_I M O hn h sv isS er ea n b l s rb) (hO : ow_Ok2 O) (hh : ∀ i, i < hn → ow_Ok1 (h i)) (q0 : sp_val x y = false → mo_K M O hn h sv isS er ea n b l 1 (Qr (some (.int 0)))) (q1 : ∀ j m, j < 10 → x = nI j → y = nI m → ow_lo j ≤ m → m ≤ ow_hi j → sp_val x y = true → mo_K M (o_rule O j m) (o_keep hn h O).1 (o_keep hn h O).2 sv isS er ea n b l 0 (Qr (some (.int (nI (o_ru O j)))))) : kz_C G (d + 2) 0 0 mX12_set [.ref 99, .int x, .int y] M Qr Qx := by
  have I0 := I.th' 0
  have C0 := I.cf 0
  have h9 : upd s 9 0 9 = nI 0 := rfl
  refine rX12_set_0 ⟨_, I.1, ow_l rfl, ?_⟩
  generalize kz_up M 99 (.inl (11, (mo_fs s rb).set 9 (.int 0))) = M0 at I0 C0 ⊢
  generalize upd s 9 0 = s0 at I0 h9
  obtain ⟨f, g, D, W⟩ := I0.D
  have hwk := hO.1.1.2.2.2.1
  have hnw := hO.1.1.2.2.1
  have hO1 := hO.1
  refine m_mayBe ⟨_, rfl, ow_ifn (fun hv => ⟨D.ob, m_fails0 ⟨_, rfl, fun _ => ⟨D.ob, m_remembers I0 D W hO1 hh fun M1 s1 S1 t1 e1 I1 D1 => ⟨rfl, ?_⟩⟩, fun z => absurd rfl z⟩⟩) (fun hv => ⟨D.ob, m_fails1 D.1 ⟨_, rfl, fun z => absurd z (by decide), fun _ => (q0 hv).fl C0 I0 rfl⟩⟩)⟩
  obtain ⟨k, hk, rfl⟩ := sp_val_ix hv
  obtain ⟨m, rfl, h1, h2⟩ := sp_val_me hk hv
  exact ⟨D1.ob, m_its D1 hk (W.ru hk) ⟨_, rfl, D1.ob, m_sets D1 hk fun M2 S2 t2 D2 => ⟨rfl, (q1 k m hk rfl rfl h1 h2 hv).chg C0 S1 t1 I1 ((e1 9 (by omega)).trans h9) (fun z hz => S2 z (by omega)) t2 D2 (W.rule hO1 hk)⟩⟩⟩

theorem m_payOut {x : Int32} (I : mo_I M O hn h sv isS er ea n b l s rb) (hO : ow_Ok2 O) (hh : ∀ i, i < hn → ow_Ok1 (h i)) (q0 : (∀ j, j < o_nw O → x ≠ nI j) → mo_K M O hn h sv isS er ea n b l 1 (Qr (some (.int 0)))) (q1 : ∀ j, j < o_nw O → x = nI j → mo_K M (o_hand O j 4 (sp_po O j)) (o_keep hn h O).1 (o_keep hn h O).2 sv isS er ea n b l 0 (Qr (some (.int (nI (sp_po O j)))))) : kz_C G (d + 3) 0 0 mX12_payOut [.ref 99, .int x] M Qr Qx := by
  have I0 := I.th' 0
  have C0 := I.cf 0
  have h9 : upd s 9 0 9 = nI 0 := rfl
  refine rX12_payOut_0 ⟨_, I.1, ow_l rfl, ?_⟩
  generalize kz_up M 99 (.inl (11, (mo_fs s rb).set 9 (.int 0))) = M0 at I0 C0 ⊢
  generalize upd s 9 0 = s0 at I0 h9
  obtain ⟨f, g, D, W⟩ := I0.D
  have hwk := hO.1.1.2.2.2.1
  have hnw := hO.1.1.2.2.1
  have hO1 := hO.1
  refine ⟨D.ob, m_noWriter D W hO1 (fun hx => ⟨_, rfl, fun z => absurd z (by decide), fun _ => (q0 hx).fl C0 I0 rfl⟩) fun j hj e => ⟨_, rfl, fun _ => ⟨D.ob, m_remembers I0 D W hO1 hh fun M1 s1 S1 t1 e1 I1 D1 => ⟨rfl, ?_⟩⟩, fun z => absurd rfl z⟩⟩
  have Q1 := q1 j hj e
  subst e
  have iv : (21 : Int32) + nI j = nI (21 + j) := nI_add 21 j
  rw [iv]
  refine ⟨_, _, D1.1, rfl, _, _, D1.2.1, mo_in3, _, _, D1.1, rfl, _, _, D1.2.1, vp_in_nI (by omega) (by omega), ?_⟩
  rw [nI_clamp (n := 21 + j) (by omega), W.ba hj, W.at3, sp_po_eqM hO1.1.2.1]
  exact ⟨D1.ob, m_gives D1 W hO1 hj (sp_po_le O j) fun M2 f2 S2 t2 D2 W2 => ⟨rfl, Q1.chg C0 S1 t1 I1 ((e1 9 (by omega)).trans h9) (fun z hz => S2 z (by omega)) t2 D2 W2⟩⟩

theorem m_advance {x y : Int32} (I : mo_I M O hn h sv isS er ea n b l s rb) (hO : ow_Ok2 O) (hh : ∀ i, i < hn → ow_Ok1 (h i)) (q0 : (∀ j, j < o_nw O → x ≠ nI j) → mo_K M O hn h sv isS er ea n b l 1 (Qr (some (.int 0)))) (q1 : ∀ j, j < o_nw O → x = nI j → (∀ m, 1 ≤ m → m ≤ 999 → y ≠ nI m) → mo_K M O hn h sv isS er ea n b l 2 (Qr (some (.int 0)))) (q2 : ∀ j m, j < o_nw O → x = nI j → 1 ≤ m → m ≤ 999 → y = nI m → o_mo O < m → mo_K M O hn h sv isS er ea n b l 3 (Qr (some (.int 0)))) (q3 : ∀ j m, j < o_nw O → x = nI j → 1 ≤ m → m ≤ 999 → y = nI m → m ≤ o_mo O → mo_K M (o_hand O j 5 m) (o_keep hn h O).1 (o_keep hn h O).2 sv isS er ea n b l 0 (Qr (some (.int (o_ba (o_hand O j 5 m) j))))) : kz_C G (d + 3) 0 0 mX12_advance [.ref 99, .int x, .int y] M Qr Qx := by
  have I0 := I.th' 0
  have C0 := I.cf 0
  have h9 : upd s 9 0 9 = nI 0 := rfl
  refine rX12_advance_0 ⟨_, I.1, ow_l rfl, ?_⟩
  generalize kz_up M 99 (.inl (11, (mo_fs s rb).set 9 (.int 0))) = M0 at I0 C0 ⊢
  generalize upd s 9 0 = s0 at I0 h9
  obtain ⟨f, g, D, W⟩ := I0.D
  have hwk := hO.1.1.2.2.2.1
  have hnw := hO.1.1.2.2.1
  have hO1 := hO.1
  have hmo := hO1.1.2.1
  refine ⟨D.ob, m_noWriter D W hO1 (fun hx => ⟨_, rfl, fun _ => (q0 hx).fl C0 I0 rfl, fun z => absurd z (by decide)⟩) fun j hj e => ⟨_, rfl, fun z => absurd rfl z, fun _ => m_in rfl ⟨_, rfl, ow_ifn (fun hv => ⟨D.ob, m_fails0 ⟨_, rfl, fun _ => ?_, fun z => absurd rfl z⟩⟩) (fun hv => ⟨D.ob, m_fails1 D.1 ⟨_, rfl, fun z => absurd z (by decide), fun _ => (q1 j hj e (mo_rgF (b := 999) (by omega) hv)).fl C0 I0 rfl⟩⟩)⟩⟩⟩
  obtain ⟨m, h1, h2, rfl⟩ := mo_rgT (a := 1) (b := 999) (by omega) (by omega) hv
  have Q2 := q2 j m hj e h1 h2 rfl
  have Q3 := q3 j m hj e h1 h2 rfl
  subst e
  refine ⟨_, _, D.1, rfl, _, _, D.2.1, mo_in3, ?_⟩
  rw [W.at3]
  refine pk_le m (o_mo O) (fun hle => ⟨D.ob, m_fails0 ⟨_, rfl, fun _ => ⟨D.ob, m_remembers I0 D W hO1 hh fun M1 s1 S1 t1 e1 I1 D1 => ⟨rfl, ?_⟩⟩, fun z => absurd rfl z⟩⟩) (fun hgt => ⟨D.ob, m_fails1 D.1 ⟨_, rfl, fun z => absurd z (by decide), fun _ => (Q2 hgt).fl C0 I0 rfl⟩⟩) rfl rfl
  refine ⟨D1.ob, m_gives D1 W hO1 hj hle fun M2 f2 S2 t2 D2 W2 => ⟨rfl, ?_⟩⟩
  have hj2 : j < o_nw (o_hand O j 5 m) := by rw [o_hand_nw]; exact hj
  have iv : (21 : Int32) + nI j = nI (21 + j) := nI_add 21 j
  rw [iv]
  refine ⟨_, _, D2.1, rfl, _, _, D2.2.1, vp_in_nI (by omega) (by omega), ?_⟩
  rw [nI_clamp (n := 21 + j) (by omega), W2.ba hj2]
  exact (Q3 hle).chg C0 S1 t1 I1 ((e1 9 (by omega)).trans h9) (fun z hz => S2 z (by omega)) t2 D2 W2
end MOA
