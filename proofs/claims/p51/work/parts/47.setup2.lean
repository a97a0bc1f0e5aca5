/-! Part 47: SetupReader: statements, the whole text -/
section OWB
variable {G : kz_G} {d : Nat} {Qr : Option Value → kz_M → Prop} {Qx : String → kz_M → Prop} {M : kz_M} {n : Nat} {b : Nat → Nat} {tk st en : Nat} {w : Int64} {v er ea : Int32} {O : ow_O} {t : Nat → Bool}
theorem ow_Ok1.money {m : Nat} (h : ow_Ok1 O) (hm : m ≤ 99999) : ow_Ok1 (o_money O m) := ⟨⟨h.1.1, hm, h.1.2.2.1, h.1.2.2.2.1, h.1.2.2.2.2⟩, h.2.1, h.2.2.1, h.2.2.2⟩
theorem ow_Ok1.rule {j m : Nat} (h : ow_Ok1 O) (hm : m ≤ 99) : ow_Ok1 (o_rule O j m) := ⟨h.1, fun i hi => by
  show (if i = j then m else o_ru O i) ≤ 99
  split
  · exact hm
  · exact h.2.1 i hi, h.2.2.1, h.2.2.2⟩
theorem ow_Ok1.enrol {x : Nat} (h : ow_Ok1 O) (hn : o_nw O < 6) (hx : 0 < x ∧ x < 2 ^ 30) : ow_Ok1 (o_enrol O x) := ⟨⟨h.1.1, h.1.2.1, hn, h.1.2.2.2.1, h.1.2.2.2.2⟩, h.2.1, fun i hi => by
  have hi : i < o_nw O + 1 := hi
  show 0 < (if i = o_nw O then x else o_nm O i) ∧ (if i = o_nw O then x else o_nm O i) < 2 ^ 30
  split
  · exact hx
  · exact h.2.2.1 i (by omega), h.2.2.2⟩
theorem ow_TD.s88 {M1 : kz_M} (h : ow_TD M t) (g : ow_Sm (ow_in 88) M M1) : ow_TD M1 t := by
  obtain ⟨f, h1, h2⟩ := h
  exact ⟨f, (g 96 (fun z => by have := z.2; omega)).trans h1, h2⟩
theorem ow_R8.s88 {M1 : kz_M} (h : ow_R8 M tk st en w v er ea) (g : ow_Sm (ow_in 88) M M1) : ow_R8 M1 tk st en w v er ea := (g 87 (fun z => by have := z.1; omega)).trans h
theorem ow_Sm.i88 {M1 : kz_M} (g : ow_Sm (ow_in 88) M M1) : ow_Sm ow_in8 M M1 := g.mono fun k hk => ⟨by have := hk.1; omega, by have := hk.2; omega⟩
theorem c_money {m : Nat} (h : ow_RO M 88 O) (q : ∀ M1, ow_Sm (ow_in 88) M M1 → M1.2 = M.2 → ow_RO M1 88 (o_money O m) → Qr none M1) : Qr none (kz_up M 88 (.inl (8, ow_hd 88 (o_money O m)))) := by
  obtain ⟨fr, fn, fb, fp, fh, fl, R, P, Ph⟩ := h.op
  have S : ow_Sm (ow_in 88) M (kz_up M 88 (.inl (8, ow_hd 88 (o_money O m)))) := (ow_Sm.rfl' _ M).up ⟨by omega, by omega⟩
  exact q _ S rfl (R.u0.cl (O := o_money O m) P (Ph.keep (S.kpS (by decide))))
theorem c_office (hG : kz_stat G) (hI : ow_RI M n b) (h : ow_R8 M tk st en w v 0 (-1)) (h2 : ow_RO M 88 O) (h3 : ow_TD M t) (hO : ow_Ok1 O) (hs : en ≤ n) (q : ∀ M1 r, sp_post (sp_of n b en O t) M M1 r → Qr r M1) : kz_C G (d + 5) 0 0 mX8_readOffice [.ref 87, .ref 1] M Qr Qx := by
  have htk : sp_tk n b en ≤ 4 := by
    rw [sp_tk, sp_k0]
    repeat' split
    all_goals omega
  have hw := sp_w0_lt (n := n) (b := b) (sp_st n b en)
  have hc := kz_cd_lt 1035 (by decide)
  refine rX8_readOffice_0 ⟨h.ob, c_next hI h hs fun M1 w1 v1 g1 g2 g3 g4 g5 => ⟨rfl, _, _, g3, rfl, ?_⟩⟩
  have bad : ¬ (sp_tk n b en = 1 ∧ sp_wd n b en = kz_cd 1035) → kz_C G (d + 4) 0 0 mX8_fail [.ref 87, .int 1] M1 (fun v M1 => ∃ r : Int32, v = some (.int r) ∧ (narrow .boolean (.int r) = .int r ∧ Qr (some (.int r)) M1)) Qx := fun hno => c_failX (c := 1) g3 (h2.s87 g1) (h3.s87 g1) fun M2 k1 k2 k3 => ⟨_, rfl, rfl, q M2 _ ⟨g1.i8.trans k1.i8, k2.trans g2, by rw [sp_of, if_neg hno]; exact ⟨rfl, k3⟩⟩⟩
  refine ⟨fun ht => ⟨g3.ob, bad fun z => ht (by rw [z.1]; rfl)⟩, fun ht => ?_⟩
  have ht1 : sp_tk n b en = 1 := (nI_eq (b := 1) (by omega) (by omega)).mp ht
  have hw1 := g4 ht1
  subst hw1
  refine ⟨_, _, g3, rfl, c_coded hG (by decide) ⟨_, rfl, fun he => ⟨g3.ob, ?_⟩, fun he => ⟨g3.ob, bad fun z => he (by rw [z.2])⟩⟩⟩
  have he1 : sp_wd n b en = kz_cd 1035 := (pk_lEQ (by have : sp_wd n b en < 2 ^ 60 := hw; omega) (by omega)).mp he
  have cnd : sp_tk n b en = 1 ∧ sp_wd n b en = kz_cd 1035 := ⟨ht1, he1⟩
  have hI1 := hI.s87 g1
  have hle := sp_en_le (n := n) (b := b) hs
  refine c_number (lo := 0) (hi := 99999) hI1 g3 hle (by omega) (by omega) (fun c hc M2 w2 v2 k1 k2 k3 => ⟨_, rfl, fun z => absurd rfl z, fun _ => ?_⟩) (fun m hm hm2 M2 w2 k1 k2 k3 => ⟨_, rfl, fun _ => ?_, fun z => absurd z (by decide)⟩)
  · refine q M2 _ ⟨g1.i8.trans k1.i8, k2.trans g2, ?_⟩
    rw [sp_of, if_pos cnd, hc]
    exact ⟨rfl, _, _, _, ⟨_, _, _, _, k3⟩, (h2.s87 g1).s87 k1, (h3.s87 g1).s87 k1⟩
  · have o2 := (h2.s87 g1).s87 k1
    have t2 := (h3.s87 g1).s87 k1
    refine ⟨_, _, k3, rfl, _, _, k3, rfl, _, o2.1, ow_l rfl, ?_⟩
    obtain ⟨fr, fn, fb, fp, fh, fl, R, P, Ph⟩ := o2.op
    have S : ow_Sm (ow_in 88) M2 (kz_up M2 88 (.inl (8, ow_hd 88 (o_money O m)))) := (ow_Sm.rfl' _ M2).up ⟨by omega, by omega⟩
    have o3 := R.u0.cl (O := o_money O m) P (Ph.keep (S.kpS (by decide)))
    have k4 := k3.s88 S
    refine ⟨k4.ob, c_semi ((hI1.s87 k1).s8 S.i88) k4 o3 (t2.s88 S) (hO.money hm2) (sp_en_le hle) fun M3 r hr => ?_⟩
    obtain ⟨p1, p2, p3⟩ := hr
    have hq : sp_post (sp_of n b en O t) M M3 r := ⟨((g1.i8.trans k1.i8).trans S.i88).trans p1, p2.trans (k2.trans g2), by rw [sp_of, if_pos cnd, hm]; exact p3⟩
    have hb : ∃ x : Int32, r = some (.int x) ∧ narrow .boolean (.int x) = .int x := by
      split at p3
      · exact ⟨0, p3.1, rfl⟩
      · exact ⟨1, p3.1, rfl⟩
    obtain ⟨x, hx, hx2⟩ := hb
    subst hx
    exact ⟨x, rfl, hx2, q M3 _ hq⟩
theorem sp_post.bool {r : sp_R} {M1 : kz_M} {x : Option Value} (h : sp_post r M M1 x) : ∃ y : Int32, x = some (.int y) ∧ narrow .boolean (.int y) = .int y := by
  obtain ⟨p1, p2, p3⟩ := h
  split at p3
  · exact ⟨0, p3.1, rfl⟩
  · exact ⟨1, p3.1, rfl⟩
theorem c_writer (hG : kz_stat G) (hI : ow_RI M n b) (h : ow_R8 M tk st en w v 0 (-1)) (h2 : ow_RO M 88 O) (h3 : ow_TD M t) (hO : ow_Ok1 O) (hs : en ≤ n) (q : ∀ M1 r, sp_post (sp_wr n b st en O t) M M1 r → Qr r M1) : kz_C G (d + 7) 0 0 mX8_readWriter [.ref 87, .ref 1] M Qr Qx := by
  have htk : sp_tk n b en ≤ 4 := by
    rw [sp_tk, sp_k0]
    repeat' split
    all_goals omega
  have hn := hO.1.2.2.1
  have hw : sp_wd n b en < 2 ^ 60 := sp_w0_lt (n := n) (b := b) (sp_st n b en)
  have hK : 88 + 8 ≤ ow_K := by decide
  refine rX8_readWriter_0 ⟨_, _, h, rfl, _, _, h2.1, rfl, pk_lt (o_nw O) 6 (fun hlt => ⟨h.ob, c_next hI h hs fun M1 w1 v1 g1 g2 g3 g4 g5 => ⟨rfl, _, _, g3, rfl, ?_⟩⟩) (fun hge => ⟨h.ob, c_failX (c := 4) h h2 h3 fun M2 k1 k2 k3 => ⟨_, rfl, rfl, q M2 _ ⟨k1.i8, k2, by rw [sp_wr, if_neg (by omega)]; exact ⟨rfl, k3⟩⟩⟩⟩) rfl rfl⟩
  have bad : ¬ (sp_tk n b en = 1 ∧ sp_name (sp_wd n b en) = true) → kz_C G (d + 6) 0 0 mX8_fail [.ref 87, .int 1] M1 (fun v M1 => ∃ r : Int32, v = some (.int r) ∧ (narrow .boolean (.int r) = .int r ∧ Qr (some (.int r)) M1)) Qx := fun hno => c_failX (c := 1) g3 (h2.s87 g1) (h3.s87 g1) fun M2 k1 k2 k3 => ⟨_, rfl, rfl, q M2 _ ⟨g1.i8.trans k1.i8, k2.trans g2, by rw [sp_wr, if_pos hlt, if_neg hno]; exact ⟨rfl, k3⟩⟩⟩
  refine ⟨fun ht => ⟨g3.ob, bad fun z => ht (by rw [z.1]; rfl)⟩, fun ht => ?_⟩
  have ht1 : sp_tk n b en = 1 := (nI_eq (b := 1) (by omega) (by omega)).mp ht
  have hw1 := g4 ht1
  subst hw1
  refine ⟨_, _, g3, rfl, c_isName hG hw ⟨_, rfl, ow_ifn (fun hnm => ?_) (fun hnm => ⟨g3.ob, bad fun z => by rw [z.2] at hnm; cases hnm⟩)⟩⟩
  have cnd : sp_tk n b en = 1 ∧ sp_name (sp_wd n b en) = true := ⟨ht1, hnm⟩
  have o1 := h2.s87 g1
  have t1 := h3.s87 g1
  have hI1 := hI.s87 g1
  have hle := sp_en_le (n := n) (b := b) hs
  refine ⟨_, _, g3, rfl, _, _, g3, rfl, o1.ob, c_hasWriter o1 hO hw ⟨_, rfl, ow_if0 (fun htn => ?_) (fun htn => ⟨g3.ob, c_failX (c := 3) g3 o1 t1 fun M2 k1 k2 k3 => ⟨_, rfl, rfl, q M2 _ ⟨g1.i8.trans k1.i8, k2.trans g2, by rw [sp_wr, if_pos hlt, if_pos cnd, if_pos (show sp_taken O (sp_wd n b en) = true from htn)]; exact ⟨rfl, k3⟩⟩⟩⟩)⟩⟩
  have htn' : ¬ sp_taken O (sp_wd n b en) = true := fun z => by
    have : sp_taken O (sp_wd n b en) = false := htn
    rw [this] at z; cases z
  refine ⟨_, _, g3, rfl, _, _, g3, rfl, o1.ob, c_enrol o1 hlt hK fun M2 k1 k2 k3 => ⟨rfl, (g3.s88 k1).ob, c_semi (hI1.s8 k1.i88) (g3.s88 k1) k3 (t1.s88 k1) (hO.enrol hlt (sp_name_ok hw hnm)) hle fun M3 r hr => ?_⟩⟩
  obtain ⟨x, hx, hx2⟩ := hr.bool
  obtain ⟨p1, p2, p3⟩ := hr
  have hq : sp_post (sp_wr n b st en O t) M M3 r := ⟨(g1.i8.trans k1.i88).trans p1, p2.trans (k2.trans g2), by rw [sp_wr, if_pos hlt, if_pos cnd, if_neg htn']; exact p3⟩
  subst hx
  exact ⟨x, rfl, hx2, q M3 _ hq⟩
theorem ow_nar1 : vp_nar .boolean 1 = 1 := by decide
theorem ow_nar00 : vp_nar .boolean 0 = 0 := by decide
theorem c_setting {wn : Nat} (hG : kz_stat G) (hI : ow_RI M n b) (h : ow_R8 M tk st en w v 0 (-1)) (htk4 : tk ≤ 4) (hwn : tk = 1 → w = lN wn) (hwl : wn < 2 ^ 60) (h2 : ow_RO M 88 O) (h3 : ow_TD M t) (hO : ow_Ok1 O) (hs : en ≤ n) (q : ∀ M1 r, sp_post (sp_se n b st tk wn en O t) M M1 r → Qr r M1) : kz_C G (d + 6) 0 0 mX8_readSetting [.ref 87, .ref 1] M Qr Qx := by
  have hK : 88 + 8 ≤ ow_K := by decide
  have none' : (if tk = 1 then sp_set wn else none) = none → zX8_readSetting_20 G d Qr Qx 87 1 (-1) M := fun e => by
    refine rX8_readSetting_20 hG (ow_y (by decide) ⟨h.ob, c_failX (c := 1) h h2 h3 fun M2 k1 k2 k3 => ⟨_, rfl, rfl, q M2 _ ⟨k1.i8, k2, ?_⟩⟩⟩)
    rw [sp_se, e]
    exact ⟨rfl, k3⟩
  refine rX8_readSetting_0 ⟨_, _, h, rfl, pk_eq tk 1 (fun hz => ?_) (fun hz => none' (if_neg hz)) rfl rfl |>.symm⟩
  have hw1 := hwn hz
  subst hw1
  refine ⟨_, _, h, rfl, c_settingNamed hG hwl ⟨_, rfl, ?_⟩⟩
  cases hset : sp_set wn with
  | none => exact none' (by rw [if_pos hz, hset])
  | some j =>
    have hj := sp_set_lt hset
    show zX8_readSetting_20 G d Qr Qx 87 1 (nI j) M
    have hse : sp_se n b st tk wn en O t = if t j then .inl (3, st) else match sp_nu n b (ow_lo j) (ow_hi j) en with
      | .inl c => .inl (c, sp_st n b en)
      | .inr m => sp_sc n b (sp_en n b en) (o_rule O j m) (fun k => if k = j then true else t k) := by
      rw [sp_se, if_pos hz, hset]
      rfl
    obtain ⟨f, hf1, hf2⟩ := h3
    have h3 : ow_TD M t := ⟨f, hf1, hf2⟩
    refine rX8_readSetting_20 hG (ow_n (nI_pos (by omega)) ⟨_, _, h, rfl, _, _, hf1, ow_n (nI_ge (b := 10) hj (by omega)) (ow_y (nI_lt (b := 10) hj (by omega)) ?_)⟩)
    refine rX8_readSetting_47 hG ⟨_, _, h, rfl, _, _, hf1, vp_in_nI hj (by omega), ?_⟩
    rw [nI_clamp (by omega), hf2 j hj]
    refine ow_if0 (fun htj => ?_) (fun htj => ⟨h.ob, c_failX (c := 3) h h2 h3 fun M2 k1 k2 k3 => ⟨_, rfl, rfl, q M2 _ ⟨k1.i8, k2, by rw [hse, if_pos htj]; exact ⟨rfl, k3⟩⟩⟩⟩)
    rw [if_neg (by rw [htj]; decide)] at hse
    have hlo := ow_lo_le j hj
    have hhi := ow_hi_le j hj
    rw [ow_lo_kz j hj, ow_hi_kz j hj, ow_nar1]
    have S : ow_Sm (· = 96) M (kz_up M 96 (.inr (.boolean, 10, .inl (upd f j 1)))) := fun k hk => kz_up_ne hk
    have S8 : ow_Sm ow_in8 M (kz_up M 96 (.inr (.boolean, 10, .inl (upd f j 1)))) := S.mono fun k hk => by subst hk; exact ⟨by omega, by omega⟩
    have hA : ow_R8 (kz_up M 96 (.inr (.boolean, 10, .inl (upd f j 1)))) tk st en (lN wn) v 0 (-1) := (S 87 (by omega)).trans h
    have oA : ow_RO (kz_up M 96 (.inr (.boolean, 10, .inl (upd f j 1)))) 88 O := h2.sm S fun k hk => ⟨by subst hk; decide, by omega⟩
    have tA : ow_TD (kz_up M 96 (.inr (.boolean, 10, .inl (upd f j 1)))) (fun k => if k = j then true else t k) := ⟨_, kz_up_same _ _ _, fun i hi => by
      show upd f j 1 i = ow_b (if i = j then true else t i)
      unfold upd
      by_cases hij : i = j
      · rw [if_pos hij, if_pos hij]; rfl
      · rw [if_neg hij, if_neg hij]; exact hf2 i hi⟩
    have iA := hI.s8 S8
    have hle := sp_en_le (n := n) (b := b) hs
    refine ⟨_, _, h, rfl, _, _, hf1, vp_in_nI hj (by omega), vp_in_nI hj (by omega), hj, vp_in_nI hj (by omega), hj, hA.ob, c_number iA hA hs (by omega) (by omega) (fun c hc M2 w2 v2 k1 k2 k3 => ⟨_, rfl, fun z => absurd rfl z, fun _ => ?_⟩) (fun m hm hm2 M2 w2 k1 k2 k3 => ⟨_, rfl, fun _ => ?_, fun z => absurd z (by decide)⟩)⟩
    · refine q M2 _ ⟨S8.trans k1.i8, k2, ?_⟩
      rw [hse, hc]
      exact ⟨rfl, _, _, _, ⟨_, _, _, _, k3⟩, oA.s87 k1, tA.s87 k1⟩
    · have o2 := oA.s87 k1
      have t2 := tA.s87 k1
      obtain ⟨fr, fn, fb, fp, fh, fl, R, P, Ph⟩ := o2.op
      have S2 : ow_Sm (ow_in 88) M2 (kz_up M2 (88 + 1) (.inr (.int, 10, .inl (upd fr j (nI m))))) := (ow_Sm.rfl' _ M2).up ⟨by omega, by omega⟩
      have o3 : ow_RO (kz_up M2 (88 + 1) (.inr (.int, 10, .inl (upd fr j (nI m))))) 88 (o_rule O j m) := R.u1.cl (O := o_rule O j m) ⟨fun i hi => by
        show upd fr j (nI m) i = nI (if i = j then m else o_ru O i)
        unfold upd
        split
        · rfl
        · exact P.1 i hi, P.2⟩ (Ph.keep (S2.kpS hK))
      refine ⟨_, _, k3, rfl, _, _, o2.1, rfl, _, _, k3, rfl, c_put R.2.2.1 hj (by omega) ⟨rfl, (k3.s88 S2).ob, c_semi ((iA.s87 k1).s8 S2.i88) (k3.s88 S2) o3 (t2.s88 S2) (hO.rule (by omega)) hle fun M3 r hr => ?_⟩⟩
      obtain ⟨x, hx, hx2⟩ := hr.bool
      obtain ⟨p1, p2, p3⟩ := hr
      have hq : sp_post (sp_se n b st tk wn en O t) M M3 r := ⟨((S8.trans k1.i8).trans S2.i88).trans p1, p2.trans k2, by rw [hse, hm]; exact p3⟩
      subst hx
      exact ⟨x, rfl, hx2, q M3 _ hq⟩
end OWB
