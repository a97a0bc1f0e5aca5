/-! Part 59h: LineOffice: wouldCount, wouldPay, countsIf, submit -/
theorem sp_sub_ix {n : Nat} {y z : Int32} (hn : n < 2 ^ 31) (h : sp_sub n y z = true) : ∃ kd len, y = nI kd ∧ z = nI len ∧ kd ≤ 2 ∧ len ≤ n ∧ len ≤ 500 := by
  simp only [sp_sub, Bool.and_eq_true, Bool.not_eq_true', decide_eq_true_eq, decide_eq_false_iff_not] at h
  obtain ⟨h1, h2, h3, h4, h5⟩ := h
  obtain ⟨kd, hk, rfl⟩ := nI_of h1
  obtain ⟨len, hl, rfl⟩ := nI_of h3
  have g2 : kd ≤ 2 := Nat.not_lt.mp fun z => nI_ge (a := 2) (b := kd) z hk h2
  have g4 : len ≤ 500 := Nat.not_lt.mp fun z => h4 (nI_lt (a := 500) z hl)
  have g5 : len ≤ n := Nat.not_lt.mp fun z => nI_ge z hl h5
  exact ⟨kd, len, rfl, rfl, g2, g5, g4⟩
theorem ow_Nw.cf {M M1 : kz_M} (g : ow_Nw ow_inP M M1) (hf : ow_fr M) (hK : ow_K ≤ M.2) : ow_Cf M M1 := by
  have h116 : ow_K = 99 := rfl
  exact ⟨g.kp hf fun k hk => Or.inl (by rcases hk with rfl | rfl <;> omega), fun k h1 h2 => g.1 k (by omega) (by omega), g.2⟩
theorem ow_Nw.cfF {M M1 : kz_M} (g : ow_Nw (fun _ => False) M M1) (hf : ow_fr M) (hK : ow_K ≤ M.2) : ow_Cf M M1 := (g.mono fun _ z => z.elim).cf hf hK
section OWK
variable {G : kz_G} {d mc ms : Nat} {Qr : Option Value → kz_M → Prop} {Qx : String → kz_M → Prop} {M : kz_M} {O : ow_O} {hn : Nat} {h : Nat → ow_O} {sv : ow_O} {isS : Bool} {er : Nat} {ea : Int32} {n : Nat} {b : Nat → Nat} {l : List Nat}
theorem ow_CI.nw {M1 : kz_M} (I : ow_CI M O hn h sv isS er ea n b l) (hf : ow_fr M) (g : ow_Nw ow_inP M M1) (hp : ∃ k P, ow_RP M1 97 98 k P) : ow_CI M1 O hn h sv isS er ea n b l := by
  have K := (g.cf hf I.2.2.2.2.2.2.2.2).1
  obtain ⟨i1, i2, i3, i4, i5, i6, ⟨en, er', ea', O', t', i7⟩, i8, i9⟩ := I
  have h116 : ow_K = 99 := rfl
  have o : ∀ k, k < 97 → M1.1 k = M.1 k := fun k hk => g.1 k (by omega) (by omega)
  have g2 := g.2
  refine ⟨(o 0 (by omega)).trans i1, i2.mv (o 1 (by omega)) (o 2 (by omega)), i3.mv (o 3 (by omega)) (o 4 (by omega)), i4.mv K fun k h1 h2 => o k (by omega), i5.mv K fun k h1 h2 => o k (by omega), i6.mv K fun k hk => o k (by have := hk.1; have := hk.2; omega), ⟨en, er', ea', O', t', i7.mv K fun k hk => o k (by have := hk.1; have := hk.2; omega)⟩, hp, by omega⟩
theorem ow_CI.nwF {M1 : kz_M} (I : ow_CI M O hn h sv isS er ea n b l) (hf : ow_fr M) (g : ow_Nw (fun _ => False) M M1) : ow_CI M1 O hn h sv isS er ea n b l := by
  have hK := I.2.2.2.2.2.2.2.2
  have h116 : ow_K = 99 := rfl
  obtain ⟨k, P, hp⟩ := I.2.2.2.2.2.2.2.1
  exact I.nw hf (g.mono fun _ z => z.elim) ⟨k, P, hp.mv (g.kpF hf) (g.1 97 (by omega) id) (g.1 98 (by omega) id)⟩
theorem ow_CI.Kle (I : ow_CI M O hn h sv isS er ea n b l) : ow_K ≤ M.2 := I.2.2.2.2.2.2.2.2
theorem ow_RI.le {M : kz_M} {n : Nat} {b : Nat → Nat} (h : ow_RI M n b) : n ≤ 600 := h.2.1
theorem ow_RO.ru {M : kz_M} {s : Nat} {O : ow_O} (h : ow_RO M s O) : ∃ f, M.1 (s + 1) = some (.inr (.int, 10, .inl f)) ∧ ∀ i, i < 10 → f i = nI (o_ru O i) := h.2.2.1
theorem c_wouldCount {x y z : Int32} (hG : kz_stat G) (I : ow_CI M O hn h sv isS er ea n b l) (hO : ow_Ok1 O) (hmc : 67 ≤ mc) (hms : 619 ≤ ms) (q0 : (∀ j, j < o_nw O → x ≠ nI j) → ow_thr Qx M ow_IO) (q1 : ∀ j, j < o_nw O → x = nI j → sp_sub n y z = false → ow_thr Qx M ow_IA) (q2 : ∀ j kd len, j < o_nw O → x = nI j → y = nI kd → z = nI len → kd ≤ 2 → len ≤ n → len ≤ 500 → sp_sub n y z = true → rd_can kd b len = false → ∀ M1, ow_Cf M M1 → ow_CI M1 O hn h sv isS er ea n b l → Qr (some (.int (-1))) M1) (q3 : ∀ j kd len, j < o_nw O → x = nI j → y = nI kd → z = nI len → kd ≤ 2 → len ≤ n → len ≤ 500 → sp_sub n y z = true → rd_can kd b len = true → ∀ M1, ow_Cf M M1 → ow_CI M1 O hn h sv isS er ea n b l → Qr (some (.int (nI (ow_wl 1 (ow_jw O j (rd_S kd b len) (o_ru O) (o_wk O)))))) M1) : kz_C G (d + 9) mc ms mX11_wouldCount [.ref 0, .int x, .int y, .int z] M Qr Qx := by
  have hn6 := I.2.1.le
  have hnw := hO.1.2.2.1
  refine rX11_wouldCount_0 ⟨I.ob, 2, 12, by omega, by omega, c_checkSub hG I hO (by omega) (by omega) q0 q1 fun v hv e hs => ⟨rfl, ?_⟩⟩
  obtain ⟨kd, len, rfl, rfl, hk, hl, hl5⟩ := sp_sub_ix (by omega) hs
  refine ⟨_, _, I.1, rfl, 3, 123, by omega, by omega, kz_Cfr fun hf => c_read I.2.1 hl hk I.Kle (by omega) (by omega) (fun hc => ⟨none, rfl, fun _ => q2 v kd len hv e rfl rfl hk hl hl5 hs hc M (ow_Cf.refl M) I, fun y hy => (by cases hy)⟩) fun hc M1 a g r => ⟨some a, rfl, fun hz => (by cases hz), fun y hy => ?_⟩⟩
  cases hy
  have J := I.nwF hf g
  have C1 := g.cfF hf I.Kle
  have hS := rd_S_ok hk hc
  subst e
  refine ⟨_, _, J.1, rfl, _, _, J.off.1, rfl, _, _, J.1, rfl, _, _, J.off.1, rfl, J.ob, 62, 484, by omega, by omega, kz_Cfr fun hf1 => c_judged J hO r hS J.off.ru hO.2.1 (by omega) (Nat.le_refl _) (by omega) (by omega) fun M2 w g2 W P => ⟨w, rfl, W.ob, c_wlinesOf (k := 1) W (ow_jw_ok hS (by omega) hO.1.1) (by omega) ⟨_, rfl, q3 v kd len hv rfl rfl rfl hk hl hl5 hs hc M2 (C1.trans (g2.cf hf1 J.Kle)) (J.nw hf1 g2 P)⟩⟩⟩
theorem c_wouldPay {x y z : Int32} (hG : kz_stat G) (I : ow_CI M O hn h sv isS er ea n b l) (hO : ow_Ok1 O) (hmc : 67 ≤ mc) (hms : 619 ≤ ms) (q0 : (∀ j, j < o_nw O → x ≠ nI j) → ow_thr Qx M ow_IO) (q1 : ∀ j, j < o_nw O → x = nI j → sp_sub n y z = false → ow_thr Qx M ow_IA) (q2 : ∀ j kd len, j < o_nw O → x = nI j → y = nI kd → z = nI len → kd ≤ 2 → len ≤ n → len ≤ 500 → sp_sub n y z = true → rd_can kd b len = false → ∀ M1, ow_Cf M M1 → ow_CI M1 O hn h sv isS er ea n b l → Qr (some (.int 0)) M1) (q3 : ∀ j kd len, j < o_nw O → x = nI j → y = nI kd → z = nI len → kd ≤ 2 → len ≤ n → len ≤ 500 → sp_sub n y z = true → rd_can kd b len = true → ∀ M1, ow_Cf M M1 → ow_CI M1 O hn h sv isS er ea n b l → Qr (some (.int (ow_wp (ow_jw O j (rd_S kd b len) (o_ru O) (o_wk O)) - nI (o_ru O 3) * nI (ow_wl 2 (ow_jw O j (rd_S kd b len) (o_ru O) (o_wk O)))))) M1) : kz_C G (d + 9) mc ms mX11_wouldPay [.ref 0, .int x, .int y, .int z] M Qr Qx := by
  have hn6 := I.2.1.le
  have hnw := hO.1.2.2.1
  refine rX11_wouldPay_0 ⟨I.ob, 2, 12, by omega, by omega, c_checkSub hG I hO (by omega) (by omega) q0 q1 fun v hv e hs => ⟨rfl, ?_⟩⟩
  obtain ⟨kd, len, rfl, rfl, hk, hl, hl5⟩ := sp_sub_ix (by omega) hs
  refine ⟨_, _, I.1, rfl, 3, 123, by omega, by omega, kz_Cfr fun hf => c_read I.2.1 hl hk I.Kle (by omega) (by omega) (fun hc => ⟨none, rfl, fun _ => q2 v kd len hv e rfl rfl hk hl hl5 hs hc M (ow_Cf.refl M) I, fun y hy => (by cases hy)⟩) fun hc M1 a g r => ⟨some a, rfl, fun hz => (by cases hz), fun y hy => ?_⟩⟩
  cases hy
  have J := I.nwF hf g
  have C1 := g.cfF hf I.Kle
  have hS := rd_S_ok hk hc
  subst e
  refine ⟨_, _, J.1, rfl, _, _, J.off.1, rfl, _, _, J.1, rfl, _, _, J.off.1, rfl, J.ob, 62, 484, by omega, by omega, kz_Cfr fun hf1 => c_judged J hO r hS J.off.ru hO.2.1 (by omega) (Nat.le_refl _) (by omega) (by omega) fun M2 w g2 W P => ⟨w, rfl, W.ob, ?_⟩⟩
  have hW := ow_jw_ok (O := O) (v := v) (e := o_wk O) (ru := o_ru O) hS (by omega) hO.1.1
  have J2 := J.nw hf1 g2 P
  exact c_payOfCounting W hW ⟨_, rfl, _, _, J2.1, rfl, J2.off.ob, c_finesFor J2.off W hW ⟨_, rfl, q3 v kd len hv rfl rfl rfl hk hl hl5 hs hc M2 (C1.trans (g2.cf hf1 J.Kle)) J2⟩⟩
/-- the rules with one changed -/
def ow_ru1 (ru : Nat → Nat) (k m : Nat) : Nat → Nat := fun i => if i = k then m else ru i
theorem c_submit {x y z : Int32} (hG : kz_stat G) (I : ow_CI M O hn h sv isS er ea n b l) (hO : ow_Ok1 O) (hmc : 67 ≤ mc) (hms : 619 ≤ ms) (q0 : (∀ j, j < o_nw O → x ≠ nI j) → ow_thr Qx M ow_IO) (q1 : ∀ j, j < o_nw O → x = nI j → sp_sub n y z = false → ow_thr Qx M ow_IA) (q2 : ∀ j kd len, j < o_nw O → x = nI j → y = nI kd → z = nI len → kd ≤ 2 → len ≤ n → len ≤ 500 → sp_sub n y z = true → rd_can kd b len = false → ∀ M1, ow_Cf M M1 → ow_CI M1 O hn h sv isS er ea 0 b l → Qr (some (.int (-2))) M1) (q3 : ∀ j kd len, j < o_nw O → x = nI j → y = nI kd → z = nI len → kd ≤ 2 → len ≤ n → len ≤ 500 → sp_sub n y z = true → rd_can kd b len = true → 12 ≤ o_wk O → ∀ M1, ow_Cf M M1 → ow_CI M1 O hn h sv isS er ea 0 b l → Qr (some (.int (-3))) M1) (q4 : ∀ j kd len, j < o_nw O → x = nI j → y = nI kd → z = nI len → kd ≤ 2 → len ≤ n → len ≤ 500 → sp_sub n y z = true → rd_can kd b len = true → o_wk O < 12 → ∀ M1, ow_Cf M M1 → ow_CI M1 (o_in O (ow_jw O j (rd_S kd b len) (o_ru O) (o_wk O))) (o_keep hn h O).1 (o_keep hn h O).2 sv isS er ea 0 b l → Qr (some (.int (nI (o_wk O)))) M1) : kz_C G (d + 9) mc ms mX11_submit [.ref 0, .int x, .int y, .int z] M Qr Qx := by
  have hn6 := I.2.1.le
  have hnw := hO.1.2.2.1
  have hwk := hO.1.2.2.2.1
  refine rX11_submit_0 ⟨I.ob, 2, 12, by omega, by omega, c_checkSub hG I hO (by omega) (by omega) q0 q1 fun v hv e hs => ⟨rfl, ?_⟩⟩
  obtain ⟨kd, len, rfl, rfl, hk, hl, hl5⟩ := sp_sub_ix (by omega) hs
  have z0 : ∀ {M1 : kz_M}, ow_CI M1 O hn h sv isS er ea n b l → ow_Cf M1 (kz_up M1 1 (.inl (1, [.ref 2, .int (nI 0)]))) := fun J => (show ow_Sm (· = 1) _ _ from fun k hk => kz_up_ne hk).cf rfl fun k hk => by omega
  refine ⟨_, _, I.1, rfl, 3, 123, by omega, by omega, kz_Cfr fun hf => c_read I.2.1 hl hk I.Kle (by omega) (by omega) (fun hc => ⟨none, rfl, _, _, I.1, rfl, _, I.2.1.1, ow_l rfl, fun _ => q2 v kd len hv e rfl rfl hk hl hl5 hs hc _ (z0 I) I.in0, fun y hy => (by cases hy)⟩) fun hc M1 a g r => ⟨some a, rfl, ?_⟩⟩
  have J := I.nwF hf g
  have C1 := g.cfF hf I.Kle
  have hS := rd_S_ok hk hc
  subst e
  refine ⟨_, _, J.1, rfl, _, J.2.1.1, ow_l rfl, fun hz => (by cases hz), fun y hy => ?_⟩
  cases hy
  have J1 := J.in0
  have C2 := C1.trans (z0 J)
  have r1 := r.keep (z0 J).1
  change ow_CI (kz_up M1 1 (.inl (1, List.set [.ref 2, .int (nI n)] 1 (.int 0)))) O hn h sv isS er ea 0 b l at J1
  change ow_Cf M (kz_up M1 1 (.inl (1, List.set [.ref 2, .int (nI n)] 1 (.int 0)))) at C2
  change ow_RS (kz_up M1 1 (.inl (1, List.set [.ref 2, .int (nI n)] 1 (.int 0)))) _ _ at r1
  generalize kz_up M1 1 (.inl (1, List.set [.ref 2, .int (nI n)] 1 (.int 0))) = M2 at J1 C2 r1 ⊢
  obtain ⟨rr, hr⟩ := J1.hs.ob
  refine ⟨_, _, J1.1, rfl, _, _, J1.off.1, rfl, pk_lt (o_wk O) 12 (fun hlt => ?_) (fun hge => ?_) rfl rfl⟩
  · refine ⟨_, _, J1.1, rfl, _, _, J1.1, rfl, ⟨_, hr⟩, c_hkeep J1.hs J1.off hO fun M3 k1 k2 k3 => ⟨rfl, ?_⟩⟩
    have J3 := J1.hist k1 k2 k3
    have C3 := C2.trans (ow_inH_cf k1 k2)
    have r3 := r1.keep (ow_inH_cf k1 k2).1
    refine ⟨_, _, J3.1, rfl, _, _, J3.1, rfl, _, _, J3.off.1, rfl, _, _, J3.1, rfl, _, _, J3.off.1, rfl, J3.ob, 62, 484, by omega, by omega, kz_Cfr fun hf3 => c_judged J3 hO r3 hS J3.off.ru hO.2.1 (by omega) (Nat.le_refl _) (by omega) (by omega) fun M4 w g2 W P => ⟨w, rfl, ?_⟩⟩
    have J4 := J3.nw hf3 g2 P
    refine ⟨J4.off.ob, c_handIn J4.off hO (by decide) hlt W (ow_jw_ok hS (by omega) hO.1.1) hv fun M5 m1 m2 m3 => ⟨_, rfl, ?_⟩⟩
    exact q4 v kd len hv rfl rfl rfl hk hl hl5 hs hc hlt M5 ((C3.trans (g2.cf hf3 J3.Kle)).trans (ow_in5_cf m1 m2)) (J4.now m1 m2 m3)
  · exact q3 v kd len hv rfl rfl rfl hk hl hl5 hs hc hge M2 C2 J1
end OWK
