/-! Part 82: LineOfficeLaw.submit -/
theorem jF_no {M : kz_M} : ∀ k, jF k → ow_no M k := fun _ h => h.elim
theorem jZ.nf {M M1 : kz_M} {O : ow_O} (h : jZ M O) (hf : ow_fr M) (F : ow_Nw jF M M1) : jZ M1 O := by
  obtain ⟨h1, ⟨h2, h3, h4, h5⟩, h6, e0, capW, xW, al, el, cp, y, h7⟩ := h
  exact ⟨F.at hf id h1, ⟨h2.nw hf F id, h3.nw hf F id, h4.nw hf F id, h5.nw hf F id⟩, h6, e0, capW, xW, al, el, cp, y, h7.n3 hf F fun _ h => h.elim⟩
theorem jS.kp {M M1 : kz_M} {a v cap : Nat} {l : List Nat} (h : jS M a v cap l) (ha : 99 ≤ a) (hv : 99 ≤ v) (g : ow_Kp M M1) : jS M1 a v cap l := ⟨g _ _ ha h.1, g _ _ hv h.2.1, h.2.2⟩
theorem jS.nw {P : Nat → Prop} {M M1 : kz_M} {a v cap : Nat} {l : List Nat} (h : jS M a v cap l) (hf : ow_fr M) (F : ow_Nw P M M1) (h1 : ¬ P a) (h2 : ¬ P v) : jS M1 a v cap l := ⟨F.at hf h1 h.1, F.at hf h2 h.2.1, h.2.2⟩
theorem jcts {O : ow_O} {v : Nat} {s : ow_S} (n : Nat) : ow_cts ((ow_jw O v s (o_ru O) (o_wk O)).2.2.2.2 n) = decide (((ow_jw O v s (o_ru O) (o_wk O)).2.2.2.2 n).2.2.2.2.1 = 0) := by
  show ow_cts (ow_jl s (o_ru O 0) _ _ _ _ n) = decide ((ow_jl s (o_ru O 0) _ _ _ _ n).2.2.2.2.1 = 0)
  unfold ow_cts ow_jl
  by_cases h0 : ow_rs (ow_jd s (o_ru O 0) (nI (o_ru O (7 + s.1))) (o_ru O 1) (o_ru O 2) (ow_co O v (o_wk O)) n).1 (ow_jd s (o_ru O 0) (nI (o_ru O (7 + s.1))) (o_ru O 1) (o_ru O 2) (ow_co O v (o_wk O)) n).2 s (ow_l0 s (o_ru O 0) (nI (o_ru O (7 + s.1))) n) (o_ru O 1) (o_ru O 2) = 0
  · simp [h0]
  · simp [h0]
theorem ow_Ow.sub {O : ow_O} {v : Nat} {s : ow_S} (h : ow_Ow O) (hv : v < o_nw O) : ow_Ow (o_in O (ow_jw O v s (o_ru O) (o_wk O))) := fun i hi => by
  unfold o_in at hi ⊢
  rw [o_book_wk, o_book_wk] at hi
  rw [o_book_ws', o_book_ws', o_book_nw, o_book_nw]
  have hi : i < o_wk O + 1 := hi
  show (if i = o_wk O then ow_jw O v s (o_ru O) (o_wk O) else o_ws O i).1 < o_nw O
  by_cases h0 : i = o_wk O
  · rw [if_pos h0]; exact hv
  · rw [if_neg h0]; exact h i (by omega)
theorem jsub {n kd : Nat} (hk : kd ≤ 2) (hn : n ≤ 500) : sp_sub n (nI kd) (nI n) = true := by
  unfold sp_sub
  rw [decide_eq_false (nI_pos (by omega)), decide_eq_true (show nI kd ≤ 2 from nI_le (b := 2) hk (by decide)), decide_eq_false (nI_pos (by omega)), decide_eq_false (show ¬ 500 < nI n from nI_nlt (a := 500) hn (by decide)), decide_eq_true (nI_le (Nat.le_refl _) (by omega))]
  rfl
section JSU
variable {G : kz_G} {d mc ms : Nat} {Qr : Option Value → kz_M → Prop} {Qx : String → kz_M → Prop} {M0 : kz_M} {O : ow_O}
theorem c_submitL {k : Nat} {x y : Int32} (hG : kz_stat G) (hG2 : kz_stat2 G) (hP : kz_statP G) (V : jV M0 O k) (hwk : o_wk O < 12) (hmc : 12000 ≤ mc) (hms : 150000 ≤ ms) (Q : ∀ M1 O', jV M1 O' (k + 1) → Qr (some (.int 1)) M1) : kz_C G (d + 10) mc ms mL_submit [.ref 99, .ref 0, .int x, .int y] M0 Qr Qx := by
  refine kz_Cfr fun hf0 => ?_
  have hM99 := V.m99
  obtain ⟨⟨hn, h, sv, isS, er, ea, b, lt, I⟩, hO, hOw, Z, hd⟩ := V
  have z6 := Z.2.2.1
  have h105 : 104 < M0.2 := by
    obtain ⟨-, ⟨-, -, -, f, h, -⟩, -⟩ := Z
    exact hf0 _ _ h
  have h4a := jbt_lt x 3 2
  have h4b := jbt_lt x 5 2
  have h4c := jbt_lt x 7 4
  refine rL_submit_0 (c_bits (f := 3) (m := 2) rfl rfl (by decide) (by decide) ⟨_, rfl, c_bits (f := 5) (m := 2) rfl rfl (by decide) (by decide) ⟨_, rfl, 40, by decide, by decide, by decide, by omega, by omega, by omega, by omega, 1, 16, by omega, by omega, ?_⟩⟩)
  refine c_sbInit hG (kz_nw_same _ _) (Nat.le_refl _) (Nat.le_refl _) fun M1 g1 g2 g3 => ⟨rfl, c_bits (f := 7) (m := 4) rfl rfl (by decide) (by decide) ⟨_, rfl, ?_⟩⟩
  rw [jrem3 _ h4a, jrem3 _ h4b, show (1 : Int32) + nI (jbt x 7 4) = nI (1 + jbt x 7 4) from nI_add 1 _]
  have hv : jbt x 3 2 % 3 < 3 := Nat.mod_lt _ (by decide)
  have hkd : jbt x 5 2 % 3 < 3 := Nat.mod_lt _ (by decide)
  have hn1 : 1 ≤ 1 + jbt x 7 4 := Nat.le_add_right _ _
  have hn16 : 1 + jbt x 7 4 ≤ 16 := by omega
  generalize jbt x 3 2 % 3 = v at hv
  generalize jbt x 5 2 % 3 = kd at hkd
  generalize 1 + jbt x 7 4 = n at hn1 hn16
  have g22 : M1.2 = M0.2 + 3 := g2
  have N : ∀ t, t < M0.2 → M1.1 t = M0.1 t := fun t ht => (g1.1 t (show t < M0.2 + 1 + 1 by omega) (show ¬ t = M0.2 + 1 by omega)).trans ((kz_nw_ne (show t ≠ M0.2 + 1 by omega)).trans (kz_nw_ne (by omega)))
  have N1 : M1.1 M0.2 = some (.inr (.int, 40, .inl (fun _ => 0))) := (g1.1 M0.2 (show M0.2 < M0.2 + 1 + 1 by omega) (show ¬ M0.2 = M0.2 + 1 by omega)).trans ((kz_nw_ne (show M0.2 ≠ M0.2 + 1 by omega)).trans (kz_nw_same _ _))
  refine kz_tag (a := M0.2) (n := 40) (f' := fun t => if t = 100000 then 1 else 0) (fun i hi => if_neg (by omega)) N1 ?_
  show zL_submit_52 G d mc ms Qr Qx 99 0 x y (nI v) (nI kd) M0.2 (nI (jal x kd 0)) (M0.2 + 1) (nI n) (nI 0) (kz_up M1 M0.2 (.inr (.int, 40, .inl (fun t => if t = 100000 then 1 else 0)))) (0 + 1 + 1 + 1) (0 + 40 + 4 + 16)
  refine c_subText hG hG2 hP hkd hn16 (by omega) (by omega) ?_ 0 (Nat.zero_le _) _ _ _ _ ⟨⟨fun t ht _ => (kz_up_ne (by omega)).trans (N t ht), by rw [kz_up_2]; omega⟩, ⟨kz_up_same _ _ _, if_pos rfl⟩, M0.2 + 2, 16, ⟨(kz_up_ne (by omega)).trans g3.1, (kz_up_ne (by omega)).trans g3.2.1, g3.2.2⟩, by omega⟩ ⟨fun j hj => absurd hj (Nat.not_lt_zero j), fun j hj => absurd hj (Nat.not_lt_zero _)⟩ (by omega) (by omega)
  intro M f c sl hT hr hc hs
  have hTob := hT.ob
  obtain ⟨F, ⟨ha, ha1⟩, vb, capb, hS, hvb⟩ := hT
  have hlen := jtx_len x y kd n
  refine rL_submit_181 (by omega) (by omega) ⟨hTob, 2, 1004, by omega, by omega, kz_Cfr fun hfM => c_toStr hG hS (Nat.le_refl _) (Nat.le_refl _) fun M1 g1 g2 hX => ⟨_, rfl, 30, 150, by omega, by omega, ?_⟩⟩
  have F1 := F.trans g1
  have hS1 := hS.nw hfM g1 id id
  have ha11 := g1.at hfM id ha
  have hMM := F.2
  refine kz_Cfr fun hfM1 => c_told hG (show 99 ≤ M.2 by omega) hX (I.lf (F1.lf hf0 hM99 jF_no)) (Nat.le_refl _) (Nat.le_refl _) fun M2 b2 C2 I3 hb => ⟨rfl, ?_⟩
  have Z2 := (Z.nf hf0 F1).kp C2.1
  have hS2 := hS1.kp (by omega) (by omega) C2.1
  have ha2 := C2.1 _ _ hM99 ha11
  have hM2 : 104 < M2.2 := by have := C2.2.2; have := F1.2; omega
  have Z2' := Z2
  obtain ⟨z1, ⟨⟨f1, a1, a2, a3⟩, -⟩, -⟩ := Z2'
  refine ⟨_, _, z1, rfl, _, _, a1, vp_in_nI hv (by decide), ?_⟩
  rw [nI_clamp (by omega), a3 v hv]
  obtain ⟨r1, r2, r3, r4⟩ := jtx_S (x := x) (y := y) (kd := kd) hn1 hn16 hb
  have hsub := jsub (n := (jtx x y kd n).length) (kd := kd) (by omega) (by omega)
  have hSok := rd_S_ok (by omega) r1
  -- what the class's calls are about
  have only : ∀ {j kd' len' : Nat}, j < o_nw O → nI v = nI j → nI kd = nI kd' → nI (jtx x y kd n).length = nI len' → kd' ≤ 2 → len' ≤ 500 → v = j ∧ kd = kd' ∧ (jtx x y kd n).length = len' := fun h1 e1 e2 e3 h2 h3 => ⟨(nI_eq (by omega) (by have := z6.1; omega)).mp e1, (nI_eq (by omega) (by omega)).mp e2, (nI_eq (by omega) (by omega)).mp e3⟩
  refine rL_submit_199 (by omega) (by omega) ⟨⟨_, hS2.1⟩, c_sbLen hS2 ⟨_, rfl, I3.ob, 67, 619, by omega, by omega, ?_⟩⟩
  refine c_wouldPay hG I3 hO (Nat.le_refl _) (Nat.le_refl _) (fun hx => absurd rfl (hx v (by rw [z6.1]; exact hv))) (fun j hj e hs => by rw [hsub] at hs; cases hs) (fun j kd' len' h1 e1 e2 e3 h2 h3 h4 h5 h6 => ?_) fun j kd' len' h1 e1 e2 e3 h2 h3 h4 h5 h6 M3 C3 I4 => ⟨_, rfl, ?_⟩
  · obtain ⟨k1, k2, k3⟩ := only h1 e1 e2 e3 h2 h4
    subst k1 k2 k3
    rw [r1] at h6; cases h6
  obtain ⟨k1, k2, k3⟩ := only h1 e1 e2 e3 h2 h4
  subst k1 k2 k3
  -- the law's own work
  have Z3 := Z2.kp C3.1
  have hS3 := hS2.kp (by omega) (by omega) C3.1
  have ha3 := C3.1 _ _ hM99 ha2
  have hM3 : 104 < M3.2 := by have := C3.2.2; omega
  obtain ⟨z1, ⟨y1, y2, y3, y4⟩, -, e0, capW, xW, al, el, cp, y9, zx⟩ := Z3
  generalize hSS : rd_S kd b2 (jtx x y kd n).length = S at r2 r3 r4 hSok ⊢
  have hJ : jWd f S (jal x kd n) (jsc x kd) (jq y) := by
    refine ⟨rfl, fun j hj => ?_, fun j hj => ⟨hr.1 j (by omega), jq_lt y j, (r4 j (by omega)).1, (r4 j (by omega)).2, jsc_le x kd j⟩, ?_, by omega, by omega⟩
    · by_cases hf : jfl x kd (j + 1) = true
      · exact Or.inr ⟨by rw [jsc, if_pos hf], hr.2 j (by omega) hf⟩
      · exact Or.inl (by rw [jsc, if_neg hf]; rfl)
    · unfold jal
      rw [if_neg (by omega), r3]
  refine rL_submit_214 (by omega) (by omega) ⟨⟨_, z1⟩, 8000, 40000, by omega, by omega, kz_Cfr fun hf3 => c_handsIn (s := S) hG2 z1 zx.1 (fun i hi => ⟨_, _, _, _, (zx.2.2 i hi).1⟩) y1 y4 hO (fun i hi => (zx.2.2 i hi).2.2.2.2.2.2) hwk hv r2.symm (by rw [r2]; omega) ha3 hJ z6.2 (Nat.le_refl _) (Nat.le_refl _) fun M4 eln capl yl e1 cap1 F4 q1 q2 q3 q36 q4 q5 => ⟨_, rfl, ?_⟩⟩
  have hel : 99 ≤ eln := by omega
  have r101 : ∃ f, M3.1 101 = some (.inr (.int, 3, .inl f)) := by
    obtain ⟨f, h, -⟩ := y1
    exact ⟨f, h⟩
  have ZZ : jZ M4 (o_in O (ow_jw O v S (o_ru O) (o_wk O))) := jZ.more z1 y2 y3 y4 z6 zx hf3 hM3 r101 (by omega) F4 q1 q2 q3 q4 hel q5
  have L4 : ow_LF M3 M4 := F4.lf hf3 (by omega) fun t ht => by
    rcases ht with rfl | rfl | rfl
    · obtain ⟨f, h, hf, -⟩ := y1
      refine ⟨by decide, fun e he hm => ?_⟩
      rw [h] at he; cases he
      rcases hm with m | m | m | ⟨n', f', m1, -, m3⟩
      · cases m
      · cases m
      · cases m
      · cases m1
        rw [hf] at m3; exact absurd m3 (by decide)
    · obtain ⟨fs, h⟩ := zx.1.o
      refine ⟨by decide, fun e he hm => ?_⟩
      rw [h] at he; cases he
      exact absurd hm (by decide : ¬ (16 : Nat) < 11)
    · refine ⟨zx.2.1, fun e he hm => ?_⟩
      rcases zx.1 with ⟨-, m1, -, m2⟩ | ⟨-, -, m2, -⟩
      · rw [m1, m2] at he; cases he
        exact absurd hm (by decide : ¬ (16 : Nat) < 11)
      · rw [m2] at he; cases he
        rcases hm with m | m | m | ⟨n', f', m1, -, m3⟩
        · cases m
        · injection m with m; exact absurd m (by decide)
        · injection m with m; exact absurd m (by decide)
        · cases m1
  have I5 := I4.lf L4
  have hS4 := hS3.nw hf3 F4 (fun hp => by
    rcases hp with hp | hp | hp
    · omega
    · omega
    · rcases zx.1 with ⟨-, m1, -, m2⟩ | ⟨-, -, m2, -⟩
      · omega
      · have := hS3.1; rw [hp, m2] at this; cases this) (fun hp => by
    rcases hp with hp | hp | hp
    · obtain ⟨f', h', -⟩ := y1
      have := hS3.2.1; rw [hp, h'] at this; cases this
    · omega
    · rcases zx.1 with ⟨-, m1, -, m2⟩ | ⟨-, -, m2, -⟩
      · omega
      · have := hS3.2.1; rw [hp, m2] at this; cases this)
  have hM4 : 99 ≤ M4.2 := by have := F4.2; omega
  have hnl : ow_nl S (o_ru O 0) ≤ 16 := by
    obtain ⟨hit, hend, hle⟩ := ow_it_nl S (o_ru O 0) S.2.1 0 (by omega) (Nat.zero_le _)
    unfold ow_nl; omega
  have hwl : ow_wl 1 (ow_jw O v S (o_ru O) (o_wk O)) = ow_cn (fun i => decide (((ow_jw O v S (o_ru O) (o_wk O)).2.2.2.2 i).2.2.2.2.1 = 0)) (ow_nl S (o_ru O 0)) := ow_cn_ext fun i _ => jcts i
  -- the end
  have k286 : ∀ (M : kz_M) (c sl : Nat), ow_fr M4 → ow_Nw jF M4 M → c ≤ 3 + 3 * n + 8700 → sl ≤ 70 + 3000 * n + 43000 → zL_submit_286 G d mc ms Qr Qx 99 0 (nI v) (nI kd) (M0.2 + 1) (o_ba O v) (ow_wp (ow_jw O v S (o_ru O) (o_wk O)) - nI (o_ru O 3) * nI (ow_wl 2 (ow_jw O v S (o_ru O) (o_wk O)))) (nI (ow_wl 1 (ow_jw O v S (o_ru O) (o_wk O)))) M c sl := by
    intro M c sl hf4 F5 hc hs
    have Z5 := ZZ.nf hf4 F5
    obtain ⟨f, b1, b2', b3⟩ := q5.nw hf4 F5 id
    have I6 := I5.lf (F5.lf hf4 hM4 jF_no)
    have hS5 := hS4.nw hf4 F5 id id
    have z15 := Z5.1
    refine rL_submit_286 (by omega) (by omega) ⟨_, _, z15, rfl, _, _, b1, vp_in_nI hv (by decide), ?_⟩
    have hb3 : f v = o_ba O v + ow_sm (jam O (ow_jw O v S (o_ru O) (o_wk O))) (ow_nl S (o_ru O 0)) := (b3 v hv).trans (if_pos rfl)
    rw [nI_clamp (by omega), hb3, jam_sum]
    refine ow_nn (by grind) ?_
    refine rL_submit_301 (by omega) (by omega) ⟨⟨_, hS5.1⟩, c_sbLen hS5 ⟨_, rfl, I6.ob, 67, 619, by omega, by omega, ?_⟩⟩
    refine c_wouldCount hG I6 hO (Nat.le_refl _) (Nat.le_refl _) (fun hx => absurd rfl (hx v (by rw [z6.1]; exact hv))) (fun j hj e hs => by rw [hsub] at hs; cases hs) (fun j kd' len' h1 e1 e2 e3 h2 h3 h4 h5 h6 => ?_) fun j kd' len' h1 e1 e2 e3 h2 h3 h4 h5 h6 M6 C6 I7 => ⟨_, rfl, ?_⟩
    · obtain ⟨k1, k2, k3⟩ := only h1 e1 e2 e3 h2 h4
      subst k1 k2 k3
      rw [r1] at h6; cases h6
    obtain ⟨k1, k2, k3⟩ := only h1 e1 e2 e3 h2 h4
    subst k1 k2 k3
    rw [hSS]
    refine ow_nn rfl ?_
    have hS6 := hS5.kp (by omega) (by omega) C6.1
    refine rL_submit_319 (by omega) (by omega) ⟨⟨_, hS6.1⟩, c_sbLen hS6 ⟨_, rfl, I7.ob, 67, 619, by omega, by omega, ?_⟩⟩
    refine c_submit hG I7 hO (Nat.le_refl _) (Nat.le_refl _) (fun hx => absurd rfl (hx v (by rw [z6.1]; exact hv))) (fun j hj e hs => by rw [hsub] at hs; cases hs) (fun j kd' len' h1 e1 e2 e3 h2 h3 h4 h5 h6 => ?_) (fun j kd' len' h1 e1 e2 e3 h2 h3 h4 h5 h6 h7 => by omega) fun j kd' len' h1 e1 e2 e3 h2 h3 h4 h5 h6 h7 M7 C7 I8 => ⟨_, rfl, ?_⟩
    · obtain ⟨k1, k2, k3⟩ := only h1 e1 e2 e3 h2 h4
      subst k1 k2 k3
      rw [r1] at h6; cases h6
    obtain ⟨k1, k2, k3⟩ := only h1 e1 e2 e3 h2 h4
    subst k1 k2 k3
    rw [hSS] at I8
    have Z7 := Z5.kp (C6.trans C7).1
    have Z7' := Z7
    obtain ⟨z17, -, -, e0', capW', xW', al', el', cp', y9', zx'⟩ := Z7'
    have hwk' : o_wk (o_in O (ow_jw O v S (o_ru O) (o_wk O))) = o_wk O + 1 := by
      unfold o_in
      rw [o_book_wk, o_book_wk]
      rfl
    refine ⟨_, _, z17, rfl, zx'.1.o, c_listSize zx'.1 ⟨_, rfl, ow_nn ?_ (Q M7 _ ⟨⟨_, _, _, _, _, _, _, _, I8⟩, ?_, hOw.sub (by rw [z6.1]; exact hv), Z7, ?_⟩)⟩⟩
    · rw [hwk']
      exact (pk_sub (a := o_wk O + 1) (b := 1) (by omega)).symm
    · unfold o_in
      exact ((hO.mor (by omega) hSok hwk).bk).bk
    · unfold o_in
      rw [o_book_dy', o_book_dy']
      show o_dy O ≤ 2 * (k + 1)
      omega
  -- its lines are counted
  have k243 : ow_fr M4 → ∀ i, i ≤ ow_nl S (o_ru O 0) → ∀ (M : kz_M) (it c sl : Nat), ow_Nw jF M4 M → M4.2 ≤ it → jI_ M it (M3.2 + 1) i (ow_nl S (o_ru O 0)) → c ≤ 3 + 3 * n + 8700 → sl ≤ 70 + 3000 * n + 43000 → zL_submit_243 G d mc ms Qr Qx 99 0 (nI v) (nI kd) (M0.2 + 1) (o_ba O v) (ow_wp (ow_jw O v S (o_ru O) (o_wk O)) - nI (o_ru O 3) * nI (ow_wl 2 (ow_jw O v S (o_ru O) (o_wk O)))) (nI (ow_cn (fun i => decide (((ow_jw O v S (o_ru O) (o_wk O)).2.2.2.2 i).2.2.2.2.1 = 0)) i)) it M c sl := by
    intro hf4
    refine ow_loop _ ?_ ?_
    · intro M it c sl F5 hi hI hc hs
      have hL := q3.2.1.nw hf4 F5 id id
      refine rL_submit_243 (by omega) (by omega) ⟨by obtain ⟨lr, h⟩ := hI; exact ⟨_, h⟩, c_hasNext hL hI (Nat.le_refl _) (by show ow_nl S (o_ru O 0) ≤ 250; omega) ?_⟩
      rw [if_pos (show ow_nl S (o_ru O 0) = (ow_jw O v S (o_ru O) (o_wk O)).2.2.2.1 from rfl)]
      refine ⟨_, rfl, ow_y rfl ?_⟩
      rw [← hwl]
      exact k286 M c sl hf4 F5 hc hs
    · intro i hi ih M it c sl F5 hi0 hI hc hs
      have hL := q3.2.1.nw hf4 F5 id id
      refine rL_submit_243 (by omega) (by omega) ⟨by obtain ⟨lr, h⟩ := hI; exact ⟨_, h⟩, c_hasNext hL hI (Nat.le_of_lt hi) (by show ow_nl S (o_ru O 0) ≤ 250; omega) ?_⟩
      rw [if_neg (show ¬ i = (ow_jw O v S (o_ru O) (o_wk O)).2.2.2.1 from Nat.ne_of_lt hi)]
      refine ⟨_, rfl, ow_n (by decide) ⟨by obtain ⟨lr, h⟩ := hI; exact ⟨_, h⟩, c_itNext hL hI hi (by show ow_nl S (o_ru O 0) ≤ 250; omega) fun M6 u1 u2 u3 => ⟨_, rfl, ?_⟩⟩⟩
      have F6 := F5.it hi0 u1 u2
      obtain ⟨aw, f, p1, p2, p3⟩ := (q3.2.2 i hi).nf hf4 F6
      refine ⟨⟨_, p1⟩, _, _, p1, rfl, ?_⟩
      have ih := ih M6 it c sl F6 hi0 u3 hc hs
      have hrs : ((ow_jw O v S (o_ru O) (o_wk O)).2.2.2.2 i).2.2.2.2.1 ≤ 3 := ow_rs_le _ _ _ _ _ _
      by_cases h0 : ((ow_jw O v S (o_ru O) (o_wk O)).2.2.2.2 i).2.2.2.2.1 = 0
      · refine ow_nn (by rw [h0]; rfl) (rL_submit_280 (by omega) (by omega) ?_)
        rw [ow_cn_t (decide_eq_true h0)] at ih
        rw [nI_1]
        exact ih
      · refine ow_yn (nI_ne0 (by omega) (by omega)) (rL_submit_280 (by omega) (by omega) ?_)
        rw [ow_cn_f (decide_eq_false h0)] at ih
        rw [show ∀ z, nI z + 0 = nI z from fun z => nI_add z 0]
        exact ih
  refine rL_submit_231 (by omega) (by omega) ⟨_, _, q3.1, rfl, q3.2.1.o, 1, 4, by omega, by omega, kz_Cfr fun hf4 => c_iter q3.2.1 (Nat.le_refl _) (Nat.le_refl _) fun M5 u1 u2 u3 => ⟨_, rfl, ?_⟩⟩
  exact k243 hf4 0 (Nat.zero_le _) M5 M4.2 _ _ u1 (Nat.le_refl _) u3 (by omega) (by omega)
end JSU
