/-! Part 78: LineOfficeLaw.appeal -/
theorem jX.inj {M : kz_M} {O : ow_O} {e0 capW : Nat} {xW al el cp : Nat → Nat} {y : Nat → Nat → Nat} (h : jX M O e0 capW xW al el cp y) {i j v k : Nat} (hi : i < o_wk O) (hj : j < (o_ws O i).2.2.2.1) (hv : v < o_wk O) (hk : k < (o_ws O v).2.2.2.1) (e : y i j = y v k) : i = v ∧ j = k := by
  have key : ∀ i j v k, i < o_wk O → j < (o_ws O i).2.2.2.1 → v < o_wk O → k < (o_ws O v).2.2.2.1 → i < v → y i j < y v k := fun i j v k hi hj hv hk hiv => by
    have h1 := (h.2.2 i hi).2.2.2.1 v hiv hv j hj
    have h2 := (h.2.2 v hv).2.2.1.1 k hk
    omega
  rcases Nat.lt_trichotomy i v with g | g | g
  · have := key i j v k hi hj hv hk g; omega
  · subst g
    have hm := (h.2.2 i hi).2.2.1.2
    refine ⟨rfl, ?_⟩
    rcases Nat.lt_trichotomy j k with g | g | g
    · have := hm j k g hk; omega
    · exact g
    · have := hm k j g hj; omega
  · have := key v k i j hv hk hi hj g; omega
theorem jX.repl {M M1 : kz_M} {O : ow_O} {e0 capW : Nat} {xW al el cp : Nat → Nat} {y : Nat → Nat → Nat} (h : jX M O e0 capW xW al el cp y) (hf : ow_fr M) {v k st : Nat} (hv : v < o_wk O) (hk : k < (o_ws O v).2.2.2.1) (g : ow_Nw (fun t => t = y v k ∨ t = 101 ∨ t = 103) M M1) (r1 : ∃ f, M.1 101 = some (.inr (.int, 3, .inl f))) (r3 : ∃ f, M.1 103 = some (.inr (.int, 3, .inl f))) (hc : ∀ fs, M.1 (y v k) = some (.inl (11, fs)) → M1.1 (y v k) = some (.inl (11, fs.set 5 (.int (nI st))))) : jX M1 (o_repl O v (ow_wst (o_ws O v) k st)) e0 capW xW al el cp y := by
  obtain ⟨fl, hyl⟩ := ((h.2.2 v hv).1.2.2 k hk).ob
  obtain ⟨f1, r1⟩ := r1
  obtain ⟨f3, r3⟩ := r3
  have no : ∀ t e, M.1 t = some e → (∀ o : Nat × List Value, e = .inl o → o.1 ≠ 11) → (∀ f, e ≠ .inr (.int, 3, .inl f)) → ¬ (t = y v k ∨ t = 101 ∨ t = 103) := fun t e he h1 h2 hp => by
    rcases hp with rfl | rfl | rfl
    · rw [hyl] at he; cases he; exact h1 _ rfl rfl
    · rw [r1] at he; cases he; exact h2 _ rfl
    · rw [r3] at he; cases he; exact h2 _ rfl
  have noL : ∀ {a e n cap : Nat} {x : Nat → Nat}, jL M a e n cap x → jL M1 a e n cap x := fun hL => by
    obtain ⟨m, v', h1, -⟩ := hL.ob
    have na := no _ _ h1 (fun o e => by cases e; exact (by decide : (16 : Nat) ≠ 11)) (fun f e => by cases e)
    refine hL.nw hf g na ?_
    rcases hL with ⟨-, z1, -, z2⟩ | ⟨-, -, z2, -⟩
    · rw [z1]; exact na
    · exact no _ _ z2 (fun o e => by cases e) (fun f e => by cases e)
  refine ⟨noL h.1, h.2.1, fun i hi => ?_⟩
  have hi : i < o_wk O := hi
  obtain ⟨⟨w1, w2, w3⟩, w4, w5, w6, w7, w8, w9⟩ := h.2.2 i hi
  have ews : o_ws (o_repl O v (ow_wst (o_ws O v) k st)) i = if i = v then ow_wst (o_ws O v) k st else o_ws O i := rfl
  have line : ∀ j, j < (o_ws O i).2.2.2.1 → (i = v ∧ j = k) ∨ jLn M1 (y i j) (o_ws O i).2.2.1 ((o_ws O i).2.2.2.2 j) := fun j hj => by
    by_cases hij : i = v ∧ j = k
    · exact Or.inl hij
    · right
      obtain ⟨aw, f, q1, q2, q3⟩ := w3 j hj
      refine ⟨aw, f, g.at hf (fun hp => ?_) q1, g.at hf (no _ _ q2 (fun o e => by cases e) (fun f e => by cases e)) q2, q3⟩
      rcases hp with hp | hp | hp
      · exact hij (h.inj hi hj hv hk hp)
      · rw [hp, r1] at q1; cases q1
      · rw [hp, r3] at q1; cases q1
  have wcell := g.at hf (no _ _ w1 (fun o e => by cases e; exact (by decide : (12 : Nat) ≠ 11)) (fun f e => by cases e)) w1
  by_cases hiv : i = v
  · subst hiv
    rw [ews, if_pos rfl]
    refine ⟨⟨wcell, noL w2, fun j hj => ?_⟩, w4, w5, fun i' h1 h2 j hj => w6 i' h1 h2 j hj, ⟨?_, fun j hj => ?_⟩, w8, w9⟩
    · rw [ow_wst_l]
      have hj : j < (o_ws O i).2.2.2.1 := hj
      by_cases hjk : j = k
      · rw [if_pos hjk, hjk]
        obtain ⟨aw, f, q1, q2, q3⟩ := w3 k hk
        exact ⟨aw, f, hc _ q1, g.at hf (no _ _ q2 (fun o e => by cases e) (fun f e => by cases e)) q2, q3⟩
      · rw [if_neg hjk]
        exact (line j hj).resolve_left fun z => hjk z.2
    · have := w7.1
      rw [ow_wst_l]
      split
      · rename_i h0; rw [← h0]; exact this
      · exact this
    · have := w7.2 j hj
      rw [ow_wst_l, ow_wst_l]
      split
      · rename_i h0
        split
        · omega
        · rw [← h0]; exact this
      · split
        · rename_i h0; rw [← h0]; exact this
        · exact this
  · rw [ews, if_neg hiv]
    refine ⟨⟨wcell, noL w2, fun j hj => (line j hj).resolve_left fun z => hiv z.1⟩, w4, w5, fun i' h1 h2 j hj => w6 i' h1 h2 j hj, w7, w8, w9⟩
theorem jrem12 : ∀ a, a < 16 → ∀ b, b < 13 → 0 < b → nI a - nI a / nI b * nI b = nI (a % b) := by decide +kernel
theorem jrem16 : ∀ a, a < 32 → ∀ b, b < 17 → 0 < b → nI a - nI a / nI b * nI b = nI (a % b) := by decide +kernel
theorem jlo_le {O : ow_O} (hO : ow_Ok1 O) (i : Nat) : jlo O i ≤ 720 := by
  unfold jlo o_ln
  have h := ow_sn_le (f := fun t => if decide ((o_ws O t).1 = i) = true then ow_wl 4 (o_ws O t) else 0) (b := 60) (n := o_wk O) fun t ht => by
    split
    · have h1 := (hO.2.2.2 t ht).2.1
      have h2 : ow_wl 4 (o_ws O t) ≤ (o_ws O t).2.2.2.1 := ow_cn_le _ _
      omega
    · omega
  have := hO.1.2.2.2.1
  refine Nat.le_trans h ?_
  omega
theorem jZ.repl {M M1 : kz_M} {O : ow_O} {e0 capW v k st : Nat} {xW al el cp : Nat → Nat} {y : Nat → Nat → Nat} {kd am : Int32} (z1 : jZo M O) (y2 : jRow M 102 3 (o_pd O)) (y4 : jRow M 104 3 (fun i => nI (o_ru O (7 + i)))) (z6 : o_nw O = 3 ∧ 1 ≤ o_ru O 1) (zx : jX M O e0 capW xW al el cp y) (hf : ow_fr M) (hv : v < o_wk O) (hk : k < (o_ws O v).2.2.2.1) (hs1 : ((o_ws O v).2.2.2.2 k).2.2.2.2.2 = 1) (g : ow_Nw (fun t => t = y v k ∨ t = 101 ∨ t = 103) M M1) (r1 : ∃ f, M.1 101 = some (.inr (.int, 3, .inl f))) (r3 : ∃ f, M.1 103 = some (.inr (.int, 3, .inl f))) (hc : ∀ fs, M.1 (y v k) = some (.inl (11, fs)) → M1.1 (y v k) = some (.inl (11, fs.set 5 (.int (nI st))))) (h101 : jRow M1 101 3 (fun i => if i = (o_ws O v).1 then o_ba O (o_ws O v).1 + am else o_ba O i)) (h103 : jRow M1 103 3 (fun i => nI (jlo O i + (if i = (o_ws O v).1 ∧ st = 3 then 1 else 0)))) : jZ M1 (o_book (o_repl O v (ow_wst (o_ws O v) k st)) (o_ws O v).1 kd am) := by
  obtain ⟨fl, hyl⟩ := ((zx.2.2 v hv).1.2.2 k hk).ob
  have hno : ∀ t e, M.1 t = some e → (∀ o : Nat × List Value, e = .inl o → o.1 ≠ 11) → t ≠ 101 → t ≠ 103 → ¬ (t = y v k ∨ t = 101 ∨ t = 103) := fun t e he h1 h2 h3 hp => by
    rcases hp with rfl | rfl | rfl
    · rw [hyl] at he; cases he; exact h1 _ rfl rfl
    · exact h2 rfl
    · exact h3 rfl
  have rw3 : ∀ {t : Nat} {gg : Nat → Int32}, t ≠ 101 → t ≠ 103 → jRow M t 3 gg → jRow M1 t 3 gg := fun ht1 ht2 ⟨f, p1, p2⟩ => ⟨f, g.at hf (hno _ _ p1 (fun o e => by cases e) ht1 ht2) p1, p2⟩
  refine ⟨?_, ⟨?_, ?_, ?_, ?_⟩, ?_, e0, capW, xW, al, el, cp, y, (zx.repl hf hv hk g r1 r3 hc).to ?_ ?_⟩
  · have := g.at hf (hno _ _ z1 (fun o e => by cases e; exact (by decide : (13 : Nat) ≠ 11)) (by decide) (by decide)) z1
    unfold jZo jfs
    rw [o_book_mo', o_book_dy', o_book_ru]
    exact this
  · obtain ⟨f, p1, p2, p3⟩ := h101
    refine ⟨f, p1, p2, fun i hi => (p3 i hi).trans ?_⟩
    rw [o_book_ba]
    rfl
  · rw [o_book_pd']
    exact rw3 (by decide) (by decide) y2
  · obtain ⟨f, p1, p2, p3⟩ := h103
    refine ⟨f, p1, p2, fun i hi => (p3 i hi).trans (congrArg nI ?_)⟩
    rw [← jlo_repl hv hk hs1 i]
    exact (jlo_ws (O := o_repl O v (ow_wst (o_ws O v) k st)) (by rw [o_book_ws']) (by rw [o_book_wk]) i).symm
  · rw [o_book_ru]
    exact rw3 (by decide) (by decide) y4
  · rw [o_book_nw, o_book_ru]; exact z6
  · rw [o_book_wk]
  · rw [o_book_ws']
theorem ow_Ow.repl {O : ow_O} {v k st : Nat} {w : Nat} {kd am : Int32} (h : ow_Ow O) : ow_Ow (o_book (o_repl O v (ow_wst (o_ws O v) k st)) w kd am) := fun i hi => by
  rw [o_book_wk] at hi
  rw [o_book_ws', o_book_nw]
  show (if i = v then ow_wst (o_ws O v) k st else o_ws O i).1 < o_nw O
  by_cases hiv : i = v
  · rw [if_pos hiv]
    have := h i hi
    rw [hiv] at this
    exact this
  · rw [if_neg hiv]; exact h i hi
section JAP
variable {G : kz_G} {d mc ms : Nat} {Qr : Option Value → kz_M → Prop} {Qx : String → kz_M → Prop} {M0 : kz_M} {O : ow_O}
theorem jV.up {M : kz_M} {k : Nat} (h : jV M O k) : jV M O (k + 1) := by
  obtain ⟨h1, h2, h3, h4, h5⟩ := h
  exact ⟨h1, h2, h3, h4, by omega⟩
theorem c_appealL {k : Nat} {x : Int32} (hG : kz_stat G) (V : jV M0 O k) (hwk : 0 < o_wk O) (hmc : 20 ≤ mc) (hms : 150 ≤ ms) (Q : ∀ M1 O', jV M1 O' (k + 1) → Qr (some (.int 1)) M1) : kz_C G (d + 10) mc ms mL_appeal [.ref 99, .ref 0, .int x] M0 Qr Qx := by
  have V0 := V
  obtain ⟨⟨hn, h, sv, isS, er, ea, b, lt, I⟩, hO, hOw, ⟨z1, ⟨⟨f1, a1, a2, a3⟩, y2, ⟨f3, b1, b2, b3⟩, y4⟩, z6, e0, capW, xW, al, el, cp, y, zx⟩, hd⟩ := V
  have h12 := hO.1.2.2.2.1
  have ha : jbt x 3 4 < 16 := jbt_lt x 3 4
  have hb : jbt x 7 5 < 32 := jbt_lt x 7 5
  have hlim : ∀ i, i < 10 → o_ru O i ≤ 99 := hO.2.1
  refine rL_appeal_0 (c_bits (f := 3) (m := 4) rfl rfl (by decide) (by decide) ⟨_, rfl, _, _, z1, rfl, zx.1.o, c_listSize zx.1 ⟨_, rfl, nI_ne0 hwk (by omega), _, _, z1, rfl, zx.1.o, ?_⟩⟩)
  rw [jrem12 _ ha _ (by omega) hwk]
  have hv : jbt x 3 4 % o_wk O < o_wk O := Nat.mod_lt _ hwk
  generalize jbt x 3 4 % o_wk O = v at hv
  obtain ⟨w1, w4, w5, w6, w7, w8, w9⟩ := zx.2.2 v hv
  refine c_listGet zx.1 hv (by omega) ⟨_, rfl, ⟨_, w1.1⟩, ?_⟩
  refine rL_appeal_32 (by omega) (by omega) (c_bits (f := 7) (m := 5) rfl rfl (by decide) (by decide) ⟨_, rfl, _, _, w1.1, rfl, w1.2.1.o, c_listSize w1.2.1 ⟨_, rfl, nI_ne0 w8 (by omega), ?_⟩⟩)
  rw [jrem16 _ hb _ (by omega) w8]
  have hk : jbt x 7 5 % (o_ws O v).2.2.2.1 < (o_ws O v).2.2.2.1 := Nat.mod_lt _ w8
  generalize jbt x 7 5 % (o_ws O v).2.2.2.1 = j at hk
  have hln := w1.2.2 j hk
  obtain ⟨aw, fw, q1, q2, q3⟩ := hln
  have hln : jLn M0 (y v j) (o_ws O v).2.2.1 ((o_ws O v).2.2.2.2 j) := ⟨aw, fw, q1, q2, q3⟩
  have hWok := hO.2.2.2 v hv
  have hst := (hWok.2.2.2.2 j hk).2.2.2
  have hvw : (o_ws O v).1 < 3 := by rw [← z6.1]; exact hOw v hv
  have hlo := jlo_le hO (o_ws O v).1
  have h4 := hlim 4 (by omega)
  have hdy := hO.1.1
  have hwd := hWok.2.2.2.1
  refine rL_appeal_52 (by omega) (by omega) ⟨_, _, w1.1, rfl, w1.2.1.o, c_listGet w1.2.1 hk (by omega) ⟨_, rfl, ⟨_, q1⟩, ?_⟩⟩
  -- behind the class's call
  have k124 : zL_appeal_124 G d mc ms Qr Qx 99 0 (nI v) (xW v) (nI j) (y v j) (nI (o_obj O (o_ws O v) ((o_ws O v).2.2.2.2 j))) M0 0 0 := by
    have only : ∀ j' k', j' < o_wk O → nI v = nI j' → k' < (o_ws O j').2.2.2.1 → nI j = nI k' → v = j' ∧ j = k' := fun j' k' h1 h2 h3 h4' => by
      have e1 := (nI_eq (by omega) (by omega)).mp h2
      subst e1
      exact ⟨rfl, (nI_eq (by omega) (by omega)).mp h4'⟩
    refine rL_appeal_124 (by omega) (by omega) ⟨I.ob, 20, 150, by omega, by omega, c_appeal hG I hO hOw (by omega) (by omega) (fun hx => (hx v j hv hk rfl rfl).elim) (fun j' k' h1 h2 h3 h5 h6 => ?_) (fun j' k' h1 h2 h3 h5 h6 h7 M1 C1 I1 => ?_) (fun j' k' h1 h2 h3 h5 h6 h7 M1 C1 I1 => ?_)⟩
    · obtain ⟨e1, e2⟩ := only j' k' h1 h2 h3 h5
      subst e1 e2
      have hob : o_obj O (o_ws O v) ((o_ws O v).2.2.2.2 j) ≤ 3 := by unfold o_obj; repeat' split
                                                                     all_goals omega
      exact ⟨_, rfl, ow_n (nI_nle (by omega) (by omega)) (ow_nn rfl (Q M0 O V0.up))⟩
    · obtain ⟨e1, e2⟩ := only j' k' h1 h2 h3 h5
      subst e1 e2
      rw [h6]
      have hs1 : ((o_ws O v).2.2.2.2 j).2.2.2.2.2 = 1 := by
        unfold o_obj at h6
        by_cases hs : ((o_ws O v).2.2.2.2 j).2.2.2.2.2 = 1
        · exact hs
        · rw [if_neg hs] at h6; cases h6
      refine ⟨_, rfl, ow_y (by decide) ?_⟩
      refine kz_Zfr fun hf1 => ?_
      show zL_appeal_152 G d mc ms Qr Qx 99 (xW v) (y v j) 0 M1 (0 + 20) (0 + 150)
      have hdf : ow_df (o_ws O v).2.2.1.2.2.1 ((o_ws O v).2.2.2.2 j).1 ((o_ws O v).2.2.2.2 j).2.1 < o_ru O 5 := by
        unfold sp_gr at h7
        have := of_decide_eq_false h7
        omega
      have c1 := C1.1 _ _ (show 99 ≤ 99 by decide) z1
      have cL := hln.kp C1.1
      have cq := C1.1 _ _ q3.1.2.2.2 q1
      have cw := (w1.kp (by omega) w4.2.1 w4.2.2 C1.1).1
      have cB := C1.1 _ _ (show 99 ≤ 101 by decide) a1
      have cT := C1.1 _ _ (show 99 ≤ 103 by decide) b1
      have hru5 := hlim 5 (by omega)
      refine rL_appeal_152 (by omega) (by omega) (c_distinctOf cL cL.bd ⟨_, rfl, _, _, c1, rfl, ow_y (nI_lt hdf (by omega)) ?_⟩)
      have hy : y v j ≠ 99 ∧ y v j ≠ 101 ∧ y v j ≠ 103 ∧ y v j ≠ xW v := ⟨(fun z => by rw [z, z1] at q1; cases q1), (fun z => by rw [z, a1] at q1; cases q1), (fun z => by rw [z, b1] at q1; cases q1), (fun z => by rw [z, w1.1] at q1; cases q1)⟩
      have hxw : xW v ≠ 101 ∧ xW v ≠ 103 := ⟨by omega, by omega⟩
      refine rL_appeal_205 (by omega) (by omega) ⟨_, cq, ow_l rfl, _, _, (kz_up_ne hy.1.symm).trans c1, rfl, _, _, (kz_up_ne hy.2.2.2.symm).trans cw, rfl, _, _, (kz_up_ne hy.2.2.1.symm).trans cT, vp_in_nI hvw (by decide), _, _, (kz_up_ne hy.2.2.1.symm).trans cT, vp_in_nI hvw (by decide), ?_⟩
      refine rL_appeal_225 (by omega) (by omega) ⟨_, _, (kz_up_ne (by decide)).trans ((kz_up_ne hy.1.symm).trans c1), rfl, _, _, (kz_up_ne hxw.2).trans ((kz_up_ne hy.2.2.2.symm).trans cw), rfl, _, _, (kz_up_ne (by decide)).trans ((kz_up_ne hy.2.1.symm).trans cB), vp_in_nI hvw (by decide), _, _, (kz_up_ne (by decide)).trans ((kz_up_ne hy.1.symm).trans c1), rfl, _, _, (kz_up_ne (by decide)).trans ((kz_up_ne hy.2.1.symm).trans cB), vp_in_nI hvw (by decide), ?_⟩
      rw [nI_clamp (by omega)]
      have F : ow_Nw (fun t => t = y v j ∨ t = 101 ∨ t = 103) M1 (kz_up (kz_up (kz_up M1 (y v j) (.inl (11, List.set [.ref aw, .int (nI (((o_ws O v).2.2.2.2 j).2.1 - ((o_ws O v).2.2.2.2 j).1)), .int ((o_ws O v).2.2.2.2 j).2.2.1, .int ((o_ws O v).2.2.2.2 j).2.2.2.1, .int (nI ((o_ws O v).2.2.2.2 j).2.2.2.2.1), .int (nI ((o_ws O v).2.2.2.2 j).2.2.2.2.2)] 5 (.int 3)))) 103 (.inr (.int, 3, .inl (upd f3 (o_ws O v).1 (f3 (o_ws O v).1 + 1))))) 101 (.inr (.int, 3, .inl (upd f1 (o_ws O v).1 (f1 (o_ws O v).1 - nI (o_ru O 6)))))) := ⟨fun t ht hp => (kz_up_ne (fun z => hp (Or.inr (Or.inl z)))).trans ((kz_up_ne (fun z => hp (Or.inr (Or.inr z)))).trans (kz_up_ne fun z => hp (Or.inl z))), Nat.le_refl _⟩
      have L : ow_LF M1 _ := jP3.lf F hf1 (by have := V0.m99; have := C1.2.2; omega) fun t ht => ⟨by rcases ht with rfl | rfl | rfl <;> omega, fun e he => by
        rcases ht with rfl | rfl | rfl
        · rw [cq] at he; cases he; exact Or.inl ⟨_, rfl, (by decide : (11 : Nat) ≤ 11)⟩
        · rw [cB] at he; cases he; exact Or.inr ⟨_, _, rfl, a2⟩
        · rw [cT] at he; cases he; exact Or.inr ⟨_, _, rfl, b2⟩⟩
      refine rL_appeal_242 (by omega) (by omega) (ow_nn rfl (Q _ (o_lose O v j) ⟨⟨_, _, _, _, _, _, _, _, I1.lf L⟩, (hO.rpl hv hk (by decide)).bk, hOw.repl, ?_, ?_⟩))
      · refine jZ.repl c1 (y2.kp (by decide) C1.1) (y4.kp (by decide) C1.1) z6 (zx.kp C1.1) hf1 hv hk hs1 F ⟨_, cB⟩ ⟨_, cT⟩ (fun fs hfs => ?_) ⟨_, kz_up_same _ _ _, ?_, fun i hi => ?_⟩ ⟨_, (kz_up_ne (by decide)).trans (kz_up_same _ _ _), ?_, fun i hi => ?_⟩
        · rw [cq] at hfs
          cases hfs
          exact (kz_up_ne hy.2.1).trans ((kz_up_ne hy.2.2.1).trans (kz_up_same _ _ _))
        · unfold upd; rw [if_neg (by omega)]; exact a2
        · unfold upd
          dsimp only
          by_cases hiv : i = (o_ws O v).1
          · rw [if_pos hiv, if_pos hiv, a3 _ hvw, Int32.sub_eq_add_neg]
          · rw [if_neg hiv, if_neg hiv]; exact a3 i hi
        · unfold upd; rw [if_neg (by omega)]; exact b2
        · unfold upd
          dsimp only
          by_cases hiv : i = (o_ws O v).1
          · rw [if_pos hiv, if_pos ⟨hiv, rfl⟩, b3 _ hvw, hiv]
            exact nI_1 _
          · rw [if_neg hiv, if_neg (fun z => hiv z.1)]; exact b3 i hi
      · unfold o_lose
        rw [o_book_dy']
        show o_dy O ≤ 2 * (k + 1)
        omega
    · obtain ⟨e1, e2⟩ := only j' k' h1 h2 h3 h5
      subst e1 e2
      rw [h6]
      have hs1 : ((o_ws O v).2.2.2.2 j).2.2.2.2.2 = 1 := by
        unfold o_obj at h6
        by_cases hs : ((o_ws O v).2.2.2.2 j).2.2.2.2.2 = 1
        · exact hs
        · rw [if_neg hs] at h6; cases h6
      refine ⟨_, rfl, ow_y (by decide) ?_⟩
      refine kz_Zfr fun hf1 => ?_
      show zL_appeal_152 G d mc ms Qr Qx 99 (xW v) (y v j) 1 M1 (0 + 20) (0 + 150)
      have hdf : o_ru O 5 ≤ ow_df (o_ws O v).2.2.1.2.2.1 ((o_ws O v).2.2.2.2 j).1 ((o_ws O v).2.2.2.2 j).2.1 := by
        unfold sp_gr at h7
        exact of_decide_eq_true h7
      have c1 := C1.1 _ _ (show 99 ≤ 99 by decide) z1
      have cL := hln.kp C1.1
      have cq := C1.1 _ _ q3.1.2.2.2 q1
      have cw := (w1.kp (by omega) w4.2.1 w4.2.2 C1.1).1
      have cB := C1.1 _ _ (show 99 ≤ 101 by decide) a1
      have cT := C1.1 _ _ (show 99 ≤ 103 by decide) b1
      have hru5 := hlim 5 (by omega)
      have hdb : ow_df (o_ws O v).2.2.1.2.2.1 ((o_ws O v).2.2.2.2 j).1 ((o_ws O v).2.2.2.2 j).2.1 ≤ ((o_ws O v).2.2.2.2 j).2.1 := ow_cn_le _ _
      have hbd := hln.bd
      refine rL_appeal_152 (by omega) (by omega) (c_distinctOf cL cL.bd ⟨_, rfl, _, _, c1, rfl, ow_n (nI_nlt hdf (by omega)) ?_⟩)
      have hy : y v j ≠ 99 ∧ y v j ≠ 101 ∧ y v j ≠ 103 ∧ y v j ≠ xW v := ⟨(fun z => by rw [z, z1] at q1; cases q1), (fun z => by rw [z, a1] at q1; cases q1), (fun z => by rw [z, b1] at q1; cases q1), (fun z => by rw [z, w1.1] at q1; cases q1)⟩
      refine rL_appeal_164 (by omega) (by omega) ⟨_, cq, ow_l rfl, _, _, (kz_up_ne hy.1.symm).trans c1, rfl, _, _, (kz_up_ne hy.2.2.2.symm).trans cw, rfl, _, _, (kz_up_ne hy.2.1.symm).trans cB, vp_in_nI hvw (by decide), _, _, kz_up_same _ _ _, rfl, _, _, (kz_up_ne hy.1.symm).trans c1, rfl, _, _, (kz_up_ne hy.2.1.symm).trans cB, vp_in_nI hvw (by decide), fun M3 e3 => ?_⟩
      rw [nI_clamp (by omega)] at e3
      have N : ∀ t, t ≠ y v j → t ≠ 101 → M3.1 t = M1.1 t := fun t h1 h2 => by rw [e3, kz_up_ne h2, kz_up_ne h1]
      have N1 : M3.1 101 = some (.inr (.int, 3, .inl (upd f1 (o_ws O v).1 (f1 (o_ws O v).1 + (((o_ws O v).2.2.2.2 j).2.2.2.1 + nI (o_ru O 3)))))) := by rw [e3, kz_up_same]
      have N2 : M3.1 (y v j) = some (.inl (11, List.set [.ref aw, .int (nI (((o_ws O v).2.2.2.2 j).2.1 - ((o_ws O v).2.2.2.2 j).1)), .int ((o_ws O v).2.2.2.2 j).2.2.1, .int ((o_ws O v).2.2.2.2 j).2.2.2.1, .int (nI ((o_ws O v).2.2.2.2 j).2.2.2.2.1), .int (nI ((o_ws O v).2.2.2.2 j).2.2.2.2.2)] 5 (.int (nI 2)))) := by rw [e3, kz_up_ne hy.2.1, kz_up_same]; rfl
      have N3 : M3.2 = M1.2 := by rw [e3]; rfl
      have F : ow_Nw (fun t => t = y v j ∨ t = 101 ∨ t = 103) M1 M3 := ⟨fun t ht hp => N t (fun z => hp (Or.inl z)) (fun z => hp (Or.inr (Or.inl z))), by omega⟩
      have L : ow_LF M1 M3 := jP3.lf F hf1 (by have := V0.m99; have := C1.2.2; omega) fun t ht => ⟨by rcases ht with rfl | rfl | rfl <;> omega, fun e he => by
        rcases ht with rfl | rfl | rfl
        · rw [cq] at he; cases he; exact Or.inl ⟨_, rfl, (by decide : (11 : Nat) ≤ 11)⟩
        · rw [cB] at he; cases he; exact Or.inr ⟨_, _, rfl, a2⟩
        · rw [cT] at he; cases he; exact Or.inr ⟨_, _, rfl, b2⟩⟩
      refine rL_appeal_193 (by omega) (by omega) (ow_nn rfl (Q _ (o_gain O v j) ⟨⟨_, _, _, _, _, _, _, _, I1.lf L⟩, (hO.rpl hv hk (by decide)).bk, hOw.repl, ?_, ?_⟩))
      · refine jZ.repl c1 (y2.kp (by decide) C1.1) (y4.kp (by decide) C1.1) z6 (zx.kp C1.1) hf1 hv hk hs1 F ⟨_, cB⟩ ⟨_, cT⟩ (fun fs hfs => ?_) ⟨_, N1, ?_, fun i hi => ?_⟩ ⟨_, (N 103 hy.2.2.1.symm (by decide)).trans cT, b2, fun i hi => ?_⟩
        · rw [cq] at hfs
          cases hfs
          exact N2
        · unfold upd; rw [if_neg (by omega)]; exact a2
        · unfold upd
          dsimp only
          by_cases hiv : i = (o_ws O v).1
          · rw [if_pos hiv, if_pos hiv, a3 _ hvw]
          · rw [if_neg hiv, if_neg hiv]; exact a3 i hi
        · dsimp only
          rw [if_neg (fun z => absurd z.2 (by decide))]; exact b3 i hi
      · unfold o_gain
        rw [o_book_dy']
        show o_dy O ≤ 2 * (k + 1)
        omega
  -- the law's own reason
  have hru4 : (jfs O)[10]? = some (.int (nI (o_ru O 4))) := rfl
  refine rL_appeal_69 (by omega) (by omega) ⟨_, _, q1, rfl, ?_⟩
  by_cases hs : ((o_ws O v).2.2.2.2 j).2.2.2.2.2 = 1
  · refine ow_y (by rw [hs]; rfl) ⟨_, _, z1, rfl, _, _, w1.1, rfl, _, _, z1, rfl, ?_⟩
    rw [nI_add]
    by_cases hl : (o_ws O v).2.1 + o_ru O 4 < o_dy O
    · refine ow_n (nI_ge hl (by omega)) ?_
      have e : o_obj O (o_ws O v) ((o_ws O v).2.2.2.2 j) = 2 := by
        unfold o_obj o_late
        rw [if_pos hs, decide_eq_true hl, if_pos rfl]
      rw [e] at k124
      exact k124
    · refine ow_y (nI_le (by omega) (by omega)) ⟨_, _, z1, rfl, _, _, w1.1, rfl, _, _, b1, vp_in_nI hvw (by decide), ?_⟩
      rw [nI_clamp (by omega), b3 _ hvw]
      have hlt : o_late O (o_ws O v) = false := decide_eq_false hl
      by_cases h3 : 3 ≤ jlo O (o_ws O v).1
      · refine ow_n (nI_ge (a := 2) (b := jlo O (o_ws O v).1) (by omega) (by omega)) ?_
        have e : o_obj O (o_ws O v) ((o_ws O v).2.2.2.2 j) = 3 := by
          unfold o_obj o_lost
          rw [if_pos hs, hlt, if_neg (by decide), decide_eq_true h3, if_pos rfl]
        rw [e] at k124
        exact k124
      · refine ow_y (nI_le (a := jlo O (o_ws O v).1) (b := 2) (by omega) (by decide)) ?_
        have e : o_obj O (o_ws O v) ((o_ws O v).2.2.2.2 j) = 0 := by
          unfold o_obj o_lost
          rw [if_pos hs, hlt, if_neg (by decide), decide_eq_false h3, if_neg (by decide)]
        rw [e] at k124
        exact k124
  · refine ow_n (fun z => hs ((nI_eq (b := 1) (by omega) (by decide)).mp z)) ?_
    have e : o_obj O (o_ws O v) ((o_ws O v).2.2.2.2 j) = 1 := by
      unfold o_obj
      rw [if_neg hs]
    rw [e] at k124
    exact k124
end JAP
