/-! Part 73: LineOfficeLaw.handsIn -/
theorem j_mul (a b : Nat) : nI a * nI b = nI (a * b) := (Int32.ofNat_mul a b).symm
/-- an int row of the law's -/
def jRow (M : kz_M) (a n : Nat) (g : Nat → Int32) : Prop := ∃ f, M.1 a = some (.inr (.int, n, .inl f)) ∧ f 100000 = 1 ∧ ∀ i, i < n → f i = g i
/-- the law's object -/
abbrev jfs (O : ow_O) : List Value := [.ref 100, .ref 101, .ref 102, .ref 103, .int (nI (o_mo O)), .int (nI (o_dy O)), .int (nI (o_ru O 0)), .int (nI (o_ru O 1)), .int (nI (o_ru O 2)), .int (nI (o_ru O 3)), .int (nI (o_ru O 4)), .int (nI (o_ru O 5)), .int (nI (o_ru O 6)), .ref 104, .ref 105]
def jZo (M : kz_M) (O : ow_O) : Prop := M.1 99 = some (.inl (13, jfs O))
/-- what a line brings its writer -/
def jam (O : ow_O) (w : ow_W) (i : Nat) : Int32 := if (w.2.2.2.2 i).2.2.2.2.1 = 0 then (w.2.2.2.2 i).2.2.2.1 else -(nI (o_ru O 3))
/-- the lines of a work lie behind it, one behind the other -/
def jOd (M : kz_M) (a n : Nat) (y : Nat → Nat) : Prop := (∀ j, j < n → a < y j ∧ y j < M.2) ∧ ∀ j j', j < j' → j' < n → y j < y j'
theorem jRow.nw {P : Nat → Prop} {M M1 : kz_M} {a n : Nat} {g : Nat → Int32} (h : jRow M a n g) (hf : ow_fr M) (F : ow_Nw P M M1) (hP : ¬ P a) : jRow M1 a n g := by
  obtain ⟨f, h1, h2⟩ := h
  exact ⟨f, F.at hf hP h1, h2⟩
theorem jWk.nw {P : Nat → Prop} {M M1 : kz_M} {a al e cap : Nat} {y : Nat → Nat} {w : ow_W} (h : jWk M a al e cap y w) (hf : ow_fr M) (g : ow_Nw P M M1) (hP : ∀ k, P k → ∀ e, M.1 k = some e → (∃ o : Nat × List Value, e = .inl o ∧ o.1 ≠ 11) ∨ (∃ n f, e = .inr (.int, n, .inl f) ∧ n ≠ 20) ∨ ∃ n f, e = .inr (.object "java/lang/Object", n, f)) (h1 : ¬ P a) (h2 : ¬ P al) (h3 : ¬ P e) : jWk M1 a al e cap y w :=
  ⟨g.at hf h1 h.1, h.2.1.nw hf g h2 h3, fun i hi => (h.2.2 i hi).nw hf g hP⟩
section JHA
variable {G : kz_G} {d mc ms : Nat} {Qr : Option Value → kz_M → Prop} {Qx : String → kz_M → Prop} {M0 : kz_M}
theorem c_handsIn {kd v tot x3 e0 capW : Nat} {xW : Nat → Nat} {O : ow_O} {s : ow_S} {f3 : Nat → Int32} {sc q : Nat → Nat} (hG2 : kz_stat2 G) (hZ : jZo M0 O) (hL : jL M0 100 e0 (o_wk O) capW xW) (hW : ∀ i, i < o_wk O → ∃ al e cap y, jWk M0 (xW i) al e cap y (o_ws O i)) (hB : jRow M0 101 3 (o_ba O)) (hR : jRow M0 104 3 (fun i => nI (o_ru O (7 + i)))) (hO : ow_Ok1 O) (hm : ∀ i, i < o_wk O → (o_ws O i).2.2.2.1 ≤ 16) (hwk : o_wk O < 12) (hv : v < 3) (hkd : kd = s.1) (hk2 : s.1 ≤ 2) (h3 : M0.1 x3 = some (.inr (.int, 40, .inl f3))) (hJ : jWd f3 s tot sc q) (hru : 1 ≤ o_ru O 1) (hmc : 8000 ≤ mc) (hms : 40000 ≤ ms)
    (Q : ∀ M1 el capl yl e1 cap1, ow_Nw (fun k => k = 101 ∨ k = 100 ∨ k = e0) M0 M1 → jL M1 100 e1 (o_wk O + 1) cap1 (ja xW (o_wk O) M0.2) → (e1 = e0 ∨ M0.2 ≤ e1) → jWk M1 M0.2 (M0.2 + 1) el capl yl (ow_jw O v s (o_ru O) (o_wk O)) → M0.2 + 1 ≤ el → jOd M1 M0.2 (ow_nl s (o_ru O 0)) yl → jRow M1 101 3 (fun j => if j = v then o_ba O v + ow_sm (jam O (ow_jw O v s (o_ru O) (o_wk O))) (ow_nl s (o_ru O 0)) else o_ba O j) → Qr (some (.ref M0.2)) M1) : kz_C G (d + 8) mc ms mL_handsIn [.ref 99, .int (nI v), .int (nI kd), .ref x3, .int (nI tot)] M0 Qr Qx := by
  refine kz_Cfr fun hf0 => ?_
  have htot := hJ.tot
  have hJ0 := hJ
  obtain ⟨w1, w2, w3, w4, w5, w6⟩ := hJ0
  obtain ⟨hit, hend, hnl⟩ := ow_it_nl s (o_ru O 0) s.2.1 0 (by omega) (Nat.zero_le _)
  have hnl16 : ow_nl s (o_ru O 0) ≤ 16 := by unfold ow_nl; omega
  have hme : ∀ i, i < 10 → o_ru O i ≤ 99 := hO.2.1
  have hme0 := hme 0 (by omega)
  have h99 : 99 < M0.2 := hf0 _ _ hZ
  have hLo := hL.lt hf0
  have hB101 : 101 < M0.2 := by obtain ⟨f, h, -⟩ := hB; exact hf0 _ _ h
  have hx3 : x3 ≠ 101 := fun e => by
    obtain ⟨f, h, -⟩ := hB
    rw [e, h] at h3
    cases h3
  have h101t : ∀ k, k = 101 → ∀ e, M0.1 k = some e → (∃ o : Nat × List Value, e = .inl o ∧ o.1 ≠ 11) ∨ (∃ n f, e = .inr (.int, n, .inl f) ∧ n ≠ 20) ∨ ∃ n f, e = .inr (.object "java/lang/Object", n, f) := by
    intro k hk e he
    obtain ⟨f, h, -⟩ := hB
    rw [hk, h] at he
    cases he
    exact Or.inr (Or.inl ⟨3, f, rfl, by decide⟩)
  have h100 : (100 : Nat) ≠ 101 := by decide
  have he101 : e0 ≠ 101 := fun z => by
    obtain ⟨f, h, -⟩ := hB
    rcases hL with ⟨-, z1, -, -⟩ | ⟨-, -, z2, -⟩
    · omega
    · rw [z, h] at z2; cases z2
  -- the state behind i lines
  have key : ∀ i, i ≤ ow_nl s (o_ru O 0) → ∀ (M : kz_M) (el capl : Nat) (yl : Nat → Nat) (c sl : Nat), ow_Nw (fun k => k = 101) M0 M → M0.2 + 2 ≤ M.2 → M.1 M0.2 = some (.inl (12, [.int (nI v), .int (nI (o_dy O)), .ref (M0.2 + 1)])) → jL M (M0.2 + 1) el i capl yl → M0.2 + 1 ≤ el → (∀ j, j < i → jLn M (yl j) s ((ow_jw O v s (o_ru O) (o_wk O)).2.2.2.2 j)) → jOd M (M0.2 + 1) i yl → jRow M 101 3 (fun j => if j = v then o_ba O v + ow_sm (jam O (ow_jw O v s (o_ru O) (o_wk O))) i else o_ba O j) → c ≤ 4 + 410 * i → sl ≤ 10 + 1700 * i → zL_handsIn_27 G d mc ms Qr Qx 99 (nI v) (nI kd) x3 (nI tot) M0.2 (nI (jps s tot sc (ow_it s (o_ru O 0) i 0))) M c sl := by
    refine ow_loop _ ?_ ?_
    · intro M el capl yl c sl F hM hwc hl hel hln hod hrow hc hs
      refine kz_Zfr fun hfM => ?_
      have hLM := hL.nw hf0 F h100 he101
      have hWM : jE M 12 (o_wk O) xW := fun i hi => by
        obtain ⟨al, e, cap, y, h⟩ := hW i hi
        exact ⟨_, F.at hf0 (fun z => by have := h.1; rw [z] at this; obtain ⟨f, h', -⟩ := hB; rw [h'] at this; cases this) h.1⟩
      have hlo : ∃ fs, M.1 100 = some (.inl (16, fs)) := by
        obtain ⟨m, v', h, -⟩ := hLM.ob
        exact ⟨_, h⟩
      have hps : jps s tot sc (ow_it s (o_ru O 0) (ow_nl s (o_ru O 0)) 0) = tot := by
        unfold jps
        rw [show ow_it s (o_ru O 0) (ow_nl s (o_ru O 0)) 0 = s.2.1 from hend, if_neg (Nat.lt_irrefl _)]
      show zL_handsIn_27 G d mc ms Qr Qx 99 (nI v) (nI kd) x3 (nI tot) M0.2 (nI (jps s tot sc (ow_it s (o_ru O 0) (ow_nl s (o_ru O 0)) 0))) M c sl
      rw [hps]
      refine rL_handsIn_27 (by omega) (by omega) (ow_y (nI_le (Nat.le_refl _) (by omega)) ⟨_, _, F.at hf0 (by decide) hZ, rfl, hlo, 1, 300, by omega, by omega, ?_⟩)
      refine c_listAdd hG2 hLM jcO_12 hWM hwc (by decide) (by omega) (fun _ => Nat.le_refl _) (fun _ => by unfold jgr; split <;> omega) fun M1 e1 cap1 g1 g2 g3 g4 g5 g6 => ⟨_, rfl, ?_⟩
      have hjt : ∀ k, jJ 100 e0 k → ∀ e, M.1 k = some e → (∃ o : Nat × List Value, e = .inl o ∧ o.1 ≠ 11) ∨ (∃ n f, e = .inr (.int, n, .inl f) ∧ n ≠ 20) ∨ ∃ n f, e = .inr (.object "java/lang/Object", n, f) := by
        intro k hk e he
        obtain ⟨m, v', h, -⟩ := hLM.ob
        rcases hk with rfl | rfl
        · rw [h] at he; cases he; exact Or.inl ⟨_, rfl, show (16 : Nat) ≠ 11 by decide⟩
        · rcases hLM with ⟨-, z1, -, -⟩ | ⟨-, -, z2, -⟩
          · rw [z1, h] at he; cases he; exact Or.inl ⟨_, rfl, show (16 : Nat) ≠ 11 by decide⟩
          · rw [z2] at he; cases he; exact Or.inr (Or.inr ⟨_, _, rfl⟩)
      have hwk2 : jWk M M0.2 (M0.2 + 1) el capl yl (ow_jw O v s (o_ru O) (o_wk O)) := ⟨hwc, hl, hln⟩
      refine Q M1 el capl yl e1 cap1 ⟨fun k hk hp => ?_, Nat.le_trans F.2 g1.2⟩ g3 (by rcases g4 with h | h; exact Or.inl h; right; omega) (hwk2.nw hfM g1 hjt (by unfold jJ; omega) (by unfold jJ; omega) (by unfold jJ; omega)) hel ⟨fun j hj => ?_, hod.2⟩ (hrow.nw hfM g1 (by unfold jJ; omega))
      · exact (g1.1 k (Nat.lt_of_lt_of_le hk F.2) fun z => hp (Or.inr z)).trans (F.1 k hk fun z => hp (Or.inl z))
      · have := hod.1 j hj
        have := g1.2
        omega
    · intro i hi ih M el capl yl c sl F hM hwc hl hel hln hod hrow hc hs
      refine kz_Zfr fun hfM => ?_
      show zL_handsIn_27 G d mc ms Qr Qx 99 (nI v) (nI kd) x3 (nI tot) M0.2 (nI (jps s tot sc (ow_it s (o_ru O 0) i 0))) M c sl
      have ha := hit i hi
      have hab := ow_le_gt s (o_ru O 0) (ow_it s (o_ru O 0) i 0)
      have hbl := ow_le_le (me := o_ru O 0) ha
      have hits := ow_it_s s (o_ru O 0) i 0
      have hps : jps s tot sc (ow_it s (o_ru O 0) i 0) = ow_it s (o_ru O 0) i 0 + sc (ow_it s (o_ru O 0) i 0) := if_pos ha
      rw [hps]
      generalize hA : ow_it s (o_ru O 0) i 0 = a at ha hab hbl hits ⊢
      have ea := w3 a ha
      have hlt : a + sc a < tot := by
        have hmono : ∀ i, a ≤ i → i < s.2.1 → sc a ≤ sc i := by
          intro i hi
          induction i with
          | zero => intro _; rw [show a = 0 by omega]; exact Nat.le_refl _
          | succ i ih =>
            intro hi2
            rcases Nat.lt_or_ge i a with g | g
            · rw [show a = i + 1 by omega]; exact Nat.le_refl _
            · have := ih g (by omega)
              rcases w2 i hi2 with h | h <;> omega
        have := hmono (s.2.1 - 1) (by omega) (by omega)
        omega
      have hM99 : 99 ≤ M.2 := by have := F.2; omega
      have h3M := F.at hf0 hx3 h3
      have hx3M := hfM _ _ h3M
      have hZM := F.at hf0 (by decide) hZ
      have hRM := hR.nw hf0 F (by decide)
      -- a line is made
      refine rL_handsIn_27 (by omega) (by omega) (ow_n (nI_ge hlt (by omega)) ⟨by omega, by omega, 1, 20, by omega, by omega, ?_⟩)
      refine rX12_init_0 ⟨20, by decide, by decide, by decide, Nat.le_refl _, Nat.le_refl _, _, (kz_nw_ne (by rw [kz_nw_2]; omega)).trans (kz_nw_same _ _), ow_l rfl, ⟨rfl, ?_⟩⟩
      rw [kz_nw_2]
      have N : ∀ k, k ≠ M.2 → k ≠ M.2 + 1 → (kz_up (kz_nw (kz_nw M (.inl (11, [.null, .int 0, .int 0, .int 0, .int 0, .int 0]))) (.inr (.int, 20, .inl (fun _ => 0)))) M.2 (.inl (11, List.set [.null, .int 0, .int 0, .int 0, .int 0, .int 0] 0 (.ref (M.2 + 1))))).1 k = M.1 k := fun k h1 h2 => by
        rw [kz_up_ne h1, kz_nw_ne (by rw [kz_nw_2]; exact h2), kz_nw_ne h1]
      have N1 : (kz_up (kz_nw (kz_nw M (.inl (11, [.null, .int 0, .int 0, .int 0, .int 0, .int 0]))) (.inr (.int, 20, .inl (fun _ => 0)))) M.2 (.inl (11, List.set [.null, .int 0, .int 0, .int 0, .int 0, .int 0] 0 (.ref (M.2 + 1))))).1 (M.2 + 1) = some (.inr (.int, 20, .inl (fun _ => 0))) := (kz_up_ne (by omega)).trans (kz_nw_same _ _)
      refine ⟨_, _, (N x3 (by omega) (by omega)).trans h3M, vp_in_nI (by omega) (by decide), ?_⟩
      rw [nI_clamp (by omega), ea.1]
      refine kz_Ctag (f' := fun j => if j = 100000 then 1 else 0) (fun j hj => by rw [if_neg (by omega)]) N1 ?_
      refine c_takes (aw := M.2 + 1) (f := fun j => if j = 100000 then 1 else 0) (n := 0) (wd := 0) rfl ⟨(kz_up_ne (by omega)).trans (kz_up_same _ _ _), kz_up_same _ _ _⟩ ea.2.1 (by omega) fun M1 g1 g2 g3 => ⟨rfl, ?_⟩
      rw [nI_1, show a + sc a + 1 = a + 1 + sc a by omega]
      rw [kz_up_2, kz_up_2, kz_nw_2, kz_nw_2] at g2
      have F1 : ow_Nw jF M M1 := ⟨fun k hk _ => by rw [g1 k (by omega) (by omega), kz_up_ne (by omega), N k (by omega) (by omega)], by omega⟩
      refine c_fill (M0 := M) hfM hZM rfl (by omega) hkd hk2 h3M hJ (Nat.le_refl _) (Nat.le_succ _) ha (by omega) (by omega) ?_ M1 ⟨F1, by omega, upd (fun j => if j = 100000 then 1 else 0) 0 (nI (q a)), ?_, ?_, fun j hj => ?_⟩
      rotate_left
      · rw [show a + 1 - a = 0 + 1 by omega, jwd_1 ea.2.2.1 ea.2.1]
        have : 0 + (jlt (q a) + (if 0 < 0 then 1 else 0)) = jlt (q a) := by simp
        rw [this] at g3
        exact g3
      · unfold upd; rw [if_neg (by omega)]; exact if_pos rfl
      · have hj0 : j = 0 := by omega
        subst hj0
        unfold upd
        rw [if_pos rfl]; rfl
      -- it is filled
      intro M2 ⟨F2, hM2, f2, hP, hf2, hfj⟩
      rw [← hits]
      rw [← hits] at hP hfj hab hbl
      have hZ2 := F2.at hfM id hZM
      obtain ⟨fr, hr1, hr2, hr3⟩ := hRM.nw hfM F2 id
      have hwle : ow_wd s.2.2.1 a (ow_it s (o_ru O 0) (i + 1) 0) ≤ 13 * 16 := by
        have := ow_lt_le s.2.2.1 a (ow_it s (o_ru O 0) (i + 1) 0)
        unfold ow_wd; omega
      have hkk : kd < 3 := by omega
      -- its pay
      have k161 : ∀ pay, pay = ow_pf (ow_wd s.2.2.1 a (ow_it s (o_ru O 0) (i + 1) 0)) (o_ru O 0) (nI (o_ru O (7 + s.1))) → zL_handsIn_161 G d mc ms Qr Qx 99 (nI v) (nI kd) x3 (nI tot) M0.2 (nI (jps s tot sc (ow_it s (o_ru O 0) (i + 1) 0))) M.2 pay M.2 M2 (c + 1 + 1) (sl + 6 + 20) := by
        intro pay hpay
        refine rL_handsIn_161 (by omega) (by omega) ⟨_, hP.1, ow_l rfl, ?_⟩
        have F3 : ow_Nw jF M (kz_up M2 M.2 (.inl (11, List.set [.ref (M.2 + 1), .int (nI (ow_it s (o_ru O 0) (i + 1) 0 - a)), .int (nI (ow_wd s.2.2.1 a (ow_it s (o_ru O 0) (i + 1) 0))), .int 0, .int 0, .int 0] 3 (.int pay)))) := ⟨fun k hk hp => (kz_up_ne (by omega)).trans (F2.1 k hk hp), F2.2⟩
        have hl0 : ∀ (M' : kz_M) (rs st : Nat), M'.1 M.2 = some (.inl (11, [.ref (M.2 + 1), .int (nI (ow_it s (o_ru O 0) (i + 1) 0 - a)), .int (nI (ow_wd s.2.2.1 a (ow_it s (o_ru O 0) (i + 1) 0))), .int pay, .int (nI rs), .int (nI st)])) → M'.1 (M.2 + 1) = some (.inr (.int, 20, .inl f2)) → jLn M' M.2 s ((ow_l0 s (o_ru O 0) (nI (o_ru O (7 + s.1))) i).1, (ow_l0 s (o_ru O 0) (nI (o_ru O (7 + s.1))) i).2.1, (ow_l0 s (o_ru O 0) (nI (o_ru O (7 + s.1))) i).2.2.1, (ow_l0 s (o_ru O 0) (nI (o_ru O (7 + s.1))) i).2.2.2.1, rs, st) := by
          intro M' rs st h1 h2
          unfold ow_l0
          rw [hA]
          refine ⟨M.2 + 1, f2, ?_, h2, ⟨hf2, by show ow_it s (o_ru O 0) (i + 1) 0 < _; omega, Nat.le_succ_of_le hM99, hM99⟩, by show a ≤ ow_it s (o_ru O 0) (i + 1) 0; omega, by show ow_it s (o_ru O 0) (i + 1) 0 ≤ a + 20; omega, fun k hk => ?_⟩
          · rw [h1, hpay]
          · have hk : k < ow_it s (o_ru O 0) (i + 1) 0 - a := hk
            have e := w3 (a + k) (by omega)
            exact ⟨q (a + k), e.2.1, hfj k hk, e.2.2.1⟩
        generalize hM3 : kz_up M2 M.2 (.inl (11, List.set [.ref (M.2 + 1), .int (nI (ow_it s (o_ru O 0) (i + 1) 0 - a)), .int (nI (ow_wd s.2.2.1 a (ow_it s (o_ru O 0) (i + 1) 0))), .int 0, .int 0, .int 0] 3 (.int pay))) = M3 at F3 ⊢
        have q7 : M3.1 M.2 = some (.inl (11, [.ref (M.2 + 1), .int (nI (ow_it s (o_ru O 0) (i + 1) 0 - a)), .int (nI (ow_wd s.2.2.1 a (ow_it s (o_ru O 0) (i + 1) 0))), .int pay, .int (nI 0), .int (nI 0)])) := by rw [← hM3]; exact kz_up_same _ _ _
        have q8 : M3.1 (M.2 + 1) = some (.inr (.int, 20, .inl f2)) := by rw [← hM3]; exact (kz_up_ne (by omega)).trans hP.2
        have q2 : M3.2 = M.2 + 2 := by rw [← hM3, kz_up_2]; exact hM2
        have L3 := hl0 M3 0 0 q7 q8
        refine kz_Zfr fun hf3 => ?_
        show zL_handsIn_164 G d mc ms Qr Qx 99 (nI v) (nI kd) x3 (nI tot) M0.2 (nI (jps s tot sc (ow_it s (o_ru O 0) (i + 1) 0))) M.2 M3 (c + 1 + 1) (sl + 6 + 20)
        have F03 : ow_Nw (fun k => k = 101) M0 M3 := F.trans (F3.mono fun _ h => h.elim)
        have hZ3 := F03.at hf0 (by decide) hZ
        have hW3 : ∀ j, j < o_wk O → ∃ al e cap y, jWk M3 (xW j) al e cap y (o_ws O j) := fun j hj => by
          obtain ⟨al, e, cap, y, h⟩ := hW j hj
          have hn : ∀ t, (∃ o : Nat × List Value, M0.1 t = some (.inl o)) → t ≠ 101 := fun t ⟨o, ht⟩ z => by
            obtain ⟨f, h', -⟩ := hB
            rw [z, h'] at ht; cases ht
          refine ⟨al, e, cap, y, h.nw hf0 F03 h101t (hn _ ⟨_, h.1⟩) (hn _ ?_) ?_⟩
          · obtain ⟨m, v', h9, -⟩ := h.2.1.ob
            exact ⟨_, h9⟩
          · rcases h.2.1 with ⟨-, z1, -, z3⟩ | ⟨-, -, z2, -⟩
            · exact hn _ ⟨_, by rw [z1]; exact z3⟩
            · intro z
              obtain ⟨f, h', -⟩ := hB
              rw [z, h'] at z2; cases z2
        have hl3 := hl.nw hfM F3 id id
        have hlo3 : ∃ fs, M3.1 (M0.2 + 1) = some (.inl (16, fs)) := by
          obtain ⟨m, v', h, -⟩ := hl3.ob
          exact ⟨_, h⟩
        refine rL_handsIn_164 (by omega) (by omega) ⟨_, _, F3.at hfM id hwc, rfl, ⟨_, hZ3⟩, 400, 1600, by omega, by omega, ?_⟩
        refine c_past (w := ow_jw O v s (o_ru O) (o_wk O)) (rest := List.tail (jfs O)) hG2 hZ3 (hL.nw hf0 F03 h100 he101) hW3 hO (by omega) hl3 (fun j hj => (hln j hj).nf hfM F3) (fun j hj => ⟨?_, ow_rs_le _ _ _ _ _ _⟩) hm (by omega) (Nat.le_refl _) (Nat.le_refl _) fun M4 er cr x hFl => ⟨_, rfl, ?_⟩
        · show ow_cts (ow_jl s (o_ru O 0) _ _ _ _ j) = decide ((ow_jl s (o_ru O 0) _ _ _ _ j).2.2.2.2.1 = 0)
          unfold ow_cts ow_jl
          by_cases h0 : ow_rs (ow_jd s (o_ru O 0) (nI (o_ru O (7 + s.1))) (o_ru O 1) (o_ru O 2) (ow_co O v (o_wk O)) j).1 (ow_jd s (o_ru O 0) (nI (o_ru O (7 + s.1))) (o_ru O 1) (o_ru O 2) (ow_co O v (o_wk O)) j).2 s (ow_l0 s (o_ru O 0) (nI (o_ru O (7 + s.1))) j) (o_ru O 1) (o_ru O 2) = 0
          · simp [h0]
          · simp [h0]
        rw [ow_cl_jd] at hFl
        have hZ4 := hFl.1.at hf3 id hZ3
        have hl4 := hFl.2.1
        have hx4 := hFl.2.2.2.2.2
        refine ⟨⟨_, hZ4⟩, 5, 20, by omega, by omega, kz_Cfr fun hf4 => ?_⟩
        have hjd := ow_jd_le s (o_ru O 0) (nI (o_ru O (7 + s.1))) (o_ru O 1) (o_ru O 2) (ow_co O v (o_wk O)) i
        have hco : (ow_co O v (o_wk O)).1 ≤ 16 * 11 := by
          have : ∀ i, i ≤ o_wk O → (ow_co O v i).1 ≤ 16 * i := by
            intro i
            induction i with
            | zero => intro _; exact Nat.zero_le _
            | succ i ih =>
              intro hi
              have := ih (by omega)
              have h2 := ow_cl_le (o_ws O i) (ow_co O v i) (o_ws O i).2.2.2.1
              have h3 := hm i (by omega)
              unfold ow_co
              split <;> omega
          have := this (o_wk O) (Nat.le_refl _)
          omega
        refine c_reason hZ4 rfl rfl hl4 (fun j hj => ⟨(hx4 j hj).nf hf3 hFl.1, (hx4 j hj).bd⟩) (L3.nf hf3 hFl.1) L3.bd ⟨hru, by have := hme 1 (by omega); omega⟩ (by have := hme 2 (by omega); omega) (by omega) (Nat.le_refl _) (Nat.le_refl _) fun M5 F5 => ⟨_, rfl, ?_⟩
        have F35 : ow_Nw jF M3 M5 := hFl.1.trans F5
        have q75 := F35.at hf3 id q7
        have q85 := F35.at hf3 id q8
        have F5' : ow_Nw jF M M5 := F3.trans F35
        refine ⟨_, q75, ow_l rfl, ?_⟩
        -- judged
        generalize hrs : ow_rs (ow_jd s (o_ru O 0) (nI (o_ru O (7 + s.1))) (o_ru O 1) (o_ru O 2) (ow_co O v (o_wk O)) i).1 (ow_jd s (o_ru O 0) (nI (o_ru O (7 + s.1))) (o_ru O 1) (o_ru O 2) (ow_co O v (o_wk O)) i).2 s _ (o_ru O 1) (o_ru O 2) = rs
        have hrs3 : rs ≤ 3 := by rw [← hrs]; exact ow_rs_le _ _ _ _ _ _
        have hjl : (ow_jw O v s (o_ru O) (o_wk O)).2.2.2.2 i = ((ow_l0 s (o_ru O 0) (nI (o_ru O (7 + s.1))) i).1, (ow_l0 s (o_ru O 0) (nI (o_ru O (7 + s.1))) i).2.1, (ow_l0 s (o_ru O 0) (nI (o_ru O (7 + s.1))) i).2.2.1, (ow_l0 s (o_ru O 0) (nI (o_ru O (7 + s.1))) i).2.2.2.1, rs, if rs = 0 then 0 else 1) := by
          rw [← hrs]
          rfl
        have hjam : jam O (ow_jw O v s (o_ru O) (o_wk O)) i = if rs = 0 then pay else -(nI (o_ru O 3)) := by
          unfold jam
          rw [hjl]
          show (if rs = 0 then (ow_l0 s (o_ru O 0) (nI (o_ru O (7 + s.1))) i).2.2.2.1 else _) = _
          rw [show (ow_l0 s (o_ru O 0) (nI (o_ru O (7 + s.1))) i).2.2.2.1 = pay by rw [hpay]; unfold ow_l0; rw [hA]]
        -- the rest of the round
        have k200 : ∀ (st : Nat), st = (if rs = 0 then 0 else 1) → zL_handsIn_200 G d mc ms Qr Qx 99 (nI v) (nI kd) x3 (nI tot) M0.2 (nI (jps s tot sc (ow_it s (o_ru O 0) (i + 1) 0))) M.2 (nI st) M.2 (kz_up M5 M.2 (.inl (11, List.set [.ref (M.2 + 1), .int (nI (ow_it s (o_ru O 0) (i + 1) 0 - a)), .int (nI (ow_wd s.2.2.1 a (ow_it s (o_ru O 0) (i + 1) 0))), .int pay, .int (nI 0), .int (nI 0)] 4 (.int (nI rs))))) (c + 1 + 1 + 400 + 5) (sl + 6 + 20 + 1600 + 20) := by
          intro st hst
          refine rL_handsIn_200 (by omega) (by omega) ⟨_, kz_up_same _ _ _, ow_l rfl, ?_⟩
          have q77 : (kz_up (kz_up M5 M.2 (.inl (11, List.set [.ref (M.2 + 1), .int (nI (ow_it s (o_ru O 0) (i + 1) 0 - a)), .int (nI (ow_wd s.2.2.1 a (ow_it s (o_ru O 0) (i + 1) 0))), .int pay, .int (nI 0), .int (nI 0)] 4 (.int (nI rs))))) M.2 (.inl (11, List.set (List.set [.ref (M.2 + 1), .int (nI (ow_it s (o_ru O 0) (i + 1) 0 - a)), .int (nI (ow_wd s.2.2.1 a (ow_it s (o_ru O 0) (i + 1) 0))), .int pay, .int (nI 0), .int (nI 0)] 4 (.int (nI rs))) 5 (.int (nI st))))).1 M.2 = some (.inl (11, [.ref (M.2 + 1), .int (nI (ow_it s (o_ru O 0) (i + 1) 0 - a)), .int (nI (ow_wd s.2.2.1 a (ow_it s (o_ru O 0) (i + 1) 0))), .int pay, .int (nI rs), .int (nI st)])) := kz_up_same _ _ _
          have F7 : ow_Nw jF M (kz_up (kz_up M5 M.2 (.inl (11, List.set [.ref (M.2 + 1), .int (nI (ow_it s (o_ru O 0) (i + 1) 0 - a)), .int (nI (ow_wd s.2.2.1 a (ow_it s (o_ru O 0) (i + 1) 0))), .int pay, .int (nI 0), .int (nI 0)] 4 (.int (nI rs))))) M.2 (.inl (11, List.set (List.set [.ref (M.2 + 1), .int (nI (ow_it s (o_ru O 0) (i + 1) 0 - a)), .int (nI (ow_wd s.2.2.1 a (ow_it s (o_ru O 0) (i + 1) 0))), .int pay, .int (nI 0), .int (nI 0)] 4 (.int (nI rs))) 5 (.int (nI st))))) := ⟨fun k hk hp => by rw [kz_up_ne (by omega), kz_up_ne (by omega)]; exact F5'.1 k hk hp, F5'.2⟩
          have q87 : (kz_up (kz_up M5 M.2 (.inl (11, List.set [.ref (M.2 + 1), .int (nI (ow_it s (o_ru O 0) (i + 1) 0 - a)), .int (nI (ow_wd s.2.2.1 a (ow_it s (o_ru O 0) (i + 1) 0))), .int pay, .int (nI 0), .int (nI 0)] 4 (.int (nI rs))))) M.2 (.inl (11, List.set (List.set [.ref (M.2 + 1), .int (nI (ow_it s (o_ru O 0) (i + 1) 0 - a)), .int (nI (ow_wd s.2.2.1 a (ow_it s (o_ru O 0) (i + 1) 0))), .int pay, .int (nI 0), .int (nI 0)] 4 (.int (nI rs))) 5 (.int (nI st))))).1 (M.2 + 1) = some (.inr (.int, 20, .inl f2)) := (kz_up_ne (by omega)).trans ((kz_up_ne (by omega)).trans q85)
          have q27 : M.2 + 2 ≤ (kz_up (kz_up M5 M.2 (.inl (11, List.set [.ref (M.2 + 1), .int (nI (ow_it s (o_ru O 0) (i + 1) 0 - a)), .int (nI (ow_wd s.2.2.1 a (ow_it s (o_ru O 0) (i + 1) 0))), .int pay, .int (nI 0), .int (nI 0)] 4 (.int (nI rs))))) M.2 (.inl (11, List.set (List.set [.ref (M.2 + 1), .int (nI (ow_it s (o_ru O 0) (i + 1) 0 - a)), .int (nI (ow_wd s.2.2.1 a (ow_it s (o_ru O 0) (i + 1) 0))), .int pay, .int (nI 0), .int (nI 0)] 4 (.int (nI rs))) 5 (.int (nI st))))).2 := by
            show M.2 + 2 ≤ M5.2
            rw [← q2]; exact F35.2
          generalize kz_up (kz_up M5 M.2 (.inl (11, List.set [.ref (M.2 + 1), .int (nI (ow_it s (o_ru O 0) (i + 1) 0 - a)), .int (nI (ow_wd s.2.2.1 a (ow_it s (o_ru O 0) (i + 1) 0))), .int pay, .int (nI 0), .int (nI 0)] 4 (.int (nI rs))))) M.2 (.inl (11, List.set (List.set [.ref (M.2 + 1), .int (nI (ow_it s (o_ru O 0) (i + 1) 0 - a)), .int (nI (ow_wd s.2.2.1 a (ow_it s (o_ru O 0) (i + 1) 0))), .int pay, .int (nI 0), .int (nI 0)] 4 (.int (nI rs))) 5 (.int (nI st)))) = M7 at q77 F7 q87 q27 ⊢
          have L7 := hl0 M7 rs st q77 q87
          rw [hst, ← hjl] at L7
          refine kz_Zfr fun hf7 => ?_
          show zL_handsIn_203 G d mc ms Qr Qx 99 (nI v) (nI kd) x3 (nI tot) M0.2 (nI (jps s tot sc (ow_it s (o_ru O 0) (i + 1) 0))) M.2 M7 (c + 1 + 1 + 400 + 5) (sl + 6 + 20 + 1600 + 20)
          obtain ⟨fb, hb1, hb2, hb3⟩ := hrow.nw hfM F7 id
          have hZ7 := F7.at hfM id hZM
          have k231 : ∀ am : Int32, am = jam O (ow_jw O v s (o_ru O) (o_wk O)) i → zL_handsIn_231 G d mc ms Qr Qx 99 (nI v) (nI kd) x3 (nI tot) M0.2 (nI (jps s tot sc (ow_it s (o_ru O 0) (i + 1) 0))) M.2 am (fb v) (nI v) 101 M7 (c + 1 + 1 + 400 + 5) (sl + 6 + 20 + 1600 + 20) := by
            intro am ham
            refine rL_handsIn_231 (by omega) (by omega) ⟨_, _, hb1, vp_in_nI (by omega) (by decide), ?_⟩
            rw [nI_clamp (by omega)]
            have F8 : ow_Nw (fun k => k = 101) M (kz_up M7 101 (.inr (.int, 3, .inl (upd fb v (fb v + am))))) := ⟨fun k hk hp => (kz_up_ne hp).trans (F7.1 k hk id), F7.2⟩
            have F78 : ow_Nw (fun k => k = 101) M7 (kz_up M7 101 (.inr (.int, 3, .inl (upd fb v (fb v + am))))) := ⟨fun k hk hp => kz_up_ne hp, Nat.le_refl _⟩
            have R8 : jRow (kz_up M7 101 (.inr (.int, 3, .inl (upd fb v (fb v + am))))) 101 3 (fun j => if j = v then o_ba O v + ow_sm (jam O (ow_jw O v s (o_ru O) (o_wk O))) (i + 1) else o_ba O j) := by
              refine ⟨_, kz_up_same _ _ _, ?_, fun j hj => ?_⟩
              · unfold upd; rw [if_neg (by omega)]; exact hb2
              · unfold upd
                have hbv := hb3 v hv
                dsimp only at hbv
                rw [if_pos rfl] at hbv
                by_cases hjv : j = v
                · dsimp only
                  rw [if_pos hjv, if_pos hjv, hbv, ham, Int32.add_assoc]
                  rfl
                · dsimp only
                  rw [if_neg hjv, if_neg hjv]
                  have := hb3 j hj
                  dsimp only at this
                  rw [if_neg hjv] at this
                  exact this
            have h7t : ∀ k, k = 101 → ∀ e, M7.1 k = some e → (∃ o : Nat × List Value, e = .inl o ∧ o.1 ≠ 11) ∨ (∃ n f, e = .inr (.int, n, .inl f) ∧ n ≠ 20) ∨ ∃ n f, e = .inr (.object "java/lang/Object", n, f) := by
              intro k hk e he
              rw [hk, hb1] at he
              cases he
              exact Or.inr (Or.inl ⟨3, fb, rfl, by decide⟩)
            have L8 := L7.nw hf7 F78 h7t
            have l8 : ∀ j, j < i → jLn (kz_up M7 101 (.inr (.int, 3, .inl (upd fb v (fb v + am))))) (yl j) s ((ow_jw O v s (o_ru O) (o_wk O)).2.2.2.2 j) := fun j hj => ((hln j hj).nf hfM F7).nw hf7 F78 h7t
            have hq8 : (kz_up M7 101 (.inr (.int, 3, .inl (upd fb v (fb v + am))))).2 = M7.2 := rfl
            generalize kz_up M7 101 (.inr (.int, 3, .inl (upd fb v (fb v + am)))) = M8 at F8 R8 L8 l8 hq8 ⊢
            refine kz_Zfr fun hf8 => ?_
            show zL_handsIn_233 G d mc ms Qr Qx 99 (nI v) (nI kd) x3 (nI tot) M0.2 (nI (jps s tot sc (ow_it s (o_ru O 0) (i + 1) 0))) M.2 M8 (c + 1 + 1 + 400 + 5) (sl + 6 + 20 + 1600 + 20)
            have hl8 := hl.nw hfM F8 (by omega) (by omega)
            have hlo8 : ∃ fs, M8.1 (M0.2 + 1) = some (.inl (16, fs)) := by
              obtain ⟨m, v', h, -⟩ := hl8.ob
              exact ⟨_, h⟩
            obtain ⟨fo, hob⟩ := L8.ob
            have helM : el < M.2 := (hl.lt hfM).2
            refine rL_handsIn_233 (by omega) (by omega) ⟨_, _, F8.at hfM (by omega) hwc, rfl, hlo8, 1, 34, by omega, by omega, ?_⟩
            refine c_listAdd hG2 hl8 jcO_11 (fun j hj => (l8 j hj).ob) hob (by decide) (by omega) (fun _ => Nat.le_refl _) (fun _ => by unfold jgr; split <;> omega) fun M9 e' cap' g1 g2 g3 g4 g5 g6 => ⟨_, rfl, ?_⟩
            have hjt : ∀ k, jJ (M0.2 + 1) el k → ∀ e, M8.1 k = some e → (∃ o : Nat × List Value, e = .inl o ∧ o.1 ≠ 11) ∨ (∃ n f, e = .inr (.int, n, .inl f) ∧ n ≠ 20) ∨ ∃ n f, e = .inr (.object "java/lang/Object", n, f) := by
              intro k hk e he
              obtain ⟨m, v', h, -⟩ := hl8.ob
              rcases hk with rfl | rfl
              · rw [h] at he; cases he; exact Or.inl ⟨_, rfl, show (16 : Nat) ≠ 11 by decide⟩
              · rcases hl8 with ⟨-, z1, -, -⟩ | ⟨-, -, z2, -⟩
                · rw [z1, h] at he; cases he; exact Or.inl ⟨_, rfl, show (16 : Nat) ≠ 11 by decide⟩
                · rw [z2] at he; cases he; exact Or.inr (Or.inr ⟨_, _, rfl⟩)
            have hM8 : M.2 + 2 ≤ M8.2 := by omega
            have g12 := g1.2
            refine ih M9 e' cap' (ja yl i M.2) _ _ ⟨fun k hk hp => (g1.1 k (by omega) (by unfold jJ; omega)).trans ((F8.1 k (by omega) hp).trans (F.1 k hk hp)), by omega⟩ (by omega) (g1.at hf8 (by unfold jJ; omega) (F8.at hfM (by omega) hwc)) g3 (by rcases g4 with h | h <;> omega) (fun j hj => ?_) ⟨fun j hj => ?_, fun j j' h1 h2 => ?_⟩ (R8.nw hf8 g1 (by unfold jJ; omega)) (by omega) (by omega)
            · unfold ja
              by_cases hji : j = i
              · rw [if_pos hji, hji]; exact L8.nw hf8 g1 hjt
              · rw [if_neg hji]; exact (l8 j (by omega)).nw hf8 g1 hjt
            · unfold ja
              by_cases hji : j = i
              · rw [if_pos hji]; omega
              · rw [if_neg hji]
                have := hod.1 j (by omega)
                omega
            · unfold ja
              have hj1 := hod.1 j
              by_cases hji : j' = i
              · rw [if_pos hji, if_neg (by omega)]
                have := hod.1 j (by omega)
                omega
              · rw [if_neg hji, if_neg (by omega)]
                exact hod.2 j j' h1 (by omega)
          refine rL_handsIn_203 (by omega) (by omega) ⟨_, _, hZ7, rfl, _, _, hb1, vp_in_nI (by omega) (by decide), _, _, q77, rfl, ?_⟩
          rw [nI_clamp (by omega)]
          by_cases h0 : rs = 0
          · refine ow_nn (by rw [h0]; rfl) ⟨_, _, q77, rfl, k231 _ ?_⟩
            rw [hjam, if_pos h0]
          · refine ow_yn (nI_ne0 (by omega) (by omega)) ⟨_, _, hZ7, rfl, k231 _ ?_⟩
            rw [hjam, if_neg h0]
        refine rL_handsIn_185 (by omega) (by omega) ⟨_, _, kz_up_same _ _ _, rfl, ?_⟩
        by_cases h0 : rs = 0
        · exact ow_nn (by rw [h0]; rfl) (k200 0 (by rw [if_pos h0]))
        · exact ow_yn (nI_ne0 (by omega) (by omega)) (k200 1 (by rw [if_neg h0]))
      refine rL_handsIn_128 (by omega) (by omega) ⟨_, _, hP.1, rfl, _, _, hZ2, rfl, ?_⟩
      rw [show (2 : Int32) * nI (ow_wd s.2.2.1 a (ow_it s (o_ru O 0) (i + 1) 0)) = nI (2 * ow_wd s.2.2.1 a (ow_it s (o_ru O 0) (i + 1) 0)) from j_mul 2 _]
      have hrk : fr kd = nI (o_ru O (7 + s.1)) := by rw [hr3 kd hkk, hkd]
      by_cases hw : o_ru O 0 ≤ 2 * ow_wd s.2.2.1 a (ow_it s (o_ru O 0) (i + 1) 0)
      · refine ow_y (nI_le hw (by omega)) ⟨_, _, hZ2, rfl, _, _, hr1, vp_in_nI hkk (by decide), ?_⟩
        rw [nI_clamp (by omega), hrk]
        exact k161 _ (by unfold ow_pf; rw [if_neg (by omega)])
      · refine ow_n (nI_ge (by omega) (by omega)) ⟨_, _, hZ2, rfl, _, _, hr1, vp_in_nI hkk (by decide), ?_⟩
        rw [nI_clamp (by omega), hrk]
        exact k161 _ (by unfold ow_pf; rw [if_pos (by omega)])
  have hit0 : ow_it s (o_ru O 0) 0 0 = 0 := rfl
  refine rL_handsIn_0 ⟨by omega, by omega, 1, 3, by omega, by omega, ?_⟩
  refine rX13_init_0 ⟨Nat.le_refl _, Nat.le_refl _, c_listInit hG2 (kz_nw_same _ _) fun M1 g1 g2 g3 => ⟨rfl, ?_⟩⟩
  rw [kz_nw_2] at g1 g2 g3
  rw [kz_nw_2] at g2
  have n0 : M1.1 M0.2 = some (.inl (12, [.int 0, .int 0, .null])) := (g1 _ (by omega)).trans ((kz_nw_ne (by rw [kz_nw_2]; omega)).trans (kz_nw_same _ _))
  refine ⟨_, n0, ow_l rfl, ⟨rfl, _, kz_up_same _ _ _, ow_l rfl, ?_⟩⟩
  have N : ∀ k, k < M0.2 → M1.1 k = M0.1 k := fun k hk => (g1 k (by omega)).trans ((kz_nw_ne (by rw [kz_nw_2]; omega)).trans (kz_nw_ne (by omega)))
  refine ⟨_, _, (kz_up_ne (by omega)).trans ((kz_up_ne (by omega)).trans ((N 99 (by omega)).trans hZ)), rfl, _, kz_up_same _ _ _, ow_l rfl, ?_⟩
  have := key 0 (Nat.zero_le _) (kz_up (kz_up (kz_up M1 M0.2 (.inl (12, [.int 0, .int 0, .ref (M0.2 + 1)]))) M0.2 (.inl (12, [.int (nI v), .int 0, .ref (M0.2 + 1)]))) M0.2 (.inl (12, [.int (nI v), .int (nI (o_dy O)), .ref (M0.2 + 1)]))) (M0.2 + 1) 0 (fun _ => 0) (0 + 1 + 1) (0 + 3 + 3) ⟨fun k hk _ => ?_, ?_⟩ ?_ (kz_up_same _ _ _) ?_ (Nat.le_refl _) (fun j hj => absurd hj (Nat.not_lt_zero j)) ⟨fun j hj => absurd hj (Nat.not_lt_zero j), fun j j' _ h => absurd h (Nat.not_lt_zero j')⟩ ?_ (by omega) (by omega)
  · rw [hit0, show jps s tot sc 0 = 0 by unfold jps; rw [if_pos (by omega), w1]] at this
    exact this
  · rw [kz_up_ne (by omega), kz_up_ne (by omega), kz_up_ne (by omega)]; exact N k hk
  · show M0.2 ≤ M1.2; omega
  · show M0.2 + 2 ≤ M1.2; omega
  · exact g3.mv (by rw [kz_up_ne (by omega), kz_up_ne (by omega), kz_up_ne (by omega)]) (by rw [kz_up_ne (by omega), kz_up_ne (by omega), kz_up_ne (by omega)])
  · obtain ⟨f, h1, h2, h3⟩ := hB
    refine ⟨f, ?_, h2, fun j hj => ?_⟩
    · rw [kz_up_ne (by omega), kz_up_ne (by omega), kz_up_ne (by omega)]; exact (N 101 hB101).trans h1
    · dsimp only
      by_cases hjv : j = v
      · rw [if_pos hjv, show ow_sm (jam O (ow_jw O v s (o_ru O) (o_wk O))) 0 = 0 from rfl, hjv, h3 v hv]
        exact (Int32.add_zero _).symm
      · rw [if_neg hjv]; exact h3 j hj
end JHA
