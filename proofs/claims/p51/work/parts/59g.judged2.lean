/-! Part 59g: LineOffice.judged -/
/-- the i-th line, judged against the past -/
def ow_jl (s : ow_S) (me : Nat) (rate : Int32) (st wo : Nat) (z : Nat × ow_P) (i : Nat) : ow_L := ((ow_l0 s me rate i).1, (ow_l0 s me rate i).2.1, (ow_l0 s me rate i).2.2.1, (ow_l0 s me rate i).2.2.2.1, ow_rs z.1 z.2 s (ow_l0 s me rate i) st wo, if ow_rs z.1 z.2 s (ow_l0 s me rate i) st wo = 0 then 0 else 1)
/-- the past behind the lines below n -/
def ow_jd (s : ow_S) (me : Nat) (rate : Int32) (st wo : Nat) (z : Nat × ow_P) : Nat → Nat × ow_P
  | 0 => z
  | n + 1 => ((ow_jd s me rate st wo z n).1 + (if ow_cts (ow_jl s me rate st wo (ow_jd s me rate st wo z n) n) then 1 else 0), if ow_cts (ow_jl s me rate st wo (ow_jd s me rate st wo z n) n) then ow_pa (ow_jd s me rate st wo z n).1 (ow_jd s me rate st wo z n).2 s (ow_jl s me rate st wo (ow_jd s me rate st wo z n) n) else (ow_jd s me rate st wo z n).2)
theorem ow_jd_le (s : ow_S) (me : Nat) (rate : Int32) (st wo : Nat) (z : Nat × ow_P) : ∀ n, (ow_jd s me rate st wo z n).1 ≤ z.1 + n
  | 0 => Nat.le_refl _
  | n + 1 => by
    have := ow_jd_le s me rate st wo z n
    show (ow_jd s me rate st wo z n).1 + (if ow_cts _ then 1 else 0) ≤ _
    split <;> omega
/-- a script, judged as a work -/
def ow_jw (O : ow_O) (v : Nat) (s : ow_S) (ru : Nat → Nat) (e : Nat) : ow_W := (v, o_dy O, s, ow_nl s (ru 0), fun i => ow_jl s (ru 0) (nI (ru (7 + s.1))) (ru 1) (ru 2) (ow_jd s (ru 0) (nI (ru (7 + s.1))) (ru 1) (ru 2) (ow_co O v e) i) i)
theorem ow_rs_le (k : Nat) (P : ow_P) (s : ow_S) (l : ow_L) (st wo : Nat) : ow_rs k P s l st wo ≤ 3 := by
  unfold ow_rs
  repeat' split
  all_goals decide
theorem ow_l0_ok {s : ow_S} {me : Nat} {rate : Int32} {i : Nat} (hi : i < ow_nl s me) : ow_Lok s (ow_l0 s me rate i) ∧ ow_nl s me ≤ s.2.1 := by
  obtain ⟨h1, h2, h3⟩ := ow_it_nl s me s.2.1 0 (by omega) (Nat.zero_le _)
  have h4 := h1 i hi
  refine ⟨⟨?_, ?_, Nat.zero_le _, Nat.zero_le _⟩, by have h3 : ow_nl s me + 0 ≤ s.2.1 := h3; omega⟩
  · show ow_it s me i 0 ≤ ow_it s me (i + 1) 0
    rw [ow_it_s]
    exact Nat.le_of_lt (ow_le_gt s me _)
  · show ow_it s me (i + 1) 0 ≤ s.2.1
    rw [ow_it_s]
    exact ow_le_le h4
theorem ow_nl_le (s : ow_S) (me : Nat) : ow_nl s me ≤ s.2.1 := by
  obtain ⟨h1, h2, h3⟩ := ow_it_nl s me s.2.1 0 (by omega) (Nat.zero_le _)
  have h3 : ow_nl s me + 0 ≤ s.2.1 := h3
  omega
theorem ow_jl_ok {s : ow_S} {me : Nat} {rate : Int32} {st wo i : Nat} {z : Nat × ow_P} (hi : i < ow_nl s me) : ow_Lok s (ow_jl s me rate st wo z i) := by
  obtain ⟨⟨h1, h2, -⟩, -⟩ := ow_l0_ok (rate := rate) hi
  refine ⟨h1, h2, ow_rs_le _ _ _ _ _ _, ?_⟩
  show (if _ then 0 else 1) ≤ 3
  split <;> decide
theorem ow_jw_ok {O : ow_O} {v e : Nat} {s : ow_S} {ru : Nat → Nat} (hS : ow_Sok s) (hv : v < 6) (hd : o_dy O ≤ 9999) : ow_Wok (ow_jw O v s ru e) :=
  ⟨hS, Nat.le_trans (ow_nl_le s (ru 0)) hS.2.2.1, hv, hd, fun _ hi => ow_jl_ok hi⟩
section OWK
variable {G : kz_G} {d mc ms : Nat} {Qr : Option Value → kz_M → Prop} {Qx : String → kz_M → Prop} {M : kz_M} {O : ow_O} {hn : Nat} {h : Nat → ow_O} {sv : ow_O} {isS : Bool} {er : Nat} {ea : Int32} {n : Nat} {b : Nat → Nat} {l : List Nat}
theorem c_judged {v e sc r : Nat} {s : ow_S} {ru : Nat → Nat} (I : ow_CI M O hn h sv isS er ea n b l) (hO : ow_Ok1 O) (hs : ow_RS M sc s) (hS : ow_Sok s) (hr : ∃ f, M.1 r = some (.inr (.int, 10, .inl f)) ∧ ∀ i, i < 10 → f i = nI (ru i)) (hru : ∀ i, i < 10 → ru i ≤ 99) (hv : v < 6) (he : e ≤ o_wk O) (hmc : 62 ≤ mc) (hms : 484 ≤ ms) (q : ∀ M1 a, ow_Nw ow_inP M M1 → ow_RW M1 a (ow_jw O v s ru e) → (∃ k P, ow_RP M1 97 98 k P) → Qr (some (.ref a)) M1) : kz_C G (d + 6) mc ms mX11_judged [.ref 0, .ref sc, .int (nI v), .ref r, .int (nI e)] M Qr Qx := by
  refine kz_Cfr fun hf => ?_
  have hK : ow_K = 99 := rfl
  have hMK := I.2.2.2.2.2.2.2.2
  have hwk := hO.1.2.2.2.1
  have hk2 := hS.1
  have hn60 := hS.2.2.1
  have hnl := ow_nl_le s (ru 0)
  obtain ⟨fr, hr1, hr2⟩ := hr
  have hrM := hf _ _ hr1
  have hr97 : r ≠ 97 := fun e => by
    obtain ⟨k, P, hp⟩ := I.2.2.2.2.2.2.2.1
    rw [e, hp.1] at hr1; cases hr1
  have hr98 : r ≠ 98 := fun e => by
    obtain ⟨k, P, hp⟩ := I.2.2.2.2.2.2.2.1
    rw [e, hp.2.2.choose_spec.1] at hr1; cases hr1
  have nwF : ∀ {M1 : kz_M}, ow_Nw (fun k => k = M.2) M M1 → ow_Nw (fun _ => False) M M1 := fun g => ⟨fun k hk _ => g.1 k hk (by omega), g.2⟩
  have gA : ow_Nw (fun _ => False) M (kz_nw M (.inl (9, [.int 0, .int 0, .null, .null]))) := ow_Nw.nw M _
  have hA := kz_nw_same M (.inl (9, [.int 0, .int 0, .null, .null]))
  have eA := kz_nw_2 M (.inl (9, [.int 0, .int 0, .null, .null]))
  have fA := hf.nw (.inl (9, [.int 0, .int 0, .null, .null]))
  refine rX11_judged_0 ⟨by omega, by omega, ?_⟩
  generalize kz_nw M (.inl (9, [.int 0, .int 0, .null, .null])) = MA at gA hA eA fA ⊢
  have at' : ∀ {k : Nat} {e : kz_E}, M.1 k = some e → MA.1 k = some e := fun he => gA.at hf id he
  have hsA : ow_RS MA sc s := hs.keep (gA.kpF hf)
  refine ⟨_, _, at' I.1, rfl, _, _, at' I.off.1, rfl, c_atE (i := 0) rfl (at' hr1) (by omega) (by omega) ⟨_, rfl, ?_⟩⟩
  obtain ⟨w1, w2, w3, w4⟩ := hsA
  refine ⟨_, _, w3, rfl, c_atE (i := 7 + s.1) (by rw [← nI_add]; rfl) (at' hr1) (by omega) (by omega) ⟨_, rfl, 1 + ow_nl s (ru 0), 8 * ow_nl s (ru 0), by omega, by omega, ?_⟩⟩
  have hsA : ow_RS MA sc s := hs.keep (gA.kpF hf)
  rw [hr2 0 (by omega), hr2 (7 + s.1) (by omega)]
  have hru0 := hru 0 (by omega)
  refine c_winit hA (by omega) hsA hS (by omega) (by omega) (by omega) fun MB fB gB eB cB lB LB => ⟨rfl, ?_⟩
  have NB : ow_Nw (fun _ => False) M MB := ⟨fun k hk _ => by rw [gB.1 k (by omega) (by omega), gA.1 k hk id], by omega⟩
  have atB : ∀ {k : Nat} {e : kz_E}, M.1 k = some e → MB.1 k = some e := fun he => NB.at hf id he
  have ctB : (ow_ct M.2 MB).1 = M.1 := ow_ct_fr hf NB fun _ hp _ => hp
  refine ⟨_, _, atB I.1, rfl, _, _, atB I.1, rfl, ⟨_, atB I.off.1⟩, ?_⟩
  have ROB : ow_RO (ow_ct M.2 MB) 5 O := I.off.mv (fun k e _ he => by rw [ctB]; exact he) fun k _ _ => by rw [ctB]
  obtain ⟨k0, P0, hP0⟩ := I.2.2.2.2.2.2.2.1
  have RPB : ow_RP (ow_ct M.2 MB) 97 98 k0 P0 := hP0.mv (fun k e _ he => by rw [ctB]; exact he) (by rw [ctB]) (by rw [ctB])
  refine c_collectB ROB hO (by omega) RPB (by omega) he fun MC gC eC pC => ⟨rfl, ?_⟩
  have hP : ∀ k, ow_inP k → k < ow_K := fun k hk => by rcases hk with rfl | rfl <;> omega
  have kC : ∀ {k : Nat} {e : kz_E}, ow_K ≤ k → MB.1 k = some e → MC.1 k = some e := fun hk he => gC.kp hP _ _ hk he
  refine ⟨_, _, kC (by omega) cB, rfl, _, _, kC (by omega) lB, ?_⟩
  show zX11_judged_63 G d mc ms Qr Qx 0 r M.2 MA.2 (nI (ow_nl s (ru 0))) (nI 0) MC _ _
  have key : ∀ i, i ≤ ow_nl s (ru 0) → ∀ M1, ow_Nw ow_inP M M1 → (∀ k, M.2 ≤ k → k < M.2 + 2 → M1.1 k = MB.1 k) → M1.2 = MB.2 → ow_RP (ow_ct (M.2 + 2 + i) M1) 97 98 (ow_jd s (ru 0) (nI (ru (7 + s.1))) (ru 1) (ru 2) (ow_co O v e) i).1 (ow_jd s (ru 0) (nI (ru (7 + s.1))) (ru 1) (ru 2) (ow_co O v e) i).2 → (∀ j, j < i → ow_RL M1 (M.2 + 2 + j) sc ((ow_jw O v s ru e).2.2.2.2 j)) → (∀ j, i ≤ j → j < ow_nl s (ru 0) → ow_RL M1 (M.2 + 2 + j) sc (ow_l0 s (ru 0) (nI (ru (7 + s.1))) j)) → zX11_judged_63 G d mc ms Qr Qx 0 r M.2 MA.2 (nI (ow_nl s (ru 0))) (nI i) M1 (0 + 1 + (1 + ow_nl s (ru 0))) (0 + 4 + 8 * ow_nl s (ru 0)) := by
    refine ow_loop (ow_nl s (ru 0)) ?_ ?_
    · intro M1 g1 g2 g3 g4 g5 g6
      have Kp : ow_Kp M M1 := g1.kp hf fun k hk => Or.inl (hP k hk)
      refine rX11_judged_63 (by omega) (by omega) (ow_y (nI_le (Nat.le_refl _) (by omega)) (q M1 M.2 g1 ⟨sc, MA.2, fB, (g2 _ (by omega) (by omega)).trans cB, hs.keep Kp, (g2 _ (by omega) (by omega)).trans lB, hMK, by omega, fun j hj => ⟨M.2 + 2 + j, ?_, g5 j hj⟩⟩ ⟨_, _, g4.uc⟩))
      rw [(LB j hj).1, eA]
    · intro i hi ih M1 g1 g2 g3 g4 g5 g6
      have Kp : ow_Kp M M1 := g1.kp hf fun k hk => Or.inl (hP k hk)
      have hl := g6 i (Nat.le_refl _) hi
      have hs1 := hs.keep Kp
      have hle := ow_co_le hO v e he
      have hjl := ow_jd_le s (ru 0) (nI (ru (7 + s.1))) (ru 1) (ru 2) (ow_co O v e) i
      have at1 : ∀ {k : Nat} {e : kz_E}, ¬ ow_inP k → M.1 k = some e → M1.1 k = some e := fun hk he => g1.at hf hk he
      have h0 : M1.1 0 = _ := at1 (by rintro (h | h) <;> cases h) I.1
      have hok := (ow_l0_ok (rate := nI (ru (7 + s.1))) hi).1
      have LL1 : ow_LL M1 (M.2 + 2 + i) s (ow_l0 s (ru 0) (nI (ru (7 + s.1))) i) := ⟨sc, hl, hs1⟩
      have r1 : M1.1 r = _ := at1 (fun z => z.elim hr97 hr98) hr1
      have hp97 := g4.uc.1
      refine rX11_judged_63 (by omega) (by omega) (ow_n (nI_ge hi (by omega)) ⟨_, _, (g2 MA.2 (by omega) (by omega)).trans lB, vp_in_nI hi (by omega), fun o ho => ?_⟩)
      rw [nI_clamp (by omega), (LB i hi).1, eA, show M.2 + 1 + 1 + i = M.2 + 2 + i by omega] at ho
      subst ho
      refine ⟨fun hz => (by cases hz), fun y hy => ?_⟩
      cases hy
      refine ⟨_, _, h0, rfl, c_atE (i := 1) rfl r1 (by omega) (by omega) ⟨_, rfl, c_atE (i := 2) rfl r1 (by omega) (by omega) ⟨_, rfl, ⟨_, hp97⟩, ?_⟩⟩⟩
      rw [hr2 1 (by omega), hr2 2 (by omega)]
      have h99a := hru 1 (by omega)
      have h99b := hru 2 (by omega)
      have r3 := ow_rs_le (ow_jd s (ru 0) (nI (ru (7 + s.1))) (ru 1) (ru 2) (ow_co O v e) i).1 (ow_jd s (ru 0) (nI (ru (7 + s.1))) (ru 1) (ru 2) (ow_co O v e) i).2 s (ow_l0 s (ru 0) (nI (ru (7 + s.1))) i) (ru 1) (ru 2)
      refine c_reasonAgainst g4.uc LL1 hS hok (by omega) (by omega) ⟨_, rfl, ⟨_, hl.1⟩, c_judge hl r3 fun M2 j1 j2 j3 => ⟨rfl, ?_⟩⟩
      have n0 : (0 : Nat) ≠ M.2 + 2 + i := by omega
      have hl2 : ow_RL M2 (M.2 + 2 + i) sc ((ow_jw O v s ru e).2.2.2.2 i) := j3
      have Nw2 : ow_Nw ow_inP M M2 := ⟨fun k hk hp => by rw [j1 k (by omega), g1.1 k hk hp], by omega⟩
      have Kp2 : ow_Kp M M2 := Nw2.kp hf fun k hk => Or.inl (hP k hk)
      have hscM : sc < M.2 := by
        obtain ⟨_, _, hz, -⟩ := hs
        exact hf _ _ hz
      have RP2 : ow_RP (ow_ct (M.2 + 2 + (i + 1)) M2) 97 98 (ow_jd s (ru 0) (nI (ru (7 + s.1))) (ru 1) (ru 2) (ow_co O v e) i).1 (ow_jd s (ru 0) (nI (ru (7 + s.1))) (ru 1) (ru 2) (ow_co O v e) i).2 := by
        have e2 : (ow_ct (M.2 + 2 + i) M2).1 = (ow_ct (M.2 + 2 + i) M1).1 := by
          funext k
          show (if k < M.2 + 2 + i then M2.1 k else none) = (if k < M.2 + 2 + i then M1.1 k else none)
          by_cases hk : k < M.2 + 2 + i
          · rw [if_pos hk, if_pos hk, j1 k (by omega)]
          · rw [if_neg hk, if_neg hk]
        refine ow_RP.ct (B := M.2 + 2 + i) ?_ (by omega) (by omega) (by omega)
        exact g4.mv (fun k e _ he => by rw [e2]; exact he) (by rw [e2]) (by rw [e2])
      have hs2 : ow_RS (ow_ct (M.2 + 2 + (i + 1)) M2) sc s := by
        obtain ⟨aw, as, s1, s2, s3, s4⟩ := hs
        have b2 := hf _ _ s2
        have b3 := hf _ _ s3
        exact ⟨aw, as, ow_ct_mk (Kp2 _ _ s4.1 s1) (by omega), ow_ct_mk (Kp2 _ _ s4.2.1 s2) (by omega), ow_ct_mk (Kp2 _ _ s4.2.2.1 s3) (by omega), s4⟩
      have LL2 : ow_LL (ow_ct (M.2 + 2 + (i + 1)) M2) (M.2 + 2 + i) s ((ow_jw O v s ru e).2.2.2.2 i) := ⟨sc, ⟨ow_ct_mk hl2.1 (by omega), hl2.2⟩, hs2⟩
      have h02 : M2.1 0 = _ := (j1 0 n0).trans h0
      refine ⟨_, _, h02, rfl, ⟨_, RP2.uc.1⟩, ?_⟩
      refine c_addIfB RP2 (by omega) (by omega) (by omega) LL2 hS (ow_jl_ok hi) fun M3 a1 a2 a3 => ⟨rfl, ?_⟩
      rw [nI_1]
      have b3 : ∀ k, M.2 ≤ k → M3.1 k = M2.1 k := fun k hk => a1 k (by omega)
      refine ih M3 ⟨fun k hk hp => by rw [a1 k hp, Nw2.1 k hk hp], by omega⟩ (fun k h1 h2 => by rw [b3 k h1, j1 k (by omega), g2 k h1 h2]) (by omega) a3 (fun j hj => ?_) (fun j h1 h2 => ?_)
      · rcases Nat.lt_or_ge j i with hji | hji
        · have := g5 j hji
          exact ⟨by rw [b3 _ (by omega), j1 _ (by omega)]; exact this.1, this.2⟩
        · have : j = i := by omega
          subst this
          exact ⟨by rw [b3 _ (by omega)]; exact hl2.1, hl2.2⟩
      · have := g6 j (by omega) h2
        exact ⟨by rw [b3 _ (by omega), j1 _ (by omega)]; exact this.1, this.2⟩
  refine key 0 (Nat.zero_le _) MC ⟨fun k hk hp => by rw [gC k hp, NB.1 k hk id], by omega⟩ (fun k h1 h2 => gC k fun hp => by have := hP k hp; omega) eC (pC.ct (by omega) (by omega) (by omega)) (fun j hj => absurd hj (Nat.not_lt_zero j)) fun j _ h2 => ?_
  have := (LB j h2).2
  rw [eA, show M.2 + 1 + 1 + j = M.2 + 2 + j by omega] at this
  exact this.keep (gC.kp hP)
end OWK
