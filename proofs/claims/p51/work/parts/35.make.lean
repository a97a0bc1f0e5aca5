/-! Part 35: lines and works are made; the past is filled -/
/-- nothing stands behind the next address -/
def ow_fr (M : kz_M) : Prop := ∀ k e, M.1 k = some e → k < M.2
theorem kz_Cfr {G : kz_G} {d mc ms : Nat} {μ : kz_Y} {as : List Value} {M : kz_M} {Qr : Option Value → kz_M → Prop} {Qx : String → kz_M → Prop} (h : ow_fr M → kz_C G d mc ms μ as M Qr Qx) : kz_C G d mc ms μ as M Qr Qx :=
  fun p e a1 a2 a3 s m args below a4 a5 hP hK => h (fun k e he => (hP.2.1.2.2.1 k e he).1) p e a1 a2 a3 s m args below a4 a5 hP hK
theorem kz_Zfr {G : kz_G} {d mc ms : Nat} {μ : kz_Y} {Qr : Option Value → kz_M → Prop} {Qx : String → kz_M → Prop} {pc : Nat} {ls : List (Nat × Value)} {st : List Value} {M : kz_M} {c sl : Nat} (h : ow_fr M → kz_Z G d mc ms μ Qr Qx pc ls st M c sl) : kz_Z G d mc ms μ Qr Qx pc ls st M c sl :=
  fun p e R s m args below meth cd H locs la hF hl hH hL => h (fun k e he => (hH.2.2.1 k e he).1) p e R s m args below meth cd H locs la hF hl hH hL
theorem kz_nw_up {M : kz_M} {a : Nat} {e0 e : kz_E} (h : a ≠ M.2) : (kz_nw (kz_up M a e0) e).1 a = some e0 := (if_neg h).trans (if_pos rfl)
theorem ow_l {n m : Nat} (h : Nat.blt n m = true) : n < m := Nat.le_of_ble_eq_true h
/-- only cells behind are new, and those of P have changed -/
def ow_Nw (P : Nat → Prop) (M M1 : kz_M) : Prop := (∀ k, k < M.2 → ¬ P k → M1.1 k = M.1 k) ∧ M.2 ≤ M1.2
theorem ow_Nw.at {P : Nat → Prop} {M M1 : kz_M} {k : Nat} {e : kz_E} (h : ow_Nw P M M1) (hf : ow_fr M) (hk : ¬ P k) (he : M.1 k = some e) : M1.1 k = some e := by rw [h.1 k (hf k e he) hk]; exact he
theorem ow_Nw.kp {P : Nat → Prop} {M M1 : kz_M} (h : ow_Nw P M M1) (hf : ow_fr M) (hP : ∀ k, P k → k < ow_K ∨ M.1 k = none) : ow_Kp M M1 := fun k e hk he => by
  refine h.at hf (fun hp => ?_) he
  rcases hP k hp with h1 | h1
  · omega
  · rw [h1] at he; cases he
theorem ow_fr.nw {M : kz_M} (h : ow_fr M) (e : kz_E) : ow_fr (kz_nw M e) := fun k e' he => by
  by_cases hk : k = M.2
  · rw [hk, kz_nw_2]; omega
  · rw [kz_nw_ne hk] at he
    have := h k e' he
    rw [kz_nw_2]; omega
theorem ow_fr.up {M : kz_M} {a : Nat} {e0 : kz_E} (h : ow_fr M) (e : kz_E) (ha : M.1 a = some e0) : ow_fr (kz_up M a e) := fun k e' he => by
  by_cases hk : k = a
  · rw [hk]; exact h a e0 ha
  · rw [kz_up_ne hk] at he
    exact h k e' he
theorem ow_Sm.rs {P : Nat → Prop} {M M1 : kz_M} {sc : Nat} {s : ow_S} (h : ow_RS M sc s) (g : ow_Sm P M M1) (hP : ∀ k, P k → ∀ e, M.1 k = some e → (∃ o : Nat × List Value, e = .inl o ∧ o.1 ≠ 6) ∨ ∃ n f, e = .inr (.object "LineOffice$Line", n, f)) : ow_RS M1 sc s := by
  obtain ⟨aw, as, h1, h2, h3, h4⟩ := h
  refine ⟨aw, as, ?_, ?_, ?_, h4⟩
  · rw [g sc fun hp => ?_]
    · exact h1
    · rcases hP _ hp _ h1 with ⟨o, e, ho⟩ | ⟨n, f, e⟩
      · cases e; exact ho rfl
      · cases e
  · rw [g aw fun hp => ?_]
    · exact h2
    · rcases hP _ hp _ h2 with ⟨o, e, ho⟩ | ⟨n, f, e⟩
      · cases e
      · cases e
  · rw [g as fun hp => ?_]
    · exact h3
    · rcases hP _ hp _ h3 with ⟨o, e, ho⟩ | ⟨n, f, e⟩
      · cases e
      · cases e
section OWM
variable {G : kz_G} {d : Nat} {Qr : Option Value → kz_M → Prop} {Qx : String → kz_M → Prop} {M : kz_M}
theorem c_linit {a sc x y me : Nat} {rate : Int32} {s : ow_S} (ha : M.1 a = some (.inl (3, [.null, .int 0, .int 0, .int 0, .int 0, .int 0, .int 0]))) (hs : ow_RS M sc s) (hS : ow_Sok s) (hx : x ≤ y) (hy : y ≤ s.2.1) (hme : me < 2 ^ 20) (q : ∀ M1, ow_Sm (· = a) M M1 → M1.2 = M.2 → M1.1 a = some (.inl (3, [.ref sc, .int (nI x), .int (nI y), .int (nI (ow_wd s.2.2.1 x y)), .int (ow_pf (ow_wd s.2.2.1 x y) me rate), .int (nI 0), .int (nI 0)])) → Qr none M1) : kz_C G (d + 2) 0 0 mX3_init [.ref a, .ref sc, .int (nI x), .int (nI y), .int (nI me), .int rate] M Qr Qx := by
  have hwl := ow_lt_le s.2.2.1 x y
  have hn := hS.2.2.1
  have hP : ∀ (M1 : kz_M), M1 = kz_up (kz_up (kz_up M a (.inl (3, [.ref sc, .int 0, .int 0, .int 0, .int 0, .int 0, .int 0]))) a (.inl (3, [.ref sc, .int (nI x), .int 0, .int 0, .int 0, .int 0, .int 0]))) a (.inl (3, [.ref sc, .int (nI x), .int (nI y), .int 0, .int 0, .int 0, .int 0])) → ow_RS M1 sc s := by
    intro M1 e
    refine ow_Sm.rs (P := (· = a)) hs (fun k hk => ?_) (fun k hk e he => ?_)
    · rw [e, kz_up_ne hk, kz_up_ne hk, kz_up_ne hk]
    · rw [hk, ha] at he
      exact Or.inl ⟨_, (Option.some.inj he).symm, by decide⟩
  refine rX3_init_0 ⟨_, ha, ow_l rfl, _, kz_up_same _ _ _, ow_l rfl, _, kz_up_same _ _ _, ow_l rfl, ⟨_, (hP _ rfl).choose_spec.choose_spec.1⟩, c_widthBetween (hP _ rfl) hS hx hy ⟨_, rfl, _, kz_up_same _ _ _, ow_l rfl, _, _, kz_up_same _ _ _, rfl, c_payFor (by unfold ow_wd; omega) (by omega) ⟨_, rfl, _, kz_up_same _ _ _, ow_l rfl, _, kz_up_same _ _ _, ow_l rfl, _, kz_up_same _ _ _, ow_l rfl, ?_⟩⟩⟩
  refine q _ (fun k hk => ?_) rfl (kz_up_same _ _ _)
  repeat rw [kz_up_ne hk]
theorem c_linit_ {a b sc st : Nat} {l : ow_L} (ha : M.1 a = some (.inl (3, [.null, .int 0, .int 0, .int 0, .int 0, .int 0, .int 0]))) (hb : ow_RL M b sc l) (hn : b ≠ a) (q : ∀ M1, ow_Sm (· = a) M M1 → M1.2 = M.2 → M1.1 a = some (.inl (3, [.ref sc, .int (nI l.1), .int (nI l.2.1), .int l.2.2.1, .int l.2.2.2.1, .int (nI l.2.2.2.2.1), .int (nI st)])) → Qr none M1) : kz_C G (d + 1) 0 0 mX3_init_ [.ref a, .ref b, .int (nI st)] M Qr Qx := by
  have ub : ∀ (M : kz_M) (e : kz_E), (kz_up M a e).1 b = M.1 b := fun M e => kz_up_ne hn
  refine rX3_init__0 ⟨_, _, hb.1, rfl, _, ha, ow_l rfl, _, _, (ub _ _).trans hb.1, rfl, _, kz_up_same _ _ _, ow_l rfl, _, _, (ub _ _).trans ((ub _ _).trans hb.1), rfl, _, kz_up_same _ _ _, ow_l rfl, _, _, (ub _ _).trans ((ub _ _).trans ((ub _ _).trans hb.1)), rfl, _, kz_up_same _ _ _, ow_l rfl, ?_⟩
  intro M2 e2
  have h2 : M2.1 b = _ := (congrFun (congrArg Prod.fst e2) b).trans ((ub _ _).trans ((ub _ _).trans ((ub _ _).trans ((ub _ _).trans hb.1))))
  have h3 : M2.1 a = _ := (congrFun (congrArg Prod.fst e2) a).trans (kz_up_same _ _ _)
  refine ⟨_, _, h2, rfl, _, h3, ow_l rfl, _, _, (ub _ _).trans h2, rfl, _, kz_up_same _ _ _, ow_l rfl, _, kz_up_same _ _ _, ow_l rfl, ?_⟩
  refine q _ (fun k hk => ?_) (by rw [e2]; rfl) (kz_up_same _ _ _)
  rw [kz_up_ne hk, kz_up_ne hk, kz_up_ne hk, e2]
  repeat rw [kz_up_ne hk]
theorem c_lwithState {b sc st mc ms : Nat} {l : ow_L} (hb : ow_RL M b sc l) (hmc : 1 ≤ mc) (hms : 7 ≤ ms) (q : ∀ M1, ow_Nw (fun _ => False) M M1 → M1.2 = M.2 + 1 → M1.1 M.2 = some (.inl (3, [.ref sc, .int (nI l.1), .int (nI l.2.1), .int l.2.2.1, .int l.2.2.2.1, .int (nI l.2.2.2.2.1), .int (nI st)])) → Qr (some (.ref M.2)) M1) : kz_C G (d + 2) mc ms mX3_withState [.ref b, .int (nI st)] M Qr Qx := by
  refine kz_Cfr fun hf => ?_
  have hn : b ≠ M.2 := fun e => by have := hf _ _ hb.1; omega
  refine rX3_withState_0 ⟨by omega, by omega, c_linit_ (kz_nw_same _ _) ⟨(kz_nw_ne hn).trans hb.1, hb.2⟩ hn fun M1 g1 g2 g3 => ⟨rfl, q M1 ⟨fun k hk _ => ?_, ?_⟩ ?_ g3⟩⟩
  · have hk2 : k ≠ M.2 := by omega
    rw [g1 k hk2, kz_nw_ne hk2]
  · rw [g2, kz_nw_2]; omega
  · rw [g2, kz_nw_2]
theorem c_judge {a sc r : Nat} {l : ow_L} (h : ow_RL M a sc l) (hr : r ≤ 3) (q : ∀ M1, ow_Sm (· = a) M M1 → M1.2 = M.2 → ow_RL M1 a sc (l.1, l.2.1, l.2.2.1, l.2.2.2.1, r, if r = 0 then 0 else 1) → Qr none M1) : kz_C G d 0 0 mX3_judge [.ref a, .int (nI r)] M Qr Qx := by
  refine rX3_judge_0 ⟨_, h.1, ow_l rfl, ?_⟩
  by_cases hz : r = 0
  · subst hz
    refine ow_nn rfl ⟨_, kz_up_same _ _ _, ow_l rfl, q _ (fun k hk => ?_) rfl ⟨kz_up_same _ _ _, h.2⟩⟩
    repeat rw [kz_up_ne hk]
  · rw [if_neg hz] at q
    refine ow_yn (nI_ne0 (by omega) (by omega)) ⟨_, kz_up_same _ _ _, ow_l rfl, q _ (fun k hk => ?_) rfl ⟨kz_up_same _ _ _, h.2⟩⟩
    repeat rw [kz_up_ne hk]
/-- where the i-th line from word a on begins -/
def ow_it (s : ow_S) (me : Nat) : Nat → Nat → Nat
  | 0, a => a
  | i + 1, a => ow_it s me i (ow_le s me a)
theorem ow_it_s (s : ow_S) (me : Nat) : ∀ i a, ow_it s me (i + 1) a = ow_le s me (ow_it s me i a)
  | 0, _ => rfl
  | i + 1, a => ow_it_s s me i (ow_le s me a)
theorem ow_it_nl (s : ow_S) (me : Nat) : ∀ f a, s.2.1 ≤ a + f → a ≤ s.2.1 → (∀ i, i < ow_nlF s me f a → ow_it s me i a < s.2.1) ∧ ow_it s me (ow_nlF s me f a) a = s.2.1 ∧ ow_nlF s me f a + a ≤ s.2.1
  | 0, a, h1, h2 => ⟨fun i hi => absurd hi (Nat.not_lt_zero i), by show a = s.2.1; omega, by show 0 + a ≤ s.2.1; omega⟩
  | f + 1, a, h1, h2 => by
    rw [ow_nlF]
    split
    · rename_i hlt
      have hg := ow_le_gt s me a
      obtain ⟨h3, h4, h5⟩ := ow_it_nl s me f (ow_le s me a) (by omega) (ow_le_le hlt)
      refine ⟨fun i hi => ?_, h4, by omega⟩
      cases i with
      | zero => exact hlt
      | succ i => exact h3 i (by omega)
    · exact ⟨fun i hi => absurd hi (Nat.not_lt_zero i), by show a = s.2.1; omega, by omega⟩
/-- the lines of a script as they are made -/
def ow_l0 (s : ow_S) (me : Nat) (rate : Int32) (i : Nat) : ow_L := (ow_it s me i 0, ow_it s me (i + 1) 0, nI (ow_wd s.2.2.1 (ow_it s me i 0) (ow_it s me (i + 1) 0)), ow_pf (ow_wd s.2.2.1 (ow_it s me i 0) (ow_it s me (i + 1) 0)) me rate, 0, 0)
theorem c_winit {a sc wr dy me mc ms : Nat} {rate : Int32} {s : ow_S} (ha : M.1 a = some (.inl (9, [.int 0, .int 0, .null, .null]))) (hK : ow_K ≤ M.2) (hs : ow_RS M sc s) (hS : ow_Sok s) (hme : me < 2 ^ 20) (hmc : 1 + ow_nl s me ≤ mc) (hms : 8 * ow_nl s me ≤ ms) (q : ∀ M1 f, ow_Nw (· = a) M M1 → M1.2 = M.2 + 1 + ow_nl s me → M1.1 a = some (.inl (9, [.int (nI wr), .int (nI dy), .ref sc, .ref M.2])) → M1.1 M.2 = some (.inr (.object "LineOffice$Line", ow_nl s me, .inr (.inr (.inr (.inr f))))) → (∀ i, i < ow_nl s me → f i = some (M.2 + 1 + i) ∧ ow_RL M1 (M.2 + 1 + i) sc (ow_l0 s me rate i)) → Qr none M1) : kz_C G (d + 4) mc ms mX10_init [.ref a, .int (nI wr), .int (nI dy), .ref sc, .int (nI me), .int rate] M Qr Qx := by
  refine kz_Cfr fun hf => ?_
  have hn := hS.2.2.1
  have han : a ≠ M.2 := fun e => by have := hf _ _ ha; omega
  have haM := hf _ _ ha
  obtain ⟨hit, hend, hle⟩ := ow_it_nl s me s.2.1 0 (by omega) (Nat.zero_le _)
  have hnl : ow_nlF s me s.2.1 0 = ow_nl s me := rfl
  rw [hnl] at hit hend hle
  have rs : ∀ M1 : kz_M, ow_Nw (· = a) M M1 → ow_RS M1 sc s := fun M1 g => by
    obtain ⟨aw, as, h1, h2, h3, h4⟩ := hs
    refine ⟨aw, as, g.at hf ?_ h1, g.at hf ?_ h2, g.at hf ?_ h3, h4⟩
    · intro e; rw [e, ha] at h1; cases h1
    · intro e; rw [e, ha] at h2; cases h2
    · intro e; rw [e, ha] at h3; cases h3
  have g1 : ow_Nw (· = a) M (kz_up (kz_up (kz_up M a (.inl (9, [.int (nI wr), .int 0, .null, .null]))) a (.inl (9, [.int (nI wr), .int (nI dy), .null, .null]))) a (.inl (9, [.int (nI wr), .int (nI dy), .ref sc, .null]))) := ⟨fun k hk hka => by rw [kz_up_ne hka, kz_up_ne hka, kz_up_ne hka], Nat.le_refl _⟩
  refine rX10_init_0 ⟨_, ha, ow_l rfl, _, kz_up_same _ _ _, ow_l rfl, _, kz_up_same _ _ _, ow_l rfl, ⟨_, (rs _ g1).choose_spec.choose_spec.1⟩, c_linesBy (rs _ g1) hS hme ⟨_, rfl, ?_⟩⟩
  rw [ow_max _ (by omega)]
  refine ⟨_, nI_pos (by omega), rfl, ?_, ?_, ?_, _, kz_nw_up (by exact han), ow_l rfl, ?_⟩
  · rw [nI_clamp (by omega)]; omega
  · omega
  · rw [nI_clamp (by omega)]; omega
  rw [nI_clamp (by omega)]
  have key : ∀ i, i ≤ ow_nl s me → ∀ (M1 : kz_M) (f : Nat → Option Nat) c sl, ow_Nw (· = a) M M1 → M1.2 = M.2 + 1 + i → M1.1 a = some (.inl (9, [.int (nI wr), .int (nI dy), .ref sc, .ref M.2])) → M1.1 M.2 = some (.inr (.object "LineOffice$Line", ow_nl s me, .inr (.inr (.inr (.inr f))))) → (∀ j, j < i → f j = some (M.2 + 1 + j) ∧ ow_RL M1 (M.2 + 1 + j) sc (ow_l0 s me rate j)) → c = 1 + i → sl = ow_nl s me + 7 * i → zX10_init_42 G d mc ms Qr Qx a sc (nI me) rate (nI (ow_it s me i 0)) (nI i) M1 c sl := by
    refine ow_loop (ow_nl s me) ?_ ?_
    · intro M1 f c sl e1 e2 e3 e4 e5 e6 e7
      exact rX10_init_42 (by omega) (by omega) ⟨_, _, e3, rfl, _, _, e4, ow_y (nI_le (Nat.le_refl _) (by omega)) (q M1 f e1 e2 e3 e4 e5)⟩
    · intro i hi ih M1 f c sl e1 e2 e3 e4 e5 e6 e7
      have hin := hit i hi
      have hr := rs _ e1
      refine kz_Zfr fun hf1 => ?_
      have hfr : ∀ k, k < M1.2 → k ≠ M1.2 := fun k hk => by omega
      refine rX10_init_42 (by omega) (by omega) ⟨_, _, e3, rfl, _, _, e4, ow_n (nI_ge hi (by omega)) ⟨⟨_, hr.choose_spec.choose_spec.1⟩, c_lineEnd hr hS hin hme ⟨_, rfl, _, _, e3, rfl, by omega, by omega, ?_⟩⟩⟩
      have hr2 : ow_RS (kz_nw M1 (.inl (3, [.null, .int 0, .int 0, .int 0, .int 0, .int 0, .int 0]))) sc s := rs _ ⟨fun k hk hka => by rw [kz_nw_ne (by omega), e1.1 k hk hka], by rw [kz_nw_2]; omega⟩
      refine c_linit (kz_nw_same _ _) hr2 hS (Nat.le_of_lt (ow_le_gt s me _)) (ow_le_le hin) hme fun M2 d1 d2 d3 => ⟨rfl, _, _, _, (d1 _ (by omega)).trans ((kz_nw_ne (by omega)).trans e4), d3, vp_in_nI hi (by omega), ?_⟩
      rw [nI_clamp (by omega), nI_1, ← ow_it_s]
      have hMM : M.2 ≠ M1.2 := by omega
      have g2 : ∀ k, k < M1.2 → k ≠ M.2 → (kz_up M2 M.2 (.inr (.object "LineOffice$Line", ow_nl s me, .inr (.inr (.inr (.inr (va_up f i (some M1.2)))))))).1 k = M1.1 k := fun k hk hk2 => by
        rw [kz_up_ne hk2, d1 k (by omega), kz_nw_ne (by omega)]
      refine ih _ (va_up f i (some M1.2)) (c + 1) (sl + 7) ⟨fun k hk hka => ?_, ?_⟩ ?_ ?_ (kz_up_same _ _ _) ?_ (by omega) (by omega)
      · rw [g2 k (by omega) (by omega), e1.1 k hk hka]
      · rw [kz_up_2, d2, kz_nw_2]; omega
      · rw [kz_up_2, d2, kz_nw_2]; omega
      · rw [g2 a (by omega) han]; exact e3
      · intro j hj
        rcases Nat.lt_or_ge j i with hji | hji
        · obtain ⟨f1, f2, f3⟩ := e5 j hji
          refine ⟨?_, ?_, f3⟩
          · rw [va_up, if_neg (by omega)]; exact f1
          · rw [g2 _ (by omega) (by omega)]; exact f2
        · have hj2 : j = i := by omega
          subst hj2
          refine ⟨?_, ?_, by omega⟩
          · rw [va_up, if_pos rfl, e2]
          · rw [kz_up_ne (by omega), ← e2]
            rw [d3, ← ow_it_s]
            rfl
  refine key 0 (Nat.zero_le _) _ (fun _ => none) _ _ ⟨fun k hk hka => ?_, ?_⟩ rfl (kz_up_same _ _ _) ?_ (fun j hj => absurd hj (Nat.not_lt_zero j)) rfl (by omega)
  · rw [kz_up_ne hka, kz_nw_ne (by rw [kz_up_2, kz_up_2, kz_up_2]; omega), kz_up_ne hka, kz_up_ne hka, kz_up_ne hka]
  · show M.2 ≤ M.2 + 1
    omega
  · refine (kz_up_ne ?_).trans (kz_nw_same _ _)
    omega
end OWM
