/-! Part 36: a work with a line's state changed; the past is filled -/
def ow_wst (w : ow_W) (i st : Nat) : ow_W := (w.1, w.2.1, w.2.2.1, w.2.2.2.1, fun j => if j = i then ((w.2.2.2.2 i).1, (w.2.2.2.2 i).2.1, (w.2.2.2.2 i).2.2.1, (w.2.2.2.2 i).2.2.2.1, (w.2.2.2.2 i).2.2.2.2.1, st) else w.2.2.2.2 j)
theorem ow_Nw.kpF {M M1 : kz_M} (h : ow_Nw (fun _ => False) M M1) (hf : ow_fr M) : ow_Kp M M1 := h.kp hf fun _ hp => hp.elim
theorem ow_Nw.nw (M : kz_M) (e : kz_E) : ow_Nw (fun _ => False) M (kz_nw M e) := ⟨fun k hk _ => kz_nw_ne (by omega), by rw [kz_nw_2]; omega⟩
theorem ow_Nw.trans {P : Nat → Prop} {M M1 M2 : kz_M} (h : ow_Nw P M M1) (g : ow_Nw P M1 M2) : ow_Nw P M M2 := ⟨fun k hk hp => by rw [g.1 k (Nat.lt_of_lt_of_le hk h.2) hp, h.1 k hk hp], Nat.le_trans h.2 g.2⟩
theorem ow_Nw.mono {P Q : Nat → Prop} {M M1 : kz_M} (h : ow_Nw P M M1) (g : ∀ k, P k → Q k) : ow_Nw Q M M1 := ⟨fun k hk hp => h.1 k hk fun z => hp (g k z), h.2⟩
theorem ow_Sm.toNw {P : Nat → Prop} {M M1 : kz_M} (h : ow_Sm P M M1) (g : M1.2 = M.2) : ow_Nw P M M1 := ⟨fun k _ hp => h k hp, by omega⟩
section OWN
variable {G : kz_G} {d : Nat} {Qr : Option Value → kz_M → Prop} {Qx : String → kz_M → Prop} {M : kz_M}
theorem c_winit_ {a b p sc al : Nat} {wr dy : Int32} (ha : M.1 a = some (.inl (9, [.int 0, .int 0, .null, .null]))) (hb : M.1 b = some (.inl (9, [.int wr, .int dy, .ref sc, .ref al]))) (hn : b ≠ a) (q : ∀ M1, ow_Sm (· = a) M M1 → M1.2 = M.2 → M1.1 a = some (.inl (9, [.int wr, .int dy, .ref sc, .ref p])) → Qr none M1) : kz_C G (d + 1) 0 0 mX10_init_ [.ref a, .ref b, .ref p] M Qr Qx := by
  have ub : ∀ (M : kz_M) (e : kz_E), (kz_up M a e).1 b = M.1 b := fun M e => kz_up_ne hn
  refine rX10_init__0 ⟨_, _, hb, rfl, _, ha, ow_l rfl, _, _, (ub _ _).trans hb, rfl, _, kz_up_same _ _ _, ow_l rfl, _, _, (ub _ _).trans ((ub _ _).trans hb), rfl, _, kz_up_same _ _ _, ow_l rfl, _, kz_up_same _ _ _, ow_l rfl, ?_⟩
  intro M2 e2
  refine q _ (fun k hk => ?_) (by rw [e2]; rfl) ((congrFun (congrArg Prod.fst e2) a).trans (kz_up_same _ _ _))
  rw [e2]
  repeat rw [kz_up_ne hk]
theorem c_wwithState {a i st mc ms : Nat} {w : ow_W} (h : ow_RW M a w) (hm : w.2.2.2.1 ≤ 60) (hi : i < w.2.2.2.1) (hK : ow_K ≤ M.2) (hmc : 3 ≤ mc) (hms : 71 ≤ ms) (q : ∀ M1 b, ow_Nw (fun _ => False) M M1 → ow_RW M1 b (ow_wst w i st) → Qr (some (.ref b)) M1) : kz_C G (d + 3) mc ms mX10_withState [.ref a, .int (nI i), .int (nI st)] M Qr Qx := by
  refine kz_Cfr fun hf => ?_
  have h0 := h
  obtain ⟨sc, al, f, h1, h2, h3, h4, h5, h6⟩ := h
  have haM := hf _ _ h1
  refine rX10_withState_0 ⟨_, _, h1, rfl, _, _, h3, by omega, by omega, _, kz_nw_same _ _, ?_⟩
  have gA := ow_Nw.nw M (.inr (.object "LineOffice$Line", w.2.2.2.1, .inr (.inr (.inr (.inr f)))))
  have hA := kz_nw_same M (.inr (.object "LineOffice$Line", w.2.2.2.1, .inr (.inr (.inr (.inr f)))))
  have eA := kz_nw_2 M (.inr (.object "LineOffice$Line", w.2.2.2.1, .inr (.inr (.inr (.inr f)))))
  have fA := hf.nw (.inr (.object "LineOffice$Line", w.2.2.2.1, .inr (.inr (.inr (.inr f)))))
  generalize kz_nw M (.inr (.object "LineOffice$Line", w.2.2.2.1, .inr (.inr (.inr (.inr f))))) = MA at gA hA eA fA ⊢
  obtain ⟨b0, hb0, hl0⟩ := h6 i hi
  have h1A := gA.at hf id h1
  have h3A := gA.at hf id h3
  have hl := hl0.keep (gA.kpF hf)
  refine ⟨⟨_, h1A⟩, rX10_lineAt_0 (ow_n (nI_pos (by omega)) ⟨_, _, h1A, rfl, _, _, h3A, ow_n (nI_ge hi (by omega)) ⟨_, _, h1A, rfl, _, _, h3A, vp_in_nI hi (by omega), fun o ho => ?_⟩⟩)⟩
  rw [nI_clamp (by omega), hb0] at ho
  subst ho
  refine ⟨_, rfl, fun hz => (by cases hz), fun y hy => ?_⟩
  cases hy
  refine ⟨_, _, hA, ow_n (nI_ge hi (by omega)) ⟨⟨_, hl.1⟩, 1, 7, by omega, by omega, c_lwithState hl (by omega) (by omega) fun M1 g1 g2 g3 => ⟨_, rfl, _, _, _, g1.at fA id hA, g3, vp_in_nI hi (by omega), by omega, by omega, fun M2 e2 => ?_⟩⟩⟩
  have hab : a ≠ M.2 := by omega
  have k2 : ∀ k, k < M1.2 → k ≠ M.2 → M2.1 k = M1.1 k := fun k hk hk2 => by
    rw [e2, kz_nw_ne (by rw [kz_up_2]; omega), kz_up_ne hk2]
  have e22 : M2.2 = M1.2 + 1 := by rw [e2]; rfl
  have h1B : M2.1 a = _ := (k2 a (by omega) hab).trans (g1.at fA id h1A)
  refine c_winit_ (by rw [e2]; exact kz_nw_same _ _) h1B (by rw [kz_up_2]; omega) fun M3 d1 d2 d3 => ⟨rfl, ?_⟩
  rw [kz_up_2] at d1 d3 ⊢
  have hMM : M.2 ≠ M1.2 := by omega
  have k3 : ∀ k, k < M1.2 → k ≠ M.2 → M3.1 k = M1.1 k := fun k hk hk2 => by
    rw [d1 k (by omega), k2 k hk hk2]
  have g3' : ow_Nw (fun _ => False) M M3 := ⟨fun k hk _ => by rw [k3 k (by omega) (by omega), g1.1 k (by omega) id, gA.1 k hk id], by omega⟩
  refine q M3 _ g3' ⟨sc, M.2, va_up f i (some MA.2), d3, h2.keep (g3'.kpF hf), ?_, by omega, hK, fun k hk => ?_⟩
  · rw [nI_clamp (by omega)] at e2
    rw [d1 _ (by omega), e2, kz_nw_ne (by rw [kz_up_2]; omega)]
    exact kz_up_same _ _ _
  · show ∃ b, va_up f i (some MA.2) k = some b ∧ ow_RL M3 b sc (if k = i then _ else _)
    by_cases hki : k = i
    · subst hki
      rw [if_pos rfl]
      refine ⟨_, if_pos rfl, ?_, by omega⟩
      rw [k3 _ (by omega) (by omega)]
      exact g3
    · obtain ⟨b1, hb1, hl1⟩ := h6 k hk
      rw [if_neg hki]
      exact ⟨b1, (if_neg hki).trans hb1, hl1.keep (g3'.kpF hf)⟩
theorem c_forget {p pl : Nat} {k : Int32} (h : M.1 p = some (.inl (5, [.ref pl, .int k]))) (q : ∀ M1, ow_Sm (· = p) M M1 → M1.2 = M.2 → M1.1 p = some (.inl (5, [.ref pl, .int (nI 0)])) → Qr none M1) : kz_C G d 0 0 mX5_forget [.ref p] M Qr Qx :=
  rX5_forget_0 ⟨_, h, ow_l rfl, q _ (fun _ hk => kz_up_ne hk) rfl (kz_up_same _ _ _)⟩
def ow_pa (k : Nat) (P : ow_P) (s : ow_S) (l : ow_L) : ow_P := fun i => if i = k then (s, l) else P i
theorem ow_LL.sm {P : Nat → Prop} {M M1 : kz_M} {b : Nat} {s : ow_S} {l : ow_L} (h : ow_LL M b s l) (g : ow_Sm P M M1) (hP : ∀ k, P k → k < ow_K) : ow_LL M1 b s l := h.keep (g.kp hP)
theorem c_addIf {p pl k b : Nat} {P : ow_P} {s : ow_S} {l : ow_L} (h : ow_RP M p pl k P) (hk : k < 780) (hpK : p < ow_K) (hplK : pl < ow_K) (hL : ow_LL M b s l) (hS : ow_Sok s) (hO : ow_Lok s l) (q : ∀ M1, ow_Sm (fun z => z = p ∨ z = pl) M M1 → M1.2 = M.2 → ow_RP M1 p pl (k + (if ow_cts l then 1 else 0)) (if ow_cts l then ow_pa k P s l else P) → Qr none M1) : kz_C G (d + 1) 0 0 mX5_addIfItCounts [.ref p, .ref b] M Qr Qx := by
  have h0 := h
  obtain ⟨h1, hk', f, h2, h3⟩ := h
  have hL0 := hL
  obtain ⟨sc, hl, hs⟩ := hL
  have hne : p ≠ pl := fun e => by rw [e, h2] at h1; cases h1
  refine rX5_addIfItCounts_0 ⟨⟨_, hl.1⟩, c_counts hl hO.2.2.2 ⟨_, rfl, ow_if0 (fun hz => ?_) (fun hz => ?_)⟩⟩
  · rw [hz] at q
    exact q M (fun _ _ => rfl) rfl h0
  · rw [hz] at q
    refine ⟨_, _, h1, rfl, ow_n (nI_pos (by omega)) ⟨_, _, h1, rfl, _, _, h1, rfl, _, _, h2, ow_n (nI_ge hk (by omega)) ⟨_, _, h1, rfl, _, _, h1, rfl, _, _, _, h2, hl.1, vp_in_nI hk (by omega), _, _, (kz_up_ne hne).trans h1, rfl, _, (kz_up_ne hne).trans h1, ow_l rfl, fun M2 e2 => ?_⟩⟩⟩
    have hsm : ow_Sm (fun z => z = p ∨ z = pl) M M2 := fun z hz => by
      rw [e2, kz_up_ne (fun e => hz (Or.inl e)), kz_up_ne (fun e => hz (Or.inr e))]
    have hKz : ∀ z, z = p ∨ z = pl → z < ow_K := fun z hz => by rcases hz with rfl | rfl <;> assumption
    rw [nI_clamp (by omega)] at e2
    refine q M2 hsm (by rw [e2]; rfl) ⟨?_, ?_, va_up f k (some b), ?_, fun i hi => ?_⟩
    · rw [e2, kz_up_same, nI_1]; rfl
    · show k + 1 ≤ 780
      omega
    · rw [e2, kz_up_ne hne.symm, kz_up_same]
    · by_cases hik : i = k
      · subst hik
        have e : (if true = true then ow_pa i P s l else P) i = (s, l) := if_pos rfl
        rw [e]
        exact ⟨⟨b, if_pos rfl, hL0.sm hsm hKz⟩, hS, hO⟩
      · have e : (if true = true then ow_pa k P s l else P) i = P i := if_neg hik
        rw [e]
        have hik2 : i < k := by
          have : i < k + 1 := hi
          omega
        obtain ⟨⟨b', hb', hL'⟩, hS', hO'⟩ := h3 i hik2
        exact ⟨⟨b', (if_neg hik).trans hb', hL'.sm hsm hKz⟩, hS', hO'⟩
end OWN
