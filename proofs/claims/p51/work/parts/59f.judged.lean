/-! Part 59f: the past, known to be older than an address; a draft is judged -/
/-- the heap below an address -/
def ow_ct (B : Nat) (M : kz_M) : kz_M := (fun k => if k < B then M.1 k else none, M.2)
theorem ow_ct_at {B : Nat} {M : kz_M} {k : Nat} {e : kz_E} (h : (ow_ct B M).1 k = some e) : M.1 k = some e ∧ k < B := by
  have h2 : (if k < B then M.1 k else none) = some e := h
  by_cases hk : k < B
  · rw [if_pos hk] at h2; exact ⟨h2, hk⟩
  · rw [if_neg hk] at h2; cases h2
theorem ow_ct_mk {B : Nat} {M : kz_M} {k : Nat} {e : kz_E} (h : M.1 k = some e) (hk : k < B) : (ow_ct B M).1 k = some e := (if_pos hk).trans h
theorem ow_ct_kp (B : Nat) (M : kz_M) : ow_Kp (ow_ct B M) M := fun _ _ _ h => (ow_ct_at h).1
theorem ow_ct_le {B C : Nat} (M : kz_M) (h : B ≤ C) : ow_Kp (ow_ct B M) (ow_ct C M) := fun _ _ _ he => ow_ct_mk (ow_ct_at he).1 (Nat.lt_of_lt_of_le (ow_ct_at he).2 h)
theorem ow_ct_sm {P : Nat → Prop} {B : Nat} {M M1 : kz_M} (g : ow_Sm P M M1) : ow_Sm P (ow_ct B M) (ow_ct B M1) := fun k hk => by
  show (if k < B then M1.1 k else none) = (if k < B then M.1 k else none)
  rw [g k hk]
theorem ow_ct_fr {P : Nat → Prop} {M M1 : kz_M} (hf : ow_fr M) (g : ow_Nw P M M1) (hP : ∀ k, P k → k < M.2 → False) : (ow_ct M.2 M1).1 = M.1 := by
  funext k
  show (if k < M.2 then M1.1 k else none) = M.1 k
  by_cases hk : k < M.2
  · rw [if_pos hk, g.1 k hk fun hp => hP k hp hk]
  · rw [if_neg hk]
    cases he : M.1 k with
    | none => rfl
    | some e => exact absurd (hf k e he) hk
theorem ow_RP.ct {B C p pl k : Nat} {M : kz_M} {P : ow_P} (H : ow_RP (ow_ct B M) p pl k P) (h : B ≤ C) (hp : p < ow_K) (hpl : pl < ow_K) : ow_RP (ow_ct C M) p pl k P := by
  obtain ⟨p1, p2, f, p3, p4⟩ := H
  have q1 := ow_ct_at p1
  have q3 := ow_ct_at p3
  refine ⟨ow_ct_mk q1.1 (by omega), p2, f, ow_ct_mk q3.1 (by omega), fun i hi => ?_⟩
  obtain ⟨⟨b, hb, hL⟩, hS, hO⟩ := p4 i hi
  exact ⟨⟨b, hb, hL.keep (ow_ct_le M h)⟩, hS, hO⟩
theorem ow_RP.uc {B p pl k : Nat} {M : kz_M} {P : ow_P} (H : ow_RP (ow_ct B M) p pl k P) : ow_RP M p pl k P := by
  obtain ⟨p1, p2, f, p3, p4⟩ := H
  refine ⟨(ow_ct_at p1).1, p2, f, (ow_ct_at p3).1, fun i hi => ?_⟩
  obtain ⟨⟨b, hb, hL⟩, hS, hO⟩ := p4 i hi
  exact ⟨⟨b, hb, hL.keep (ow_ct_kp B M)⟩, hS, hO⟩
section OWJ
variable {G : kz_G} {d : Nat} {Qr : Option Value → kz_M → Prop} {Qx : String → kz_M → Prop} {M : kz_M} {s : Nat} {O : ow_O}
theorem c_workOfB {B i v : Nat} (h : ow_RO (ow_ct B M) s O) (hO : ow_Ok1 O) (hi : i < o_wk O) (qn : (o_ws O i).1 ≠ v → Qr (some (kz_rf none)) M) (hv : v < 2 ^ 31) (qs : ∀ b, (o_ws O i).1 = v → ow_RW (ow_ct B M) b (o_ws O i) → Qr (some (kz_rf (some b))) M) : kz_C G (d + 1) 0 0 mX9_workOf [.ref s, .int (nI v), .int (nI i)] M Qr Qx := by
  have hwk := hO.1.2.2.2.1
  obtain ⟨h1, h2, -, -, -, -, ⟨f, h7, h7'⟩, -⟩ := h
  have h1 := (ow_ct_at h1).1
  have h7 := (ow_ct_at h7).1
  obtain ⟨b, hb, hw⟩ := h7'.2 i hi
  refine rX9_workOf_0 ⟨⟨_, h1⟩, rX9_workAt_0 (ow_n (nI_pos (by omega)) ⟨_, _, h1, rfl, ow_n (nI_ge hi (by omega)) ⟨_, _, h1, rfl, _, _, h7, ow_n (nI_ge (by omega) (by omega)) ⟨_, _, h1, rfl, _, _, h7, vp_in_nI (by omega) (by omega), fun o ho => ?_⟩⟩⟩)⟩
  rw [nI_clamp (by omega), hb] at ho
  subst ho
  refine ⟨_, rfl, fun hz => (by cases hz), fun y hy => ?_⟩
  cases hy
  have hw0 := hw
  obtain ⟨sc, al, f, w1, -⟩ := hw
  have hwl := (hO.2.2.2 i hi).2.2.1
  refine ⟨_, _, (ow_ct_at w1).1, rfl, ?_⟩
  by_cases hc : (o_ws O i).1 = v
  · exact ow_nn (by rw [hc]) (qs b hc hw0)
  · exact ow_yn (fun e => hc ((nI_eq (by omega) hv).mp e)) (qn hc)
theorem c_lineAtB {B a j : Nat} {w : ow_W} (h : ow_RW (ow_ct B M) a w) (hm : w.2.2.2.1 ≤ 60) (hj : j < w.2.2.2.1) (qs : ∀ b sc, ow_RL (ow_ct B M) b sc (w.2.2.2.2 j) → ow_RS (ow_ct B M) sc w.2.2.1 → Qr (some (kz_rf (some b))) M) : kz_C G d 0 0 mX10_lineAt [.ref a, .int (nI j)] M Qr Qx := by
  obtain ⟨sc, al, f, h1, h2, h3, h4, h5, h6⟩ := h
  have h1 := (ow_ct_at h1).1
  have h3 := (ow_ct_at h3).1
  obtain ⟨b, hb, hl⟩ := h6 j hj
  refine rX10_lineAt_0 (ow_n (nI_pos (by omega)) ⟨_, _, h1, rfl, _, _, h3, ow_n (nI_ge hj (by omega)) ⟨_, _, h1, rfl, _, _, h3, vp_in_nI hj (by omega), fun o ho => ?_⟩⟩)
  rw [nI_clamp (by omega), hb] at ho
  subst ho
  exact qs b sc hl h2
theorem c_addIfB {B p pl k b : Nat} {P : ow_P} {s : ow_S} {l : ow_L} (h : ow_RP (ow_ct B M) p pl k P) (hk : k < 780) (hpK : p < ow_K) (hplK : pl < ow_K) (hL : ow_LL (ow_ct B M) b s l) (hS : ow_Sok s) (hO : ow_Lok s l) (q : ∀ M1, ow_Sm (fun z => z = p ∨ z = pl) M M1 → M1.2 = M.2 → ow_RP (ow_ct B M1) p pl (k + (if ow_cts l then 1 else 0)) (if ow_cts l then ow_pa k P s l else P) → Qr none M1) : kz_C G (d + 1) 0 0 mX5_addIfItCounts [.ref p, .ref b] M Qr Qx := by
  have h0 := h
  obtain ⟨h1, hk', f, h2, h3⟩ := h
  have hpB := (ow_ct_at h1).2
  have hplB := (ow_ct_at h2).2
  have h1 := (ow_ct_at h1).1
  have h2 := (ow_ct_at h2).1
  have hL0 := hL
  obtain ⟨sc, hl, hs⟩ := hL
  have hl := hl.keep (ow_ct_kp B M)
  have hne : p ≠ pl := fun e => by rw [e, h2] at h1; cases h1
  refine rX5_addIfItCounts_0 ⟨⟨_, hl.1⟩, c_counts hl hO.2.2.2 ⟨_, rfl, ow_if0 (fun hz => ?_) (fun hz => ?_)⟩⟩
  · rw [hz] at q
    exact q M (fun _ _ => rfl) rfl h0
  · rw [hz] at q
    refine ⟨_, _, h1, rfl, ow_n (nI_pos (by omega)) ⟨_, _, h1, rfl, _, _, h1, rfl, _, _, h2, ow_n (nI_ge hk (by omega)) ⟨_, _, h1, rfl, _, _, h1, rfl, _, _, _, h2, hl.1, vp_in_nI hk (by omega), _, _, (kz_up_ne hne).trans h1, rfl, _, (kz_up_ne hne).trans h1, ow_l rfl, fun M2 e2 => ?_⟩⟩⟩
    have hsm : ow_Sm (fun z => z = p ∨ z = pl) M M2 := fun z hz => by
      rw [e2, kz_up_ne (fun e => hz (Or.inl e)), kz_up_ne (fun e => hz (Or.inr e))]
    have hKz : ∀ z, z = p ∨ z = pl → z < ow_K := fun z hz => by rcases hz with rfl | rfl <;> assumption
    have hsm' := ow_ct_sm (B := B) hsm
    rw [nI_clamp (by omega)] at e2
    refine q M2 hsm (by rw [e2]; rfl) ⟨?_, ?_, va_up f k (some b), ?_, fun i hi => ?_⟩
    · refine ow_ct_mk ?_ hpB
      rw [e2, kz_up_same, nI_1]; rfl
    · show k + 1 ≤ 780
      omega
    · refine ow_ct_mk ?_ hplB
      rw [e2, kz_up_ne hne.symm, kz_up_same]
    · by_cases hik : i = k
      · subst hik
        have e : (if true = true then ow_pa i P s l else P) i = (s, l) := if_pos rfl
        rw [e]
        exact ⟨⟨b, if_pos rfl, hL0.sm hsm' hKz⟩, hS, hO⟩
      · have e : (if true = true then ow_pa k P s l else P) i = P i := if_neg hik
        rw [e]
        have hik2 : i < k := by
          have : i < k + 1 := hi
          omega
        obtain ⟨⟨b', hb', hL'⟩, hS', hO'⟩ := h3 i hik2
        exact ⟨⟨b', (if_neg hik).trans hb', hL'.sm hsm' hKz⟩, hS', hO'⟩
theorem c_collectB {B v e k : Nat} {P : ow_P} (h : ow_RO (ow_ct B M) s O) (hO : ow_Ok1 O) (hs : s + 8 ≤ 97) (hP : ow_RP (ow_ct B M) 97 98 k P) (hv : v < 2 ^ 31) (he : e ≤ o_wk O) (q : ∀ M1, ow_Sm ow_inP M M1 → M1.2 = M.2 → ow_RP (ow_ct B M1) 97 98 (ow_co O v e).1 (ow_co O v e).2 → Qr none M1) : kz_C G (d + 2) 0 0 mX9_collect [.ref s, .ref 97, .int (nI v), .int (nI e)] M Qr Qx := by
  have hwk := hO.1.2.2.2.1
  have hK : ow_K = 99 := rfl
  obtain ⟨p1, p2, f, p3, p4⟩ := hP
  have q1 := ow_ct_at p1
  have q3 := ow_ct_at p3
  have inK : ∀ k, ow_inP k → k < ow_K ∧ (k < s ∨ s + 8 ≤ k) := fun k hk => by
    rcases hk with rfl | rfl <;> omega
  have kp : ∀ {M2 M3 : kz_M}, ow_Sm ow_inP M2 M3 → ow_Kp (ow_ct B M2) (ow_ct B M3) := fun g => (ow_ct_sm g).kp fun k hk => (inK k hk).1
  refine rX9_collect_0 ⟨⟨_, q1.1⟩, c_forget q1.1 fun M1 g1 g2 g3 => ⟨rfl, ?_⟩⟩
  have S1 : ow_Sm ow_inP M M1 := g1.mono fun k hk => Or.inl hk
  have key : ∀ i, i ≤ e → ∀ M2, ow_Sm ow_inP M M2 → M2.2 = M.2 → ow_RP (ow_ct B M2) 97 98 (ow_co O v i).1 (ow_co O v i).2 → zX9_collect_7 G d Qr Qx s 97 (nI v) (nI e) (nI i) M2 := by
    refine ow_loop e ?_ ?_
    · intro M2 m1 m2 m3
      exact rX9_collect_7 (ow_y (nI_le (Nat.le_refl _) (by omega)) (q M2 m1 m2 m3))
    · intro i hi ih M2 m1 m2 m3
      have hW := hO.2.2.2 i (by omega)
      have h2 := h.sm (ow_ct_sm m1) inK
      refine rX9_collect_7 (ow_n (nI_ge hi (by omega)) ⟨⟨_, (ow_ct_at h2.1).1⟩, c_workOfB h2 hO (by omega) (fun hc => ⟨none, rfl, ?_⟩) hv (fun b hc hw => ⟨some b, rfl, ?_⟩)⟩)
      · refine rX9_collect_25 ⟨fun _ => ?_, fun y hy => (by cases hy)⟩
        rw [nI_1]
        refine ih M2 m1 m2 ?_
        rw [ow_co, if_neg hc]
        exact m3
      · have hle := ow_co_le hO v i (by omega)
        have inner : ∀ j, j ≤ (o_ws O i).2.2.2.1 → ∀ M3, ow_Sm ow_inP M2 M3 → M3.2 = M.2 → ow_RP (ow_ct B M3) 97 98 (ow_cl (o_ws O i) (ow_co O v i) j).1 (ow_cl (o_ws O i) (ow_co O v i) j).2 → zX9_collect_25 G d Qr Qx s 97 (nI v) (nI e) (nI i) (some b) (nI j) M3 := by
          refine ow_loop (o_ws O i).2.2.2.1 ?_ ?_
          · intro M3 n1 n2 n3
            have hw3 : ow_RW (ow_ct B M3) b (o_ws O i) := hw.keep (kp n1)
            have hw4 : ow_RW M3 b (o_ws O i) := hw3.keep (ow_ct_kp B M3)
            refine rX9_collect_25 ⟨fun hz => (by cases hz), fun y hy => ?_⟩
            cases hy
            refine ⟨hw4.ob, c_wsize hw4 ⟨_, rfl, ow_y (nI_le (Nat.le_refl _) (by have := hW.2.1; omega)) ?_⟩⟩
            rw [nI_1]
            refine ih M3 (m1.trans n1) n2 ?_
            rw [ow_co, if_pos hc]
            exact n3
          · intro j hj ihj M3 n1 n2 n3
            have hw3 : ow_RW (ow_ct B M3) b (o_ws O i) := hw.keep (kp n1)
            have hw4 : ow_RW M3 b (o_ws O i) := hw3.keep (ow_ct_kp B M3)
            have hle2 := ow_cl_le (o_ws O i) (ow_co O v i) j
            have hm := hW.2.1
            refine rX9_collect_25 ⟨fun hz => (by cases hz), fun y hy => ?_⟩
            cases hy
            refine ⟨hw4.ob, c_wsize hw4 ⟨_, rfl, ow_n (nI_ge hj (by omega)) ⟨hw4.ob, c_lineAtB hw3 hm hj fun b' sc hl hs' => ?_⟩⟩⟩
            refine ⟨_, rfl, fun hz => (by cases hz), fun y hy => ?_⟩
            cases hy
            refine ⟨⟨_, (ow_ct_at n3.1).1⟩, c_addIfB n3 (by omega) (by decide) (by decide) ⟨sc, hl, hs'⟩ hW.1 (hW.2.2.2.2 j hj) fun M4 k1 k2 k3 => ⟨rfl, ?_⟩⟩
            rw [nI_1]
            exact ihj M4 (n1.trans k1) (k2.trans n2) k3
        exact inner 0 (Nat.zero_le _) M2 (fun _ _ => rfl) m2 m3
  exact key 0 (Nat.zero_le _) M1 S1 g2 ⟨ow_ct_mk g3 q1.2, Nat.zero_le _, f, ow_ct_mk ((g1 98 (by omega)).trans q3.1) q3.2, fun i hi => absurd hi (Nat.not_lt_zero i)⟩
end OWJ
