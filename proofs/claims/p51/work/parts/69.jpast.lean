/-! Part 69: a line takes a word; the past is collected -/
/-- a line that is being filled -/
def jPl (M : kz_M) (a aw : Nat) (f : Nat → Int32) (n wd : Nat) : Prop := M.1 a = some (.inl (11, [.ref aw, .int (nI n), .int (nI wd), .int 0, .int 0, .int 0])) ∧ M.1 aw = some (.inr (.int, 20, .inl f))
abbrev jF : Nat → Prop := fun _ => False
theorem jcO_11 : jcO 11 := ⟨_, rfl, kw_1572⟩
theorem jcO_12 : jcO 12 := ⟨_, rfl, kw_1571⟩
theorem jL.nw {P : Nat → Prop} {M M1 : kz_M} {a e n cap : Nat} {x : Nat → Nat} (h : jL M a e n cap x) (hf : ow_fr M) (g : ow_Nw P M M1) (h1 : ¬ P a) (h2 : ¬ P e) : jL M1 a e n cap x := h.mv (g.1 a (h.lt hf).1 h1) (g.1 e (h.lt hf).2 h2)
theorem jLn.nw {P : Nat → Prop} {M M1 : kz_M} {a : Nat} {s : ow_S} {l : ow_L} (h : jLn M a s l) (hf : ow_fr M) (g : ow_Nw P M M1) (hP : ∀ k, P k → ∀ e, M.1 k = some e → (∃ o : Nat × List Value, e = .inl o ∧ o.1 ≠ 11) ∨ (∃ n f, e = .inr (.int, n, .inl f) ∧ n ≠ 20) ∨ ∃ n f, e = .inr (.object "java/lang/Object", n, f)) : jLn M1 a s l := by
  obtain ⟨aw, f, h1, h2, h3⟩ := h
  refine ⟨aw, f, g.at hf (fun hp => ?_) h1, g.at hf (fun hp => ?_) h2, h3⟩
  · rcases hP _ hp _ h1 with ⟨o, e, ho⟩ | ⟨n, f, e, _⟩ | ⟨n, f, e⟩
    · cases e; exact ho rfl
    · cases e
    · cases e
  · rcases hP _ hp _ h2 with ⟨o, e, ho⟩ | ⟨n, f, e, hn⟩ | ⟨n, f, e⟩
    · cases e
    · cases e; exact hn rfl
    · cases e
theorem jLn.nf {M M1 : kz_M} {a : Nat} {s : ow_S} {l : ow_L} (h : jLn M a s l) (hf : ow_fr M) (g : ow_Nw jF M M1) : jLn M1 a s l := h.nw hf g fun _ hk => hk.elim
/-- a work of the law's -/
def jWk (M : kz_M) (a al e cap : Nat) (y : Nat → Nat) (w : ow_W) : Prop := M.1 a = some (.inl (12, [.int (nI w.1), .int (nI w.2.1), .ref al])) ∧ jL M al e w.2.2.2.1 cap y ∧ ∀ i, i < w.2.2.2.1 → jLn M (y i) w.2.2.1 (w.2.2.2.2 i)
theorem ow_Nw.new {P : Nat → Prop} {M0 M M1 : kz_M} (h : ow_Nw jF M0 M) (g : ow_Nw P M M1) (hP : ∀ k, P k → M0.2 ≤ k) : ow_Nw jF M0 M1 := ⟨fun k hk _ => (g.1 k (Nat.lt_of_lt_of_le hk h.2) fun z => by have := hP k z; omega).trans (h.1 k hk id), Nat.le_trans h.2 g.2⟩
section JPA
variable {G : kz_G} {d mc ms : Nat} {Qr : Option Value → kz_M → Prop} {Qx : String → kz_M → Prop} {M M0 : kz_M}
theorem c_takes {a aw n wd q : Nat} {f : Nat → Int32} {y : Int32} (hy : y = nI q) (h : jPl M a aw f n wd) (hq : q < 4) (hn : n < 20) (Q : ∀ M1 : kz_M, (∀ k, k ≠ a → k ≠ aw → M1.1 k = M.1 k) → M1.2 = M.2 → jPl M1 a aw (upd f n (nI q)) (n + 1) (wd + (jlt q + (if 0 < n then 1 else 0))) → Qr none M1) : kz_C G (d + 1) 0 0 mL_takes [.ref a, .int y] M Qr Qx := by
  subst hy
  obtain ⟨h1, h2⟩ := h
  have hne : a ≠ aw := fun z => by rw [z, h2] at h1; cases h1
  have fin : ∀ t : Nat, t = (if 0 < n then 1 else 0) → ∀ M18, M18 = kz_up (kz_up (kz_up M a (.inl (11, List.set [.ref aw, .int (nI n), .int (nI wd), .int 0, .int 0, .int 0] 2 (.int (nI wd + (nI (jlt q) + nI t)))))) aw (.inr (.int, 20, .inl (upd f (nI n).toNatClampNeg (nI q))))) a (.inl (11, List.set (List.set [.ref aw, .int (nI n), .int (nI wd), .int 0, .int 0, .int 0] 2 (.int (nI wd + (nI (jlt q) + nI t)))) 1 (.int (nI n + 1)))) → Qr none M18 := by
    intro t ht M18 e
    refine Q M18 (fun k h3 h4 => ?_) ?_ ⟨?_, ?_⟩
    · rw [e, kz_up_ne h3, kz_up_ne h4, kz_up_ne h3]
    · rw [e]; rfl
    · rw [e, kz_up_same, ← ht]
      show some (Sum.inl (11, [Value.ref aw, Value.int (nI n + 1), Value.int (nI wd + (nI (jlt q) + nI t)), Value.int 0, Value.int 0, Value.int 0])) = _
      rw [nI_add, nI_add, nI_1]
    · rw [e, kz_up_ne hne.symm, kz_up_same, nI_clamp (by omega)]
  refine rL_takes_0 ⟨_, _, h1, rfl, c_letters hq ⟨_, rfl, _, _, h1, rfl, ⟨fun hz => ?_, fun hz => ?_⟩⟩⟩
  · have h0 : ¬ 0 < n := fun g => nI_nle g (by omega) hz
    refine ⟨_, h1, ow_l rfl, _, _, kz_up_same _ _ _, rfl, _, _, kz_up_same _ _ _, rfl, _, _, (kz_up_ne hne.symm).trans h2, vp_in_nI (by omega) (by decide), _, _, (kz_up_ne hne).trans (kz_up_same _ _ _), rfl, _, (kz_up_ne hne).trans (kz_up_same _ _ _), ow_l rfl, ?_⟩
    exact fin 0 (by rw [if_neg h0])
  · have h0 : 0 < n := by
      rcases Nat.eq_zero_or_pos n with g | g
      · exact absurd (by rw [g]; exact nI_le (b := 0) (Nat.le_refl _) (by decide)) hz
      · exact g
    refine ⟨_, h1, ow_l rfl, _, _, kz_up_same _ _ _, rfl, _, _, kz_up_same _ _ _, rfl, _, _, (kz_up_ne hne.symm).trans h2, vp_in_nI (by omega) (by decide), _, _, (kz_up_ne hne).trans (kz_up_same _ _ _), rfl, _, (kz_up_ne hne).trans (kz_up_same _ _ _), ow_l rfl, ?_⟩
    exact fin 1 (by rw [if_pos h0])
/-- a line of before is added to a list of now -/
theorem c_addLn {r e k cap b : Nat} {x : Nat → Nat} {P : ow_P} {s : ow_S} {l : ow_L} (hG2 : kz_stat2 G) (hf0 : ow_fr M0) (F0 : ow_Nw jF M0 M) (hr : M0.2 ≤ r) (he : M0.2 ≤ e) (h : jL M r e k cap x) (hx : ∀ i, i < k → jLn M0 (x i) (P i).1 (P i).2) (hb : jLn M0 b s l) (hk : k ≤ 240) (hmc : cap ≤ k → 1 ≤ mc) (hms : cap ≤ k → jgr k ≤ ms) (Q : ∀ M1 e' cap', ow_Nw jF M0 M1 → (∀ u, u < M.2 → u ≠ r → u ≠ e → M1.1 u = M.1 u) → M.2 ≤ M1.2 → jL M1 r e' (k + 1) cap' (ja x k b) → M0.2 ≤ e' → (∀ i, i < k + 1 → jLn M0 (ja x k b i) (ow_pa k P s l i).1 (ow_pa k P s l i).2) → cap' = (if k < cap then cap else jgr k) → Qr (some (.int 1)) M1) : kz_C G (d + 6) mc ms mJx4a65c_add_9ea2d [.ref r, .ref b] M Qr Qx := by
  obtain ⟨fs, hbo⟩ := (hb.nf hf0 F0).ob
  have hE : jE M 11 k x := fun i hi => ((hx i hi).nf hf0 F0).ob
  refine c_listAdd hG2 h jcO_11 hE hbo (by decide) hk hmc hms fun M1 e' cap' g1 g2 g3 g4 g5 g6 => ?_
  refine Q M1 e' cap' (F0.new g1 fun u hu => by rcases hu with rfl | rfl <;> assumption) (fun u h1 h2 h3 => g1.1 u h1 fun z => z.elim h2 h3) g1.2 g3 (by rcases g4 with rfl | rfl; exact he; exact F0.2) (fun i hi => ?_) g6
  unfold ja ow_pa
  by_cases hik : i = k
  · rw [if_pos hik, if_pos hik]; exact hb
  · rw [if_neg hik, if_neg hik]; exact hx i (by omega)
theorem jgr_4 {c n cap c0 : Nat} (hc : c ≤ c0 + 4 * cap) (h : cap ≤ n) (hn : n ≤ cap) (h0 : n = 0 ∨ 10 ≤ n) : c + jgr n ≤ c0 + 4 * jgr n := by
  unfold jgr
  split <;> omega
theorem ow_cl_jd : ∀ (O : ow_O) (v : Nat) (s : ow_S) (ru : Nat → Nat) (e n : Nat), ow_cl (ow_jw O v s ru e) (ow_co O v e) n = ow_jd s (ru 0) (nI (ru (7 + s.1))) (ru 1) (ru 2) (ow_co O v e) n
  | _, _, _, _, _, 0 => rfl
  | O, v, s, ru, e, n + 1 => by
    show ((ow_cl (ow_jw O v s ru e) (ow_co O v e) n).1 + _, _) = ((ow_jd s (ru 0) (nI (ru (7 + s.1))) (ru 1) (ru 2) (ow_co O v e) n).1 + _, _)
    rw [ow_cl_jd O v s ru e n]
    rfl
end JPA
