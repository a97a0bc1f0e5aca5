/-! Part 77: the law's smaller acts -/
/-- the law's object and its rows of three -/
def jP3 (M : kz_M) (P : Nat → Prop) : Prop := ∀ k, P k → ∀ e, M.1 k = some e → (∃ o : Nat × List Value, e = .inl o ∧ o.1 = 13) ∨ ∃ f, e = .inr (.int, 3, .inl f)
theorem jP3.no {M : kz_M} {P : Nat → Prop} (h : jP3 M P) {k : Nat} {o : Nat × List Value} (he : M.1 k = some (.inl o)) (ho : o.1 ≠ 13) : ¬ P k := fun hp => by
  rcases h k hp _ he with ⟨o', e, ho'⟩ | ⟨f, e⟩
  · cases e; exact ho ho'
  · cases e
theorem jL.n3 {P : Nat → Prop} {M M1 : kz_M} {a e n cap : Nat} {x : Nat → Nat} (h : jL M a e n cap x) (hf : ow_fr M) (g : ow_Nw P M M1) (hP : jP3 M P) : jL M1 a e n cap x := by
  obtain ⟨m, v, h1, -⟩ := h.ob
  refine h.nw hf g (hP.no h1 (show (16 : Nat) ≠ 13 by decide)) fun hp => ?_
  rcases h with ⟨-, z1, -, z2⟩ | ⟨-, -, z2, -⟩
  · rw [z1] at hp; exact hP.no z2 (show (16 : Nat) ≠ 13 by decide) hp
  · rcases hP _ hp _ z2 with ⟨o', e, ho'⟩ | ⟨f, e⟩ <;> cases e
theorem jP3.ln {M : kz_M} {P : Nat → Prop} (h : jP3 M P) : ∀ k, P k → ∀ e, M.1 k = some e → (∃ o : Nat × List Value, e = .inl o ∧ o.1 ≠ 11) ∨ (∃ n f, e = .inr (.int, n, .inl f) ∧ n ≠ 20) ∨ ∃ n f, e = .inr (.object "java/lang/Object", n, f) := fun k hk e he => by
  rcases h k hk e he with ⟨o, e1, e2⟩ | ⟨f, e1⟩
  · exact Or.inl ⟨o, e1, by rw [e2]; decide⟩
  · exact Or.inr (Or.inl ⟨3, f, e1, by decide⟩)
theorem jX.n3 {P : Nat → Prop} {M M1 : kz_M} {O : ow_O} {e0 capW : Nat} {xW al el cp : Nat → Nat} {y : Nat → Nat → Nat} (h : jX M O e0 capW xW al el cp y) (hf : ow_fr M) (g : ow_Nw P M M1) (hP : jP3 M P) : jX M1 O e0 capW xW al el cp y := ⟨h.1.n3 hf g hP, h.2.1, fun i hi => by
  obtain ⟨⟨h1, h2, h3⟩, h4⟩ := h.2.2 i hi
  exact ⟨⟨g.at hf (hP.no h1 (show (12 : Nat) ≠ 13 by decide)) h1, h2.n3 hf g hP, fun j hj => (h3 j hj).nw hf g hP.ln⟩, h4⟩⟩
theorem jX.to {M : kz_M} {O O' : ow_O} {e0 capW : Nat} {xW al el cp : Nat → Nat} {y : Nat → Nat → Nat} (h : jX M O e0 capW xW al el cp y) (h1 : o_wk O' = o_wk O) (h2 : o_ws O' = o_ws O) : jX M O' e0 capW xW al el cp y := by
  unfold jX
  rw [h1, h2]
  exact h
/-- a cell of the law's object or of its rows is the law's own -/
theorem jP3.lf {M M1 : kz_M} {P : Nat → Prop} (g : ow_Nw P M M1) (hf : ow_fr M) (hM : 99 ≤ M.2) (hP : ∀ k, P k → 99 ≤ k ∧ ∀ e, M.1 k = some e → (∃ o : Nat × List Value, e = .inl o ∧ 11 ≤ o.1) ∨ ∃ n f, e = .inr (.int, n, .inl f) ∧ f 100000 = 1) : ow_LF M M1 := g.lf hf hM fun k hk => ⟨(hP k hk).1, fun e he hm => by
  rcases (hP k hk).2 e he with ⟨o, e1, e2⟩ | ⟨n, f, e1, e2⟩
  · rw [e1] at hm
    have hm : o.1 < 11 := hm
    omega
  · rw [e1] at hm
    rcases hm with z | z | z | ⟨n', f', z1, -, z2⟩
    · cases z
    · cases z
    · cases z
    · cases z1
      rw [e2] at z2
      exact absurd z2 (by decide)⟩
/-- all that holds between two acts -/
def jV (M : kz_M) (O : ow_O) (k : Nat) : Prop := (∃ hn h sv isS er ea b lt, ow_CI M O hn h sv isS er ea 0 b lt) ∧ ow_Ok1 O ∧ ow_Ow O ∧ jZ M O ∧ o_dy O ≤ 2 * k
theorem jrem3 : ∀ t, t < 4 → nI t - nI t / 3 * 3 = nI (t % 3) := by decide +kernel
theorem jpo {b : Int32} {m : Nat} (hm : m < 2 ^ 20) : (if 0 < (if b < nI m then b else nI m) then (if b < nI m then b else nI m) else 0) = nI (if 0 < b then min m b.toNatClampNeg else 0) := by
  by_cases h0 : 0 < b
  · have hb : b = nI b.toNatClampNeg := by
      have : 0 ≤ b.toInt := by
        have := Int32.lt_iff_toInt_lt.mp h0
        have z : (0 : Int32).toInt = 0 := by decide
        omega
      exact (Int32.toInt_inj.mp (by
        rw [nI_toInt (by have := Int32.toInt_lt b; unfold Int32.toNatClampNeg; omega)]
        unfold Int32.toNatClampNeg
        omega))
    have hlt : b.toNatClampNeg < 2 ^ 31 := by have := Int32.toInt_lt b; unfold Int32.toNatClampNeg; omega
    have hp : 0 < b.toNatClampNeg := by
      rcases Nat.eq_zero_or_pos b.toNatClampNeg with g | g
      · rw [g] at hb; rw [hb] at h0; exact absurd h0 (by decide)
      · exact g
    rw [if_pos h0]
    generalize b.toNatClampNeg = c at hb hlt hp
    subst hb
    by_cases hc : c < m
    · rw [if_pos (nI_lt hc (by omega)), if_pos h0, Nat.min_eq_right (by omega)]
    · rw [if_neg (nI_nlt (by omega) hlt), Nat.min_eq_left (by omega)]
      by_cases hm0 : m = 0
      · rw [hm0]; rfl
      · rw [if_pos (show (0 : Int32) < nI m from nI_lt (a := 0) (b := m) (by omega) (by omega))]
  · rw [if_neg h0]
    by_cases hc : b < nI m
    · rw [if_pos hc, if_neg h0]; rfl
    · rw [if_neg hc]
      by_cases hm0 : m = 0
      · rw [hm0]; rfl
      · exfalso
        have h1 := nI_lt (a := 0) (b := m) (by omega) (by omega)
        rw [Int32.lt_iff_toInt_lt] at hc h0 h1
        have z : (nI 0).toInt = 0 := by decide
        have z2 : (0 : Int32).toInt = 0 := by decide
        omega
section JAC
variable {G : kz_G} {d mc ms : Nat} {Qr : Option Value → kz_M → Prop} {Qx : String → kz_M → Prop} {M0 : kz_M} {O : ow_O}
theorem jV.m99 {M : kz_M} {k : Nat} (h : jV M O k) : 99 ≤ M.2 := by
  obtain ⟨⟨hn, h, sv, isS, er, ea, b, lt, I⟩, -⟩ := h
  exact I.2.2.2.2.2.2.2.2
theorem c_payL {k : Nat} {x : Int32} (hG : kz_stat G) (V : jV M0 O k) (hmc : 10 ≤ mc) (hms : 60 ≤ ms) (Q : ∀ M1 O', jV M1 O' (k + 1) → Qr (some (.int 1)) M1) : zL_act_105 G d mc ms Qr Qx 99 0 x M0 0 0 := by
  refine kz_Zfr fun hf0 => ?_
  show zL_act_105 G d mc ms Qr Qx 99 0 x M0 0 0
  have hM99 := V.m99
  obtain ⟨⟨hn, h, sv, isS, er, ea, b, lt, I⟩, hO, hOw, ⟨z1, ⟨⟨f1, a1, a2, a3⟩, ⟨f2, b1, b2, b3⟩, z4, z5⟩, z6, e0, capW, xW, al, el, cp, y, zx⟩, hd⟩ := V
  have hv : jbt x 3 2 % 3 < 3 := Nat.mod_lt _ (by decide)
  have h4 := jbt_lt x 3 2
  refine rL_act_105 (by omega) (by omega) (c_bits (f := 3) (m := 2) rfl rfl (by decide) (by decide) ⟨_, rfl, ?_⟩)
  rw [jrem3 _ h4]
  generalize jbt x 3 2 % 3 = v at hv
  refine ⟨_, _, z1, rfl, _, _, z1, rfl, _, _, a1, vp_in_nI hv (by decide), ?_⟩
  have hmo := hO.1.2.1
  rw [nI_clamp (by omega), a3 v hv, jpo (by omega)]
  show zL_act_135 G d mc ms Qr Qx 99 0 (nI v) (nI (sp_po O v)) M0 0 0
  have hpo : sp_po O v ≤ o_mo O := by
    unfold sp_po
    split
    · exact Nat.min_le_left _ _
    · omega
  generalize hp : sp_po O v = p at hpo
  refine rL_act_135 (by omega) (by omega) ⟨_, _, z1, rfl, _, z1, ow_l rfl, ?_⟩
  refine rL_act_146 (by omega) (by omega) ⟨_, _, kz_up_same _ _ _, rfl, _, _, (kz_up_ne (by decide)).trans a1, vp_in_nI hv (by decide), _, _, (kz_up_ne (by decide)).trans a1, vp_in_nI hv (by decide), ?_⟩
  refine rL_act_158 (by omega) (by omega) ⟨_, _, (kz_up_ne (by decide)).trans (kz_up_same _ _ _), rfl, _, _, (kz_up_ne (by decide)).trans ((kz_up_ne (by decide)).trans b1), vp_in_nI hv (by decide), _, _, (kz_up_ne (by decide)).trans ((kz_up_ne (by decide)).trans b1), vp_in_nI hv (by decide), ?_⟩
  rw [nI_clamp (by omega)]
  have c1 : (kz_up (kz_up (kz_up M0 99 (.inl (13, (jfs O).set 4 (.int (nI (o_mo O) - nI p))))) 101 (.inr (.int, 3, .inl (upd f1 v (f1 v - nI p))))) 102 (.inr (.int, 3, .inl (upd f2 v (f2 v + nI p))))).1 99 = some (.inl (13, (jfs O).set 4 (.int (nI (o_mo O) - nI p)))) := (kz_up_ne (by decide)).trans ((kz_up_ne (by decide)).trans (kz_up_same _ _ _))
  have c2 : (kz_up (kz_up (kz_up M0 99 (.inl (13, (jfs O).set 4 (.int (nI (o_mo O) - nI p))))) 101 (.inr (.int, 3, .inl (upd f1 v (f1 v - nI p))))) 102 (.inr (.int, 3, .inl (upd f2 v (f2 v + nI p))))).1 101 = some (.inr (.int, 3, .inl (upd f1 v (f1 v - nI p)))) := (kz_up_ne (by decide)).trans (kz_up_same _ _ _)
  have c3 : (kz_up (kz_up (kz_up M0 99 (.inl (13, (jfs O).set 4 (.int (nI (o_mo O) - nI p))))) 101 (.inr (.int, 3, .inl (upd f1 v (f1 v - nI p))))) 102 (.inr (.int, 3, .inl (upd f2 v (f2 v + nI p))))).1 102 = some (.inr (.int, 3, .inl (upd f2 v (f2 v + nI p)))) := kz_up_same _ _ _
  have F : ow_Nw (fun k => k = 99 ∨ k = 101 ∨ k = 102) M0 (kz_up (kz_up (kz_up M0 99 (.inl (13, (jfs O).set 4 (.int (nI (o_mo O) - nI p))))) 101 (.inr (.int, 3, .inl (upd f1 v (f1 v - nI p))))) 102 (.inr (.int, 3, .inl (upd f2 v (f2 v + nI p))))) := ⟨fun k hk hp => (kz_up_ne (fun z => hp (Or.inr (Or.inr z)))).trans ((kz_up_ne (fun z => hp (Or.inr (Or.inl z)))).trans (kz_up_ne fun z => hp (Or.inl z))), Nat.le_refl _⟩
  generalize kz_up (kz_up (kz_up M0 99 (.inl (13, (jfs O).set 4 (.int (nI (o_mo O) - nI p))))) 101 (.inr (.int, 3, .inl (upd f1 v (f1 v - nI p))))) 102 (.inr (.int, 3, .inl (upd f2 v (f2 v + nI p)))) = M1 at c1 c2 c3 F ⊢
  have hP : jP3 M0 (fun k => k = 99 ∨ k = 101 ∨ k = 102) := fun k hk e he => by
    rcases hk with rfl | rfl | rfl
    · rw [z1] at he; cases he; exact Or.inl ⟨_, rfl, rfl⟩
    · rw [a1] at he; cases he; exact Or.inr ⟨_, rfl⟩
    · rw [b1] at he; cases he; exact Or.inr ⟨_, rfl⟩
  have L : ow_LF M0 M1 := jP3.lf F hf0 hM99 fun k hk => ⟨by rcases hk with rfl | rfl | rfl <;> decide, fun e he => by
    rcases hk with rfl | rfl | rfl
    · rw [z1] at he; cases he; exact Or.inl ⟨_, rfl, (by decide : (11 : Nat) ≤ 13)⟩
    · rw [a1] at he; cases he; exact Or.inr ⟨_, _, rfl, a2⟩
    · rw [b1] at he; cases he; exact Or.inr ⟨_, _, rfl, b2⟩⟩
  have I1 := I.lf L
  refine rL_act_170 (by omega) (by omega) ⟨I1.ob, 10, 60, by omega, by omega, c_payOut hG I1 hO (by omega) (by omega) (fun hx => absurd rfl (hx v (by rw [z6.1]; exact hv))) fun j hj e M2 C2 I2 => ⟨_, rfl, ?_⟩⟩
  have hjv : v = j := (nI_eq (by omega) (by have := hO.1.2.2.1; omega)).mp e
  subst hjv
  rw [hp] at I2 ⊢
  refine ow_nn rfl (Q M2 _ ⟨⟨_, _, _, _, _, _, _, _, I2⟩, hO.hnd, ?_, jZ.kp ?_ C2.1, ?_⟩)
  · intro i hi
    unfold o_hand
    rw [o_book_ws', o_book_nw]
    unfold o_hand at hi
    rw [o_book_wk] at hi
    exact hOw i hi
  · unfold o_hand
    refine ⟨?_, ⟨⟨_, c2, ?_, fun i hi => ?_⟩, ⟨_, c3, ?_, fun i hi => ?_⟩, ?_, ?_⟩, ?_, e0, capW, xW, al, el, cp, y, (zx.n3 hf0 F hP).to ?_ ?_⟩
    · unfold jZo
      rw [c1]
      unfold jfs
      rw [o_book_mo', o_book_dy', o_book_ru]
      show some (Sum.inl (13, [Value.ref 100, Value.ref 101, Value.ref 102, Value.ref 103, Value.int (nI (o_mo O) - nI p), Value.int (nI (o_dy O)), Value.int (nI (o_ru O 0)), Value.int (nI (o_ru O 1)), Value.int (nI (o_ru O 2)), Value.int (nI (o_ru O 3)), Value.int (nI (o_ru O 4)), Value.int (nI (o_ru O 5)), Value.int (nI (o_ru O 6)), Value.ref 104, Value.ref 105])) = _
      rw [pk_sub hpo]
    · unfold upd; rw [if_neg (by omega)]; exact a2
    · rw [o_book_ba]
      unfold upd
      by_cases hiv : i = v
      · rw [if_pos hiv, if_pos hiv, a3 v hv, Int32.sub_eq_add_neg]
      · rw [if_neg hiv, if_neg hiv]; exact a3 i hi
    · unfold upd; rw [if_neg (by omega)]; exact b2
    · rw [o_book_pd']
      show upd f2 v _ i = upd (o_pd O) v _ i
      unfold upd
      by_cases hiv : i = v
      · rw [if_pos hiv, if_pos hiv, b3 v hv]
      · rw [if_neg hiv, if_neg hiv]; exact b3 i hi
    · have : jRow M1 103 3 (fun i => nI (jlo O i)) := z4.nw hf0 F (by decide)
      obtain ⟨f, q1, q2, q3⟩ := this
      refine ⟨f, q1, q2, fun i hi => (q3 i hi).trans ?_⟩
      exact congrArg nI (jlo_ws (O := O) (by rw [o_book_ws']) (by rw [o_book_wk]) i).symm
    · rw [o_book_ru]; exact z5.nw hf0 F (by decide)
    · rw [o_book_nw, o_book_ru]; exact z6
    · rw [o_book_wk]
    · rw [o_book_ws']
  · unfold o_hand
    rw [o_book_dy']
    show o_dy O ≤ 2 * (k + 1)
    omega
theorem c_passL {k : Nat} {x : Int32} (hG : kz_stat G) (V : jV M0 O k) (hk : k < 24) (hmc : 10 ≤ mc) (hms : 60 ≤ ms) (Q : ∀ M1 O', jV M1 O' (k + 1) → Qr (some (.int 1)) M1) : zL_act_187 G d mc ms Qr Qx 99 0 x M0 0 0 := by
  refine kz_Zfr fun hf0 => ?_
  show zL_act_187 G d mc ms Qr Qx 99 0 x M0 0 0
  have hM99 := V.m99
  obtain ⟨⟨hn, h, sv, isS, er, ea, b, lt, I⟩, hO, hOw, ⟨z1, ⟨y1, y2, y3, y4⟩, z6, e0, capW, xW, al, el, cp, y, zx⟩, hd⟩ := V
  have h4 : jbt x 3 1 < 2 := jbt_lt x 3 1
  obtain ⟨t, ht⟩ : ∃ t, t = jbt x 3 1 := ⟨_, rfl⟩
  rw [← ht] at h4
  refine rL_act_187 (by omega) (by omega) ⟨_, _, z1, rfl, c_bits (f := 3) (m := 1) rfl rfl (by decide) (by decide) ⟨_, rfl, _, z1, ow_l rfl, ?_⟩⟩
  rw [← ht]
  have c1 : (kz_up M0 99 (.inl (13, (jfs O).set 5 (.int (nI (o_dy O) + (1 + nI t)))))).1 99 = some (.inl (13, jfs (o_pass O (1 + t)))) := by
    rw [kz_up_same]
    show some (Sum.inl (13, [Value.ref 100, Value.ref 101, Value.ref 102, Value.ref 103, Value.int (nI (o_mo O)), Value.int (nI (o_dy O) + (nI 1 + nI t)), Value.int (nI (o_ru O 0)), Value.int (nI (o_ru O 1)), Value.int (nI (o_ru O 2)), Value.int (nI (o_ru O 3)), Value.int (nI (o_ru O 4)), Value.int (nI (o_ru O 5)), Value.int (nI (o_ru O 6)), Value.ref 104, Value.ref 105])) = _
    rw [nI_add, nI_add]
    rfl
  have F : ow_Nw (fun k => k = 99) M0 (kz_up M0 99 (.inl (13, (jfs O).set 5 (.int (nI (o_dy O) + (1 + nI t)))))) := ⟨fun k hk hp => kz_up_ne hp, Nat.le_refl _⟩
  refine rL_act_204 (by omega) (by omega) (c_bits (f := 3) (m := 1) rfl rfl (by decide) (by decide) ⟨_, rfl, ?_⟩)
  rw [← ht, show (1 : Int32) + nI t = nI (1 + t) from nI_add 1 t]
  rw [show (1 : Int32) + nI t = nI (1 + t) from nI_add 1 t] at c1 F
  generalize kz_up M0 99 (.inl (13, (jfs O).set 5 (.int (nI (o_dy O) + nI (1 + t))))) = M1 at c1 F ⊢
  have hP : jP3 M0 (fun k => k = 99) := fun k hk e he => by
    subst hk
    rw [z1] at he; cases he; exact Or.inl ⟨_, rfl, rfl⟩
  have L : ow_LF M0 M1 := jP3.lf F hf0 hM99 fun k hk => ⟨by rw [hk]; decide, fun e he => by
    subst hk
    rw [z1] at he; cases he; exact Or.inl ⟨_, rfl, (by decide : (11 : Nat) ≤ 13)⟩⟩
  have I1 := I.lf L
  refine ⟨I1.ob, 10, 60, by omega, by omega, c_pass hG I1 hO (by omega) (by omega) (fun hx => absurd rfl (hx (1 + t) (by omega) (by omega))) (fun m h1 h2 e h3 => ?_) fun m h1 h2 e h3 M2 C2 I2 => ⟨_, rfl, ?_⟩⟩
  · have := (nI_eq (by omega) (by omega)).mp e
    omega
  · have hm := (nI_eq (by omega) (by omega)).mp e
    subst hm
    refine ⟨_, _, C2.1 _ _ (show 99 ≤ 99 by decide) c1, rfl, ow_nn rfl (Q M2 _ ⟨⟨_, _, _, _, _, _, _, _, I2⟩, hO.pss h3, hOw, jZ.kp ⟨c1, ⟨y1.nw hf0 F (by decide), y2.nw hf0 F (by decide), y3.nw hf0 F (by decide), y4.nw hf0 F (by decide)⟩, z6, e0, capW, xW, al, el, cp, y, (zx.n3 hf0 F hP).to rfl rfl⟩ C2.1, ?_⟩)⟩
    show o_dy O + (1 + t) ≤ 2 * (k + 1)
    omega
theorem jsv : ∀ t, t < 16 → sp_val 0 (nI (6 + t)) = true := by decide +kernel
theorem c_setL {k : Nat} {x : Int32} (hG : kz_stat G) (V : jV M0 O k) (hmc : 10 ≤ mc) (hms : 60 ≤ ms) (Q : ∀ M1 O', jV M1 O' (k + 1) → Qr (some (.int 1)) M1) : zL_act_229 G d mc ms Qr Qx 99 0 x M0 0 0 := by
  refine kz_Zfr fun hf0 => ?_
  show zL_act_229 G d mc ms Qr Qx 99 0 x M0 0 0
  have hM99 := V.m99
  obtain ⟨⟨hn, h, sv, isS, er, ea, b, lt, I⟩, hO, hOw, ⟨z1, ⟨y1, y2, y3, y4⟩, z6, e0, capW, xW, al, el, cp, y, zx⟩, hd⟩ := V
  have h4 : jbt x 3 4 < 16 := jbt_lt x 3 4
  refine rL_act_229 (by omega) (by omega) ⟨_, _, z1, rfl, c_bits (f := 3) (m := 4) rfl rfl (by decide) (by decide) ⟨_, rfl, _, z1, ow_l rfl, ?_⟩⟩
  generalize jbt x 3 4 = t at h4
  have c1 : (kz_up M0 99 (.inl (13, (jfs O).set 6 (.int (6 + nI t))))).1 99 = some (.inl (13, jfs (o_rule O 0 (6 + t)))) := by
    rw [kz_up_same]
    show some (Sum.inl (13, [Value.ref 100, Value.ref 101, Value.ref 102, Value.ref 103, Value.int (nI (o_mo O)), Value.int (nI (o_dy O)), Value.int (nI 6 + nI t), Value.int (nI (o_ru O 1)), Value.int (nI (o_ru O 2)), Value.int (nI (o_ru O 3)), Value.int (nI (o_ru O 4)), Value.int (nI (o_ru O 5)), Value.int (nI (o_ru O 6)), Value.ref 104, Value.ref 105])) = _
    rw [nI_add]
    rfl
  have F : ow_Nw (fun k => k = 99) M0 (kz_up M0 99 (.inl (13, (jfs O).set 6 (.int (6 + nI t))))) := ⟨fun k hk hp => kz_up_ne hp, Nat.le_refl _⟩
  generalize kz_up M0 99 (.inl (13, (jfs O).set 6 (.int (6 + nI t)))) = M1 at c1 F ⊢
  have hP : jP3 M0 (fun k => k = 99) := fun k hk e he => by
    subst hk
    rw [z1] at he; cases he; exact Or.inl ⟨_, rfl, rfl⟩
  have L : ow_LF M0 M1 := jP3.lf F hf0 hM99 fun k hk => ⟨by rw [hk]; decide, fun e he => by
    subst hk
    rw [z1] at he; cases he; exact Or.inl ⟨_, rfl, (by decide : (11 : Nat) ≤ 13)⟩⟩
  have I1 := I.lf L
  refine rL_act_248 (by omega) (by omega) ⟨_, _, c1, rfl, I1.ob, 10, 60, by omega, by omega, c_set hG I1 hO (by omega) (by omega) (fun hx => ?_) fun j m h1 e1 e2 h2 h3 h5 M2 C2 I2 => ⟨_, rfl, ?_⟩⟩
  · have := jsv t h4
    have e : sp_val 0 (nI (6 + t)) = false := hx
    rw [this] at e
    cases e
  · have hj : 0 = j := (nI_eq (a := 0) (by omega) (by omega)).mp e1
    subst hj
    have h30 : m ≤ 30 := h3
    have hm : 6 + t = m := (nI_eq (by omega) (by omega)).mp e2
    subst hm
    refine ow_nn rfl (Q M2 _ ⟨⟨_, _, _, _, _, _, _, _, I2⟩, hO.rul (by omega), hOw, jZ.kp ⟨c1, ⟨y1.nw hf0 F (by decide), y2.nw hf0 F (by decide), y3.nw hf0 F (by decide), ?_⟩, z6, e0, capW, xW, al, el, cp, y, (zx.n3 hf0 F hP).to rfl rfl⟩ C2.1, ?_⟩)
    · have := y4.nw hf0 F (by decide)
      obtain ⟨f, q1, q2, q3⟩ := this
      refine ⟨f, q1, q2, fun i hi => (q3 i hi).trans ?_⟩
      show nI (o_ru O (7 + i)) = nI (if 7 + i = 0 then 6 + t else o_ru O (7 + i))
      rw [if_neg (by omega)]
    · show o_dy O ≤ 2 * (k + 1)
      omega
end JAC
