/-! Part 84: the law's setup text, as the class reads it -/
/-- what is left of a text at a place -/
def jRe (n : Nat) (b : Nat → Nat) (i : Nat) (R : List Nat) : Prop := i + R.length = n ∧ ∀ k, k < R.length → b (i + k) = R.getD k 0
theorem jRe.drop {n i : Nat} {b : Nat → Nat} {t R : List Nat} (h : jRe n b i (t ++ R)) : jRe n b (i + t.length) R := by
  obtain ⟨h1, h2⟩ := h
  rw [List.length_append] at h1 h2
  refine ⟨by omega, fun k hk => ?_⟩
  rw [Nat.add_assoc, h2 (t.length + k) (by omega), List.getD_eq_getElem?_getD, List.getD_eq_getElem?_getD, List.getElem?_append_right (by omega), Nat.add_sub_cancel_left]
theorem jRe.hd {n i c : Nat} {b : Nat → Nat} {R : List Nat} (h : jRe n b i (c :: R)) : i < n ∧ b i = c ∧ jRe n b (i + 1) R := by
  refine ⟨by have := h.1; simp only [List.length_cons] at this; omega, ?_, jRe.drop (t := [c]) h⟩
  have := h.2 0 (by simp)
  rwa [Nat.add_zero] at this
/-- does a text not begin with such a sign? -/
def jNo (pv : Nat → Bool) (R : List Nat) : Prop := ∀ c R', R = c :: R' → pv c = false
theorem jrun {p pv : Nat → Bool} {n : Nat} {b : Nat → Nat} (hp : ∀ k, p k = pv (b k)) : ∀ {w R : List Nat} {i : Nat}, jRe n b i (w ++ R) → (∀ c ∈ w, pv c = true) → jNo pv R → sp_end p n i = i + w.length
  | [], R, i, h, _, h2 => by
    refine (sp_end_n fun hi => ?_).trans (Nat.add_zero i).symm
    rw [hp]
    cases R with
    | nil => have := h.1; simp at this; omega
    | cons c R' =>
      obtain ⟨-, e, -⟩ := jRe.hd h
      rw [e]; exact h2 c R' rfl
  | c :: w, R, i, h, h1, h2 => by
    obtain ⟨g1, g2, g3⟩ := jRe.hd h
    rw [sp_end_y g1 (by rw [hp, g2]; exact h1 c List.mem_cons_self), jrun hp g3 (fun x hx => h1 x (List.mem_cons_of_mem _ hx)) h2, List.length_cons]
    omega
def jblv (c : Nat) : Bool := decide (c = 32) || decide (c = 10)
def jdgv (c : Nat) : Bool := decide (48 ≤ c) && decide (c ≤ 57)
theorem ow_nm_cg {f g : Nat → Nat} : ∀ {n w : Nat}, (∀ k, k < n → f k = g k) → ow_nm f w n = ow_nm g w n
  | 0, _, _ => rfl
  | n + 1, w, h => by rw [ow_nm, ow_nm, ow_nm_cg (fun k hk => h k (by omega)), h n (by omega)]
/-- a word as a token -/
theorem jtokW {n i : Nat} {b : Nat → Nat} {sp w R : List Nat} (h : jRe n b i (sp ++ (w ++ R))) (h1 : ∀ c ∈ sp, jblv c = true) (h2 : ∀ c ∈ w, rd_L c = true ∧ jblv c = false) (h0 : w ≠ []) (h12 : w.length ≤ 12) (h3 : jNo rd_L R) : sp_tk n b i = 1 ∧ sp_en n b i = i + sp.length + w.length ∧ sp_wd n b i = ow_nm (fun k => w.getD k 0) 0 w.length ∧ sp_st n b i = i + sp.length := by
  have hn : jNo jblv (w ++ R) := fun c R' e => by
    cases w with
    | nil => exact absurd rfl h0
    | cons c' w' => cases e; exact (h2 _ List.mem_cons_self).2
  have hst : sp_st n b i = i + sp.length := jrun (pv := jblv) (fun k => rfl) h h1 hn
  have hd := h.drop
  have hend : sp_end (sp_le b) n (i + sp.length) = i + sp.length + w.length := jrun (pv := rd_L) (fun k => rfl) hd (fun c hc => (h2 c hc).1) h3
  obtain ⟨c, w', rfl⟩ : ∃ c w', w = c :: w' := by cases w with
    | nil => exact absurd rfl h0
    | cons c w' => exact ⟨c, w', rfl⟩
  obtain ⟨g1, g2, -⟩ := jRe.hd hd
  have hle : sp_le b (i + sp.length) = true := by show rd_L (b _) = true; rw [g2]; exact (h2 _ List.mem_cons_self).1
  refine ⟨?_, ?_, ?_, hst⟩
  · unfold sp_tk sp_k0
    rw [hst, if_pos g1, if_pos hle]
  · unfold sp_en sp_e0
    rw [hst, if_pos g1, if_pos hle, hend]
  · unfold sp_wd sp_w0
    rw [hst, hend, show i + sp.length + (c :: w').length - (i + sp.length) = (c :: w').length by omega, if_pos h12]
    refine ow_nm_cg fun k hk => ?_
    have := hd.2 k (by rw [List.length_append]; omega)
    rw [this, List.getD_eq_getElem?_getD, List.getD_eq_getElem?_getD, List.getElem?_append_left hk]
theorem jN_val : ∀ x, x < 1000 → sp_nv (fun k => (jN x).getD k 0) 0 (jN x).length = x := by decide +kernel
theorem jN_dg : ∀ x, x < 1000 → ∀ c ∈ jN x, jdgv c = true ∧ jblv c = false ∧ rd_L c = false := by decide +kernel
theorem sp_nv_cg {f g : Nat → Nat} {s t : Nat} : ∀ {n : Nat}, (∀ k, k < n → f (s + k) = g (t + k)) → sp_nv f s n = sp_nv g t n
  | 0, _ => rfl
  | n + 1, h => by rw [sp_nv, sp_nv, sp_nv_cg (fun k hk => h k (by omega)), h n (by omega)]
/-- a number as a token -/
theorem jtokN {n i x : Nat} {b : Nat → Nat} {sp R : List Nat} (h : jRe n b i (sp ++ (jN x ++ R))) (h1 : ∀ c ∈ sp, jblv c = true) (hx : x < 1000) (h3 : jNo jdgv R) : sp_tk n b i = 2 ∧ sp_en n b i = i + sp.length + (jN x).length ∧ sp_vl n b i = x := by
  have hw := jN_dg x hx
  have hlen := jN_len x
  have hl3 : (jN x).length ≤ 3 := by rw [hlen]; split; omega; split <;> omega
  have hl1 : 1 ≤ (jN x).length := by rw [hlen]; split; omega; split <;> omega
  obtain ⟨c, w', hcw⟩ : ∃ c w', jN x = c :: w' := by
    cases hj : jN x with
    | nil => rw [hj] at hl1; simp at hl1
    | cons c w' => exact ⟨c, w', rfl⟩
  have hn : jNo jblv (jN x ++ R) := fun c' R' e => by
    rw [hcw] at e; cases e
    exact (hw c (by rw [hcw]; exact List.mem_cons_self)).2.1
  have hst : sp_st n b i = i + sp.length := jrun (pv := jblv) (fun k => rfl) h h1 hn
  have hd := h.drop
  have hend : sp_end (sp_dg b) n (i + sp.length) = i + sp.length + (jN x).length := jrun (pv := jdgv) (fun k => rfl) hd (fun c hc => (hw c hc).1) h3
  have hd2 := hd
  rw [hcw] at hd2
  obtain ⟨g1, g2, -⟩ := jRe.hd hd2
  have hcm := hw c (by rw [hcw]; exact List.mem_cons_self)
  have hle : ¬ sp_le b (i + sp.length) = true := by
    show ¬ rd_L (b _) = true
    rw [g2, hcm.2.2]; decide
  have hdg : sp_dg b (i + sp.length) = true := by
    show jdgv (b _) = true
    rw [g2]; exact hcm.1
  refine ⟨?_, ?_, ?_⟩
  · unfold sp_tk sp_k0
    rw [hst, if_pos g1, if_neg hle, if_pos hdg, hend, if_pos (by omega)]
  · unfold sp_en sp_e0
    rw [hst, if_pos g1, if_neg hle, if_pos hdg, hend]
  · unfold sp_vl sp_v0
    rw [hst, hend, show i + sp.length + (jN x).length - (i + sp.length) = (jN x).length by omega]
    refine (sp_nv_cg (g := fun k => (jN x).getD k 0) (t := 0) fun k hk => ?_).trans (jN_val x hx)
    have := hd.2 k (by rw [List.length_append]; omega)
    rw [this, List.getD_eq_getElem?_getD, List.getElem?_append_left hk, Nat.zero_add, List.getD_eq_getElem?_getD]
/-- a semicolon as a token; the end -/
theorem jtokS {n i : Nat} {b : Nat → Nat} {R : List Nat} (h : jRe n b i (59 :: R)) : sp_tk n b i = 3 ∧ sp_en n b i = i + 1 := by
  obtain ⟨g1, g2, -⟩ := jRe.hd h
  have hst : sp_st n b i = i := (jrun (pv := jblv) (w := []) (fun k => rfl) h (fun c hc => by cases hc) (fun c R' e => by cases e; rfl)).trans (Nat.add_zero i)
  have hle : ¬ sp_le b i = true := by show ¬ rd_L (b i) = true; rw [g2]; decide
  have hdg : ¬ sp_dg b i = true := by show ¬ jdgv (b i) = true; rw [g2]; decide
  refine ⟨?_, ?_⟩
  · unfold sp_tk sp_k0
    rw [hst, if_pos g1, if_neg hle, if_neg hdg, if_pos g2]
  · unfold sp_en sp_e0
    rw [hst, if_pos g1, if_neg hle, if_neg hdg]
theorem jtokE {n i : Nat} {b : Nat → Nat} (h : jRe n b i []) : sp_tk n b i = 0 := by
  have hi : i = n := by have := h.1; simpa using this
  have hst : sp_st n b i = i := sp_end_n fun h => by omega
  unfold sp_tk sp_k0
  rw [hst, if_neg (by omega)]
/-- a writer's clause -/
theorem jlpW {n i f c : Nat} {b : Nat → Nat} {R : List Nat} {O : ow_O} {t : Nat → Bool} (h : jRe n b i ([119, 114, 105, 116, 101, 114] ++ (32 :: c :: 59 :: R))) (hc : c = 97 ∨ c = 98 ∨ c = 99) (hn : o_nw O < 6) (ht : sp_taken O (c - 96) = false) : sp_lp n b (f + 1) i O t = sp_lp n b f (i + 9) (o_enrol O (c - 96)) t := by
  obtain ⟨a1, a2, a3, a4⟩ := jtokW (sp := []) (w := [119, 114, 105, 116, 101, 114]) (R := 32 :: c :: 59 :: R) h (fun c hc => by cases hc) (by decide) (by decide) (by decide) (fun c R' e => by cases e; rfl)
  have h2 : jRe n b (i + 6) ([32] ++ ([c] ++ (59 :: R))) := h.drop
  have hcl : ∀ c' ∈ [c], rd_L c' = true ∧ jblv c' = false := fun c' hc' => by
    rw [List.mem_singleton.mp hc']
    rcases hc with rfl | rfl | rfl <;> decide
  obtain ⟨b1, b2, b3, b4⟩ := jtokW h2 (by decide) hcl (by simp) (by simp) (fun c R' e => by cases e; rfl)
  have h3 : jRe n b (i + 6 + 2) (59 :: R) := jRe.drop (t := [32, c]) h2
  obtain ⟨c1, c2⟩ := jtokS h3
  have e1 : sp_en n b i = i + 6 := a2
  have e2 : sp_en n b (i + 6) = i + 8 := b2
  have hw : sp_wd n b i = kz_cd 1034 := a3.trans (by decide +kernel)
  have hcd : sp_wd n b (i + 6) = c - 96 := b3.trans (by rcases hc with rfl | rfl | rfl <;> decide +kernel)
  have hnm : sp_name (c - 96) = true := by rcases hc with rfl | rfl | rfl <;> decide +kernel
  rw [sp_lp, if_neg (by rw [a1]; decide), if_pos ⟨a1, hw⟩, e1]
  unfold sp_wr
  rw [if_pos hn, hcd, if_pos ⟨b1, hnm⟩, if_neg (by rw [ht]; decide), e2]
  unfold sp_sc
  rw [if_pos c1, show sp_en n b (i + 8) = i + 9 from c2]
/-- a setting's clause -/
theorem jlpS {n i f j x : Nat} {b : Nat → Nat} {w R : List Nat} {O : ow_O} {t : Nat → Bool} (h : jRe n b i (w ++ (32 :: (jN x ++ (59 :: R))))) (hw1 : ∀ c ∈ w, rd_L c = true ∧ jblv c = false) (hw0 : w ≠ []) (hw12 : w.length ≤ 12) (hw : ow_nm (fun k => w.getD k 0) 0 w.length ≠ kz_cd 1034) (hj : sp_set (ow_nm (fun k => w.getD k 0) 0 w.length) = some j) (ht : t j = false) (hx : x < 1000) (hlo : ow_lo j ≤ x ∧ x ≤ ow_hi j) : sp_lp n b (f + 1) i O t = sp_lp n b f (i + w.length + 1 + (jN x).length + 1) (o_rule O j x) (fun k => if k = j then true else t k) := by
  obtain ⟨a1, a2, a3, a4⟩ := jtokW (sp := []) h (fun c hc => by cases hc) hw1 hw0 hw12 (fun c R' e => by cases e; rfl)
  have h2 : jRe n b (i + w.length) ([32] ++ (jN x ++ (59 :: R))) := h.drop
  obtain ⟨b1, b2, b3⟩ := jtokN h2 (by decide) hx (fun c R' e => by cases e; rfl)
  have h3 : jRe n b (i + w.length + 1 + (jN x).length) (59 :: R) := jRe.drop (jRe.drop h2)
  obtain ⟨c1, c2⟩ := jtokS h3
  have e1 : sp_en n b i = i + w.length := a2
  have e2 : sp_en n b (i + w.length) = i + w.length + 1 + (jN x).length := b2
  rw [sp_lp, if_neg (by rw [a1]; decide), if_neg (by rw [a3]; exact fun z => hw z.2), e1]
  unfold sp_se
  rw [if_pos a1, a3, hj]
  dsimp only
  rw [if_neg (by rw [ht]; decide)]
  unfold sp_nu
  rw [if_pos b1, b3, if_pos hlo, e2]
  dsimp only
  unfold sp_sc
  rw [if_pos c1, c2]
theorem jRe.dropW {n i c : Nat} {b : Nat → Nat} {R : List Nat} (h : jRe n b i ([119, 114, 105, 116, 101, 114] ++ (32 :: c :: 59 :: R))) : jRe n b (i + 9) R := jRe.drop (t := [119, 114, 105, 116, 101, 114, 32, c, 59]) h
theorem jRe.dropS {n i x : Nat} {b : Nat → Nat} {w R : List Nat} (h : jRe n b i (w ++ (32 :: (jN x ++ (59 :: R))))) : jRe n b (i + w.length + 1 + (jN x).length + 1) R := (jRe.hd (jRe.drop (jRe.drop (t := [32]) (jRe.drop h)))).2.2
/-- the setup text -/
def jst (mo me st wo fi te di fe : Nat) : List Nat := [111, 102, 102, 105, 99, 101] ++ (32 :: (jN mo ++ (59 :: ([119, 114, 105, 116, 101, 114] ++ (32 :: 97 :: 59 :: ([119, 114, 105, 116, 101, 114] ++ (32 :: 98 :: 59 :: ([119, 114, 105, 116, 101, 114] ++ (32 :: 99 :: 59 :: ([109, 101, 97, 115, 117, 114, 101] ++ (32 :: (jN me ++ (59 :: ([115, 116, 117, 102, 102] ++ (32 :: (jN st ++ (59 :: ([119, 111, 114, 110] ++ (32 :: (jN wo ++ (59 :: ([102, 105, 110, 101] ++ (32 :: (jN fi ++ (59 :: ([116, 101, 114, 109] ++ (32 :: (jN te ++ (59 :: ([100, 105, 115, 116, 105, 110, 99, 116] ++ (32 :: (jN di ++ (59 :: ([102, 101, 101] ++ (32 :: (jN fe ++ (59 :: [])))))))))))))))))))))))))))))))))))))
/-- the office that it makes -/
def jO0 (mo : Nat) : ow_O := o_enrol (o_enrol (o_enrol (o_money o_0 mo) 1) 2) 3
def jO (mo me st wo fi te di fe : Nat) : ow_O := o_rule (o_rule (o_rule (o_rule (o_rule (o_rule (o_rule (jO0 mo) 0 me) 1 st) 2 wo) 3 fi) 4 te) 5 di) 6 fe
theorem jread {n mo me st wo fi te di fe : Nat} {b : Nat → Nat} (h : jRe n b 0 (jst mo me st wo fi te di fe)) (h0 : mo < 256) (h1 : 6 ≤ me ∧ me ≤ 21) (h2 : 2 ≤ st ∧ st ≤ 5) (h3 : 1 ≤ wo ∧ wo ≤ 4) (h4 : fi ≤ 7) (h5 : te ≤ 3) (h6 : 1 ≤ di ∧ di ≤ 4) (h7 : fe ≤ 3) : ∃ p t, sp_read n b = .inr (p, jO mo me st wo fi te di fe, t) := by
  have hn : 11 ≤ n + 1 := by
    have := h.1
    unfold jst at this
    simp only [List.length_append, List.length_cons] at this
    omega
  obtain ⟨f, hf⟩ : ∃ f, n + 1 = f + 1 + 1 + 1 + 1 + 1 + 1 + 1 + 1 + 1 + 1 + 1 := ⟨n - 10, by omega⟩
  unfold sp_read
  obtain ⟨a1, a2, a3, a4⟩ := jtokW (sp := []) (w := [111, 102, 102, 105, 99, 101]) h (fun c hc => by cases hc) (by decide) (by decide) (by decide) (fun c R' e => by cases e; rfl)
  have r1 : jRe n b (0 + 6) ([32] ++ (jN mo ++ _)) := h.drop
  obtain ⟨b1, b2, b3⟩ := jtokN r1 (by decide) (by omega) (fun c R' e => by cases e; rfl)
  have r2 : jRe n b (0 + 6 + 1 + (jN mo).length) (59 :: _) := jRe.drop (jRe.drop r1)
  obtain ⟨c1, c2⟩ := jtokS r2
  have r3 := (jRe.hd r2).2.2
  have e1 : sp_en n b 0 = 0 + 6 := a2
  have e2 : sp_en n b (0 + 6) = 0 + 6 + 1 + (jN mo).length := b2
  have hw : sp_wd n b 0 = kz_cd 1035 := a3.trans (by decide +kernel)
  have hof : sp_of n b 0 o_0 (fun _ => false) = .inr (0 + 6 + 1 + (jN mo).length + 1, o_money o_0 mo, fun _ => false) := by
    unfold sp_of
    rw [if_pos ⟨a1, hw⟩, e1]
    unfold sp_nu
    rw [if_pos b1, b3, if_pos ⟨Nat.zero_le _, by omega⟩, e2]
    dsimp only
    unfold sp_sc
    rw [if_pos c1, c2]
  rw [hof]
  dsimp only
  rw [hf]
  rw [jlpW r3 (Or.inl rfl) (show 0 < 6 by decide) rfl]
  have r4 := r3.dropW
  rw [jlpW r4 (Or.inr (Or.inl rfl)) (show 1 < 6 by decide) rfl]
  have r5 := r4.dropW
  rw [jlpW r5 (Or.inr (Or.inr rfl)) (show 2 < 6 by decide) rfl]
  have s0 := r5.dropW
  rw [jlpS (w := [109, 101, 97, 115, 117, 114, 101]) (j := 0) s0 (by decide) (by decide) (by decide) (by decide +kernel) (by decide +kernel) rfl (by omega) ⟨by show 6 ≤ me; omega, by show me ≤ 30; omega⟩]
  have s1 := s0.dropS
  rw [jlpS (w := [115, 116, 117, 102, 102]) (j := 1) s1 (by decide) (by decide) (by decide) (by decide +kernel) (by decide +kernel) rfl (by omega) ⟨by show 2 ≤ st; omega, by show st ≤ 9; omega⟩]
  have s2 := s1.dropS
  rw [jlpS (w := [119, 111, 114, 110]) (j := 2) s2 (by decide) (by decide) (by decide) (by decide +kernel) (by decide +kernel) rfl (by omega) ⟨by show 1 ≤ wo; omega, by show wo ≤ 99; omega⟩]
  have s3 := s2.dropS
  rw [jlpS (w := [102, 105, 110, 101]) (j := 3) s3 (by decide) (by decide) (by decide) (by decide +kernel) (by decide +kernel) rfl (by omega) ⟨by show 0 ≤ fi; omega, by show fi ≤ 99; omega⟩]
  have s4 := s3.dropS
  rw [jlpS (w := [116, 101, 114, 109]) (j := 4) s4 (by decide) (by decide) (by decide) (by decide +kernel) (by decide +kernel) rfl (by omega) ⟨by show 0 ≤ te; omega, by show te ≤ 30; omega⟩]
  have s5 := s4.dropS
  rw [jlpS (w := [100, 105, 115, 116, 105, 110, 99, 116]) (j := 5) s5 (by decide) (by decide) (by decide) (by decide +kernel) (by decide +kernel) rfl (by omega) ⟨by show 1 ≤ di; omega, by show di ≤ 9; omega⟩]
  have s6 := s5.dropS
  rw [jlpS (w := [102, 101, 101]) (j := 6) s6 (by decide) (by decide) (by decide) (by decide +kernel) (by decide +kernel) rfl (by omega) ⟨by show 0 ≤ fe; omega, by show fe ≤ 99; omega⟩]
  have s7 := s6.dropS
  have ee := jtokE s7
  rw [sp_lp, if_pos ee]
  exact ⟨_, _, if_pos (show 0 < 3 by decide)⟩
