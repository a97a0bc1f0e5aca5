/-! Part 80: LineOfficeLaw.submit: its text and its words -/
/-- the row of words and the builder, behind k words -/
def jTb (M0 M : kz_M) (l : List Nat) (f : Nat → Int32) : Prop := ow_Nw jF M0 M ∧ (M.1 M0.2 = some (.inr (.int, 40, .inl f)) ∧ f 100000 = 1) ∧ ∃ v cap, jS M (M0.2 + 1) v cap l ∧ M0.2 ≤ v
theorem jTb.ob {M0 M : kz_M} {l : List Nat} {f : Nat → Int32} (h : jTb M0 M l f) : ∃ fs, M.1 (M0.2 + 1) = some (.inl (15, fs)) := by
  obtain ⟨-, -, v, cap, h, -⟩ := h
  exact ⟨_, h.1⟩
theorem jTb.step {M0 M M1 : kz_M} {l l' : List Nat} {f : Nat → Int32} {v v' cap cap' : Nat} (h : jTb M0 M l f) (hS : jS M (M0.2 + 1) v cap l) (hv : M0.2 ≤ v) (hf : ow_fr M) (g1 : ow_Nw (jI (M0.2 + 1) v) M M1) (g3 : jS M1 (M0.2 + 1) v' cap' l') (g5 : v' = v ∨ (v' = M.2 ∧ M1.2 = M.2 + 1)) : jTb M0 M1 l' f := by
  obtain ⟨F, ⟨h1, h2⟩, -⟩ := h
  refine ⟨F.new g1 fun k hk => by rcases hk with rfl | rfl <;> omega, ⟨g1.at hf (fun hp => ?_) h1, h2⟩, v', cap', g3, ?_⟩
  · rcases hp with hp | hp
    · omega
    · rw [hp, hS.2.1] at h1; cases h1
  · have := F.2
    rcases g5 with e | ⟨e, -⟩ <;> omega
theorem jTb.put {M0 M : kz_M} {l : List Nat} {f : Nat → Int32} {i : Nat} {z : Int32} (h : jTb M0 M l f) (hi : i < 40) : jTb M0 (kz_up M M0.2 (.inr (.int, 40, .inl (upd f i z)))) l (upd f i z) := by
  obtain ⟨F, ⟨h1, h2⟩, v, cap, ⟨s1, s2, s3⟩, hv⟩ := h
  refine ⟨⟨fun k hk hp => (kz_up_ne (by omega)).trans (F.1 k hk hp), F.2⟩, ⟨kz_up_same _ _ _, by unfold upd; rw [if_neg (by omega)]; exact h2⟩, v, cap, ⟨(kz_up_ne (by omega)).trans s1, (kz_up_ne fun z => ?_).trans s2, s3⟩, hv⟩
  rw [z, h1] at s2; cases s2
/-- the row's words -/
def jRr (x y : Int32) (kd k : Nat) (f : Nat → Int32) : Prop := (∀ j, j < k → f (j + jsc x kd j) = nI (jq y j)) ∧ ∀ j, j + 1 < k → jfl x kd (j + 1) = true → f (j + 1 + jsc x kd j) = -1
abbrev jal (x : Int32) (kd k : Nat) : Nat := k + (if k = 0 then 0 else jsc x kd (k - 1))
theorem jsc_s (x : Int32) (kd k : Nat) (h : k ≠ 0) : jsc x kd k = jsc x kd (k - 1) + (if jfl x kd k then 1 else 0) := by
  obtain ⟨m, rfl⟩ : ∃ m, k = m + 1 := ⟨k - 1, by omega⟩
  rw [Nat.add_sub_cancel, jsc]
theorem jsc_mono (x : Int32) (kd : Nat) {i j : Nat} (h : i ≤ j) : jsc x kd i ≤ jsc x kd j := by
  induction j with
  | zero => rw [show i = 0 by omega]; exact Nat.le_refl _
  | succ j ih =>
    rcases Nat.lt_or_ge j i with g | g
    · rw [show i = j + 1 by omega]; exact Nat.le_refl _
    · have := ih g
      rw [jsc]
      split <;> omega
theorem jsp_A : jA [32] := fun x hx => by rw [List.mem_singleton.mp hx]; decide
theorem jsl_A : jA [47, 32] := fun x hx => by
  simp only [List.mem_cons, List.not_mem_nil, or_false] at hx
  omega
section JTX
variable {G : kz_G} {d mc ms : Nat} {Qr : Option Value → kz_M → Prop} {Qx : String → kz_M → Prop} {M0 : kz_M}
theorem c_addS {M : kz_M} {l w : List Nat} {f : Nat → Int32} {j : Nat} (hG : kz_stat G) (hG2 : kz_stat2 G) (hP : kz_statP G) (h : jTb M0 M l f) (hj : j ∈ kz_readL) (hw : kz_txt j = w.map nI) (hA : jA w) (hn : l.length + w.length ≤ 480) (hmc : 1 ≤ mc) (hms : 1000 ≤ ms) (Q : ∀ M1, jTb M0 M1 (l ++ w) f → Qr (some (.ref (M0.2 + 1))) M1) : kz_C G (d + 5) mc ms mJ4_append_15ec4 [.ref (M0.2 + 1), .retAddr j] M Qr Qx := by
  refine kz_Cfr fun hf => ?_
  have h0 := h
  obtain ⟨-, -, v, cap, hS, hv⟩ := h0
  exact c_appS hG hP hS (hG2.2.2.2.2.2.2 j hj) hw hA hn hmc hms fun M1 v' cap' g1 g2 g3 g5 => Q M1 (h.step hS hv hf g1 g3 g5)
theorem c_addC {M : kz_M} {l : List Nat} {f : Nat → Int32} {c : Nat} (hG : kz_stat G) (hP : kz_statP G) (h : jTb M0 M l f) (hc : c < 128) (hn : l.length + 1 ≤ 480) (hmc : 1 ≤ mc) (hms : 1000 ≤ ms) (Q : ∀ M1, jTb M0 M1 (l ++ [c]) f → Qr (some (.ref (M0.2 + 1))) M1) : kz_C G (d + 5) mc ms mJ4_append_cf468 [.ref (M0.2 + 1), .int (nI c)] M Qr Qx := by
  refine kz_Cfr fun hf => ?_
  have h0 := h
  obtain ⟨-, -, v, cap, hS, hv⟩ := h0
  exact c_appC hG hP hS hc hn hmc hms fun M1 v' cap' g1 g2 g3 g5 => Q M1 (h.step hS hv hf g1 g3 g5)
theorem jlt1 : kz_txt 1044 = [47, 32].map nI := by decide +kernel
theorem jlt2 : kz_txt 1045 = (jwl 0).map nI ∧ kz_txt 1046 = (jwl 1).map nI ∧ kz_txt 1047 = (jwl 2).map nI ∧ kz_txt 1048 = (jwl 3).map nI := by decide +kernel
theorem c_subText {x y : Int32} {v kd n : Nat} (hG : kz_stat G) (hG2 : kz_stat2 G) (hP : kz_statP G) (hkd : kd < 3) (hn : n ≤ 16) (hmc : 60 ≤ mc) (hms : 60000 ≤ ms) (K : ∀ M f c sl, jTb M0 M (jtx x y kd n) f → jRr x y kd n f → c ≤ 3 + 3 * n → sl ≤ 70 + 3000 * n → zL_submit_181 G d mc ms Qr Qx 99 0 (nI v) (nI kd) M0.2 (nI (jal x kd n)) (M0.2 + 1) M c sl) : ∀ k, k ≤ n → ∀ M f c sl, jTb M0 M (jtx x y kd k) f → jRr x y kd k f → c ≤ 3 + 3 * k → sl ≤ 70 + 3000 * k → zL_submit_52 G d mc ms Qr Qx 99 0 x y (nI v) (nI kd) M0.2 (nI (jal x kd k)) (M0.2 + 1) (nI n) (nI k) M c sl := by
  refine ow_loop n ?_ ?_
  · intro M f c sl h hr hc hs
    exact rL_submit_52 (by omega) (by omega) (ow_y (nI_le (Nat.le_refl _) (by omega)) (K M f c sl h hr hc hs))
  · intro k hk ih M f c sl h hr hc hs
    have hq := jq_lt y k
    have hlen := jtx_len x y kd k
    have hsk := jsc_le x kd k
    -- a word is put
    have k125 : ∀ (M1 : kz_M) (f1 : Nat → Int32) (pre : List Nat) (c1 sl1 : Nat), jTb M0 M1 (jtx x y kd k ++ pre) f1 → pre.length ≤ 3 → jtx x y kd (k + 1) = jtx x y kd k ++ pre ++ jwl (jq y k) → (∀ j, j < k → f1 (j + jsc x kd j) = nI (jq y j)) → (∀ j, j + 1 < k + 1 → jfl x kd (j + 1) = true → f1 (j + 1 + jsc x kd j) = -1) → c1 ≤ 3 + 3 * k + 2 → sl1 ≤ 70 + 3000 * k + 2000 → zL_submit_125 G d mc ms Qr Qx 99 0 x y (nI v) (nI kd) M0.2 (nI (k + jsc x kd k)) (M0.2 + 1) (nI n) (nI k) (nI (jq y k)) M1 c1 sl1 := by
      intro M1 f1 pre c1 sl1 h1 hpre hE hr1 hr2 hc1 hs1
      have k171 : ∀ j, j ∈ kz_readL → kz_txt j = (jwl (jq y k)).map nI → zL_submit_171 G d mc ms Qr Qx 99 0 x y (nI v) (nI kd) M0.2 (nI (k + 1 + jsc x kd k)) (M0.2 + 1) (nI n) (nI k) j (M0.2 + 1) (kz_up M1 M0.2 (.inr (.int, 40, .inl (upd f1 (k + jsc x kd k) (nI (jq y k)))))) c1 sl1 := by
        intro j hj hw
        have h2 := h1.put (i := k + jsc x kd k) (z := nI (jq y k)) (by omega)
        have hjl := jwl_len _ hq
        have hj9 := (jlt_b _ hq).2
        refine rL_submit_171 (by omega) (by omega) ⟨h2.ob, 1, 1000, by omega, by omega, c_addS hG hG2 hP h2 hj hw (jwl_A _ hq) (by rw [List.length_append, hjl]; omega) (Nat.le_refl _) (Nat.le_refl _) fun M2 h3 => ⟨_, rfl, ?_⟩⟩
        refine rL_submit_175 (by omega) (by omega) ?_
        rw [← hE] at h3
        rw [nI_1]
        have := ih M2 _ (c1 + 1) (sl1 + 1000) h3 ⟨fun j hj => ?_, fun j hj hfl => ?_⟩ (by omega) (by omega)
        · rw [show jal x kd (k + 1) = k + 1 + jsc x kd k by unfold jal; rw [if_neg (by omega), Nat.add_sub_cancel]] at this
          exact this
        · unfold upd
          by_cases hjk : j = k
          · rw [if_pos (by rw [hjk]), hjk]
          · have := jsc_mono x kd (i := j) (j := k) (by omega)
            rw [if_neg (by omega)]; exact hr1 j (by omega)
        · unfold upd
          have := jsc_mono x kd (i := j + 1) (j := k) (by omega)
          have e : jsc x kd (j + 1) = jsc x kd j + 1 := by rw [jsc, if_pos hfl]
          rw [if_neg (by omega)]; exact hr2 j hj hfl
      obtain ⟨t1, t2, t3, t4⟩ := jlt2
      refine rL_submit_125 (by omega) (by omega) ⟨_, _, h1.2.1.1, vp_in_nI (by omega) (by decide), ?_⟩
      rw [nI_clamp (by omega), nI_1, show k + jsc x kd k + 1 = k + 1 + jsc x kd k by omega]
      have hq4 : jq y k = 0 ∨ jq y k = 1 ∨ jq y k = 2 ∨ jq y k = 3 := by omega
      rcases hq4 with e | e | e | e
      · rw [e] at k171 ⊢
        exact ow_nn rfl (k171 1045 (by decide) t1)
      · rw [e] at k171 ⊢
        exact ow_yn (by decide) (ow_nn rfl (k171 1046 (by decide) t2))
      · rw [e] at k171 ⊢
        exact ow_yn (by decide) (ow_yn (by decide) (ow_nn rfl (k171 1047 (by decide) t3)))
      · rw [e] at k171 ⊢
        exact ow_yn (by decide) (ow_yn (by decide) (ow_yn (by decide) (k171 1048 (by decide) t4)))
    refine rL_submit_52 (by omega) (by omega) (ow_n (nI_ge hk (by omega)) ?_)
    refine rL_submit_59 (by omega) (by omega) (c_bits (f := 2 * k) (m := 2) (j_mul 2 k) rfl (by omega) (by decide) ⟨_, rfl, ?_⟩)
    show _ ∧ _
    by_cases h0 : k = 0
    · subst h0
      refine ow_y (by decide) (rL_submit_83 (by omega) (by omega) (ow_y (by decide) ?_))
      have := k125 M f [] c sl (by rw [List.append_nil]; exact h) (Nat.zero_le _) rfl hr.1 (fun j hj => absurd hj (by omega)) (by omega) (by omega)
      exact this
    · have hal : jal x kd k = k + jsc x kd (k - 1) := by unfold jal; rw [if_neg h0]
      have hss := jsc_s x kd k h0
      have hr2 : ∀ j, j + 1 < k → jfl x kd (j + 1) = true → f (j + 1 + jsc x kd j) = -1 := hr.2
      rw [hal]
      refine ow_n (nI_nle (by omega) (by omega)) ⟨h.ob, 1, 1000, by omega, by omega, c_addC (c := 32) hG hP h (by decide) (by omega) (Nat.le_refl _) (Nat.le_refl _) fun M1 h1 => ⟨_, rfl, ?_⟩⟩
      have noSlash : jfl x kd k = false → zL_submit_125 G d mc ms Qr Qx 99 0 x y (nI v) (nI kd) M0.2 (nI (k + jsc x kd (k - 1))) (M0.2 + 1) (nI n) (nI k) (nI (jq y k)) M1 (c + 1) (sl + 1000) := by
        intro hf
        rw [hf, if_neg (by decide), Nat.add_zero] at hss
        rw [← hss]
        refine k125 M1 f [32] _ _ h1 (by decide) (by rw [jtx, if_neg h0, hf, if_neg (by decide)]) hr.1 (fun j hj hfl => ?_) (by omega) (by omega)
        rcases Nat.lt_or_ge (j + 1) k with g | g
        · exact hr2 j g hfl
        · rw [show j + 1 = k by omega, hf] at hfl; cases hfl
      refine rL_submit_83 (by omega) (by omega) (ow_n (nI_nle (by omega) (by omega)) ?_)
      by_cases hk1 : kd = 1
      · refine ow_nn (by rw [hk1]; rfl) (c_bits (f := 11 + k) (m := 1) (nI_add 11 k) rfl (by omega) (by decide) ⟨_, rfl, ?_⟩)
        have hb2 : jbt x (11 + k) 1 < 2 := jbt_lt x (11 + k) 1
        by_cases hb : jbt x (11 + k) 1 = 1
        · have hf : jfl x kd k = true := by unfold jfl; rw [decide_eq_true hk1, decide_eq_true hb]; rfl
          rw [hf, if_pos rfl] at hss
          refine ow_nn (by rw [hb]; rfl) ⟨h1.ob, 1, 1000, by omega, by omega, c_addS hG hG2 hP h1 (by decide) jlt1 jsl_A (by rw [List.length_append]; show (jtx x y kd k).length + 1 + 2 ≤ 480; omega) (Nat.le_refl _) (Nat.le_refl _) fun M2 h2 => ⟨_, rfl, _, _, h2.2.1.1, vp_in_nI (by omega) (by decide), ?_⟩⟩
          rw [nI_clamp (by omega), nI_1, show k + jsc x kd (k - 1) + 1 = k + jsc x kd k by omega]
          have h3 := h2.put (i := k + jsc x kd (k - 1)) (z := -1) (by omega)
          refine k125 _ _ [32, 47, 32] _ _ (by rw [List.append_assoc] at h3; exact h3) (by decide) (by rw [jtx, if_neg h0, hf, if_pos rfl]) (fun j hj => ?_) (fun j hj hfl => ?_) (by omega) (by omega)
          · unfold upd
            have := jsc_mono x kd (i := j) (j := k - 1) (by omega)
            rw [if_neg (by omega)]; exact hr.1 j hj
          · unfold upd
            by_cases hjk : j + 1 = k
            · rw [if_pos (by rw [← hjk, Nat.add_sub_cancel])]
            · have := jsc_mono x kd (i := j) (j := k - 1) (by omega)
              rw [if_neg (by omega)]; exact hr2 j (by omega) hfl
        · refine ow_yn (fun z => hb ((nI_eq (b := 1) (by omega) (by decide)).mp z)) (noSlash ?_)
          unfold jfl
          rw [decide_eq_false hb, Bool.and_false]
      · refine ow_yn (fun z => hk1 ((nI_eq (b := 1) (by omega) (by decide)).mp z)) (noSlash ?_)
        unfold jfl
        rw [decide_eq_false hk1, Bool.false_and]
end JTX
