/-! Part 66: ArrayList and its Itr -/
def jx (n : Nat) (x : Nat → Nat) : Nat → Option Nat := fun i => if i < n then some (x i) else none
def ja (x : Nat → Nat) (n b : Nat) : Nat → Nat := fun i => if i = n then b else x i
/-- the places that a full list makes -/
def jgr (n : Nat) : Nat := if n = 0 then 10 else n + n / 2
/-- a list at a, with its row e, of n elements -/
def jL (M : kz_M) (a e n cap : Nat) (x : Nat → Nat) : Prop := (n = 0 ∧ e = a ∧ cap = 0 ∧ M.1 a = some (.inl (16, [.int 0, .retAddr 3002, .int 0]))) ∨ (0 < n ∧ M.1 a = some (.inl (16, [.int (nI n), .ref e, .int (nI n)])) ∧ M.1 e = some (.inr (.object "java/lang/Object", cap, .inr (.inr (.inr (.inr (jx n x)))))) ∧ n ≤ cap ∧ 10 ≤ cap ∧ 2 * cap ≤ 3 * n + 20)
/-- what a list's changes leave -/
abbrev jJ (a e : Nat) : Nat → Prop := fun k => k = a ∨ k = e
/-- its elements are objects of a class -/
def jE (M : kz_M) (ci n : Nat) (x : Nat → Nat) : Prop := ∀ i, i < n → ∃ fs, M.1 (x i) = some (.inl (ci, fs))
def jI_ (M : kz_M) (it a k n : Nat) : Prop := ∃ lr, M.1 it = some (.inl (17, [.int (nI k), .int lr, .int (nI n), .ref a]))
/-- classes that a list may hold -/
def jcO (ci : Nat) : Prop := ∃ r, vwCl[ci]? = some r ∧ Cond.castable r.1 "java/lang/Object" ∈ lw_tbl
theorem jx_up {n b : Nat} {x : Nat → Nat} : va_up (jx n x) n (some b) = jx (n + 1) (ja x n b) := by
  funext i
  unfold va_up jx ja
  by_cases h : i = n
  · rw [if_pos h, if_pos (by omega), if_pos h]
  · rw [if_neg h]
    by_cases h2 : i < n
    · rw [if_pos h2, if_pos (by omega), if_neg h]
    · rw [if_neg h2, if_neg (by omega)]
theorem jx_cpy {n cap : Nat} {x : Nat → Nat} (h : n ≤ cap) : va_cpy (jx n x) (fun _ => none) 0 0 cap = jx n x := by
  funext j
  unfold va_cpy
  split
  · congr 1; omega
  · unfold jx; rw [if_neg (by omega)]
theorem jL.ob {M : kz_M} {a e n cap : Nat} {x : Nat → Nat} (h : jL M a e n cap x) : ∃ m v, M.1 a = some (.inl (16, [.int (nI n), v, .int (nI n)])) ∧ m = n ∧ (n = 0 ∨ v = .ref e) := by
  rcases h with ⟨rfl, -, -, h⟩ | ⟨-, h, -⟩
  · exact ⟨0, _, h, rfl, Or.inl rfl⟩
  · exact ⟨n, _, h, rfl, Or.inr rfl⟩
theorem jL.lt {M : kz_M} {a e n cap : Nat} {x : Nat → Nat} (h : jL M a e n cap x) (hf : ow_fr M) : a < M.2 ∧ e < M.2 := by
  rcases h with ⟨rfl, rfl, -, h⟩ | ⟨-, h, h2, -⟩
  · exact ⟨hf _ _ h, hf _ _ h⟩
  · exact ⟨hf _ _ h, hf _ _ h2⟩
theorem jL.mv {M M1 : kz_M} {a e n cap : Nat} {x : Nat → Nat} (h : jL M a e n cap x) (h1 : M1.1 a = M.1 a) (h2 : M1.1 e = M.1 e) : jL M1 a e n cap x := by
  rcases h with ⟨h3, h4, h6, h⟩ | ⟨h3, h, h4, h5⟩
  · exact Or.inl ⟨h3, h4, h6, h1.trans h⟩
  · exact Or.inr ⟨h3, h1.trans h, h2.trans h4, h5⟩
section JSL
variable {G : kz_G} {d mc ms : Nat} {Qr : Option Value → kz_M → Prop} {Qx : String → kz_M → Prop} {M : kz_M}
theorem c_listInit {a : Nat} (hG2 : kz_stat2 G) (h : M.1 a = some (.inl (16, [.int 0, .null, .int 0]))) (Q : ∀ M1 : kz_M, (∀ k, k ≠ a → M1.1 k = M.1 k) → M1.2 = M.2 → jL M1 a a 0 0 (fun _ => 0) → Qr none M1) : kz_C G (d + 3) 0 0 mJx4a65c_init_da8c8 [.ref a] M Qr Qx :=
  rJx4a65c_init_da8c8_0 hG2 (rJxc12de_init_da8c8_0 (rJxa1e45_init_da8c8_0 ⟨rfl, _, h, ow_l rfl, ⟨rfl, _, kz_up_same _ _ _, ow_l rfl, Q _ (fun k hk => (kz_up_ne hk).trans (kz_up_ne hk)) rfl (Or.inl ⟨rfl, rfl, rfl, kz_up_same _ _ _⟩)⟩⟩))
theorem c_listSize {a e n cap : Nat} {x : Nat → Nat} (h : jL M a e n cap x) (Q : Qr (some (.int (nI n))) M) : kz_C G d 0 0 mJx4a65c_size_8abf5 [.ref a] M Qr Qx := by
  obtain ⟨m, v, h1, -⟩ := h.ob
  exact rJx4a65c_size_8abf5_0 ⟨_, _, h1, rfl, Q⟩
theorem c_listEmpty {a e n cap : Nat} {x : Nat → Nat} (h : jL M a e n cap x) (hn : n < 2 ^ 31) (Q : Qr (some (.int (if n = 0 then 1 else 0))) M) : kz_C G d 0 0 mJx4a65c_isEmpty_aae02 [.ref a] M Qr Qx := by
  obtain ⟨m, v, h1, -⟩ := h.ob
  refine rJx4a65c_isEmpty_aae02_0 ⟨_, _, h1, rfl, fun hz => ?_, fun hz => ?_⟩
  · rw [if_neg (fun e => hz (by rw [e]; rfl))] at Q; exact Q
  · rw [if_pos ((nI_eq (b := 0) hn (by decide)).mp hz)] at Q; exact Q
theorem c_listGet {a e n cap i : Nat} {x : Nat → Nat} (h : jL M a e n cap x) (hi : i < n) (hn : n ≤ 250) (Q : Qr (some (.ref (x i))) M) : kz_C G (d + 2) 0 0 mJx4a65c_get_915e3 [.ref a, .int (nI i)] M Qr Qx := by
  rcases h with ⟨rfl, -, -, h⟩ | ⟨hp, h1, h2, h3, h4, h5⟩
  · omega
  · refine rJx4a65c_get_915e3_0 ⟨_, _, h1, rfl, rJ15_checkIndex_7cf53_0 (kz_ckI3 (Or.inl rfl) hi (by omega) ⟨_, rfl, _, rfl, ⟨_, h1⟩, rJx4a65c_elementData_915e3_0 ⟨_, _, h1, rfl, _, _, x i, h2, vp_in_nI (by omega) (by omega), ?_, _, rfl, Q⟩⟩)⟩
    rw [nI_clamp (by omega)]
    exact if_pos hi
theorem c_copyO {p cap q n : Nat} {x : Nat → Nat} {y : Int32} {ci : Nat} (hy : y = nI q) (h : M.1 p = some (.inr (.object "java/lang/Object", cap, .inr (.inr (.inr (.inr (jx n x))))))) (hn : n ≤ cap) (hO : jcO ci) (hE : jE M ci n x) (hq : cap < q) (hq2 : q ≤ 400) (hmc : 1 ≤ mc) (hms : q ≤ ms) (Q : ∀ M1, ow_Nw (fun _ => False) M M1 → M1.2 = M.2 + 1 → M1.1 M.2 = some (.inr (.object "java/lang/Object", q, .inr (.inr (.inr (.inr (jx n x)))))) → Qr (some (.ref M.2)) M1) : kz_C G (d + 2) mc ms mJ7_copyOf_1904c [.ref p, .int y] M Qr Qx := by
  subst hy
  refine kz_Cfr fun hf => ?_
  have hp := hf _ _ h
  obtain ⟨r, hr, hca⟩ := hO
  have h1 : (kz_nw M (.inr (.object "java/lang/Object", q, .inr (.inr (.inr (.inr (fun _ => none))))))).1 p = some (.inr (.object "java/lang/Object", cap, .inr (.inr (.inr (.inr (jx n x)))))) := (kz_nw_ne (by omega)).trans h
  have e : (if nI q < Int32.ofNat cap then nI q else Int32.ofNat cap) = nI cap := if_neg (nI_nlt (by omega) (by omega))
  refine rJ7_copyOf_1904c_0 ⟨_, _, h, 1, q, by omega, by omega, ?_⟩
  refine rJ7_copyOf_6403c_0 ⟨q, nI_pos (by omega), nI_clamp (by omega), by omega, by omega, by omega, _, _, h1, _, _, _, _, h1, kz_nw_same _ _, fun i hi y hy => ?_, by decide, by decide, ?_⟩
  · have hin : i < n := by
      rcases Nat.lt_or_ge i n with g | g
      · exact g
      · unfold jx at hy; rw [if_neg (by omega)] at hy; cases hy
    have hxy : x i = y := by unfold jx at hy; rw [if_pos hin] at hy; exact Option.some.inj hy
    obtain ⟨fs, hfs⟩ := hE i hin
    rw [hxy] at hfs
    have := hf _ _ hfs
    exact ⟨ci, r, fs, hr, hca, (kz_nw_ne (by omega)).trans hfs⟩
  · dsimp only
    rw [e, nI_clamp (by omega)]
    refine ⟨nI_pos (by omega), by show 0 + cap ≤ cap; omega, by show 0 + cap ≤ q; omega, fun M1 e1 => ⟨_, rfl, ?_⟩⟩
    refine Q M1 ⟨fun k hk _ => ?_, ?_⟩ ?_ ?_
    · rw [e1, kz_up_ne (by omega), kz_nw_ne (by omega)]
    · rw [e1, kz_up_2, kz_nw_2]; omega
    · rw [e1, kz_up_2, kz_nw_2]
    · rw [e1, kz_up_same]
      show some (Sum.inr (FieldType.object "java/lang/Object", q, Sum.inr (Sum.inr (Sum.inr (Sum.inr (va_cpy (jx n x) (fun _ => none) 0 0 cap)))))) = _
      rw [jx_cpy hn]
theorem c_listAdd {a e n cap b ci : Nat} {x : Nat → Nat} {fs : List Value} (hG2 : kz_stat2 G) (h : jL M a e n cap x) (hO : jcO ci) (hE : jE M ci n x) (hb : M.1 b = some (.inl (ci, fs))) (hba : ci ≠ 16) (hn : n ≤ 240) (hmc : cap ≤ n → 1 ≤ mc) (hms : cap ≤ n → jgr n ≤ ms) (Q : ∀ M1 e' cap', ow_Nw (jJ a e) M M1 → M1.2 ≤ M.2 + 1 → jL M1 a e' (n + 1) cap' (ja x n b) → (e' = e ∨ e' = M.2) → e' ≠ a → cap' = (if n < cap then cap else jgr n) → Qr (some (.int 1)) M1) : kz_C G (d + 6) mc ms mJx4a65c_add_9ea2d [.ref a, .ref b] M Qr Qx := by
  refine kz_Cfr fun hf => ?_
  have hbl := hf _ _ hb
  have hab : b ≠ a := fun z => by
    obtain ⟨m, v, h1, -⟩ := h.ob
    rw [z, h1] at hb
    cases hb
    exact hba rfl
  obtain ⟨r, hr, hca⟩ := hO
  rcases h with ⟨rfl, rfl, rfl, h⟩ | ⟨hp, h1, h2, h3, h4, h5⟩
  · have ha := hf _ _ h
    have hmc := hmc (Nat.le_refl _)
    have hms : 10 ≤ ms := hms (Nat.le_refl _)
    have u1 : ∀ fs', (kz_up M e (.inl (16, fs'))).1 e = some (.inl (16, fs')) := fun fs' => kz_up_same _ _ _
    refine rJx4a65c_add_9ea2dE_0 ⟨_, _, h, rfl, _, h, ow_l rfl, _, u1 _, rfl, _, _, u1 _, rfl, ⟨_, u1 _⟩, 1, 10, by omega, by omega, ?_⟩
    refine rJx4a65c_add_72be8E_0 hG2 ⟨fun hz => absurd rfl hz, fun _ => ⟨⟨_, u1 _⟩, 1, 10, by omega, by omega, ?_⟩⟩
    refine rJx4a65c_grow_d5877_0 ⟨_, _, u1 _, rfl, ⟨_, u1 _⟩, 1, 10, by omega, by omega, ?_⟩
    refine rJx4a65c_grow_92f84E_0 hG2 ⟨_, u1 _, rfl, fun hz => absurd hz (by decide), fun _ => ⟨_, u1 _, rfl, 10, by decide, by decide, by decide, by omega, by omega, _, (kz_nw_ne (by rw [kz_up_2]; omega)).trans (u1 _), ow_l rfl, ⟨_, rfl, _, rfl, ?_⟩⟩⟩
    have hM2 : e ≠ M.2 := by omega
    have hbM : b ≠ M.2 := by omega
    refine ⟨_, _, _, ci, r, (kz_up_ne (by rw [kz_up_2]; exact hM2.symm)).trans (kz_nw_same _ _), (kz_up_ne hab).trans ((kz_nw_ne (by rw [kz_up_2]; exact hbM)).trans ((kz_up_ne hab).trans hb)), hr, hca, vp_in_nI (n := 0) (by decide) (by decide), fun M9 e9 => ?_⟩
    have k1 : M9.1 e = some (.inl (16, [.int (0 + 1), .ref M.2, .int 0])) := by rw [e9, kz_up_ne (by rw [kz_up_2]; exact hM2), kz_up_same]; rfl
    refine ⟨_, k1, ow_l rfl, ⟨rfl, ?_⟩⟩
    refine Q _ M.2 10 ⟨fun k hk hkp => ?_, ?_⟩ ?_ (Or.inr ⟨by omega, kz_up_same _ _ _, ?_, by omega, by omega, by omega⟩) (Or.inr rfl) hM2.symm rfl
    · have hka : k ≠ e := fun z => hkp (Or.inl z)
      rw [kz_up_ne hka, e9, kz_up_ne (by rw [kz_up_2]; omega), kz_up_ne hka, kz_nw_ne (by rw [kz_up_2]; omega), kz_up_ne hka]
    · rw [kz_up_2, e9, kz_up_2, kz_up_2, kz_nw_2, kz_up_2]; omega
    · rw [kz_up_2, e9, kz_up_2, kz_up_2, kz_nw_2, kz_up_2]; omega
    · rw [kz_up_ne hM2.symm, e9]
      refine (kz_up_same _ _ _).trans ?_
      show some (Sum.inr (FieldType.object "java/lang/Object", 10, Sum.inr (Sum.inr (Sum.inr (Sum.inr (va_up (fun _ => none) 0 (some b))))))) = _
      rw [show (fun _ => none : Nat → Option Nat) = jx 0 x from rfl, jx_up]
  · have ha := hf _ _ h1
    have he := hf _ _ h2
    have hae : a ≠ e := fun z => by rw [z, h2] at h1; cases h1
    have hbe : b ≠ e := fun z => by rw [z, h2] at hb; cases hb
    have u1 : (kz_up M a (.inl (16, List.set [.int (nI n), .ref e, .int (nI n)] 0 (.int (nI n + 1))))).1 a = some (.inl (16, [.int (nI n + 1), .ref e, .int (nI n)])) := kz_up_same _ _ _
    have u2 : (kz_up M a (.inl (16, List.set [.int (nI n), .ref e, .int (nI n)] 0 (.int (nI n + 1))))).1 e = _ := (kz_up_ne hae.symm).trans h2
    have u3 : (kz_up M a (.inl (16, List.set [.int (nI n), .ref e, .int (nI n)] 0 (.int (nI n + 1))))).1 b = _ := (kz_up_ne hab).trans hb
    refine rJx4a65c_add_9ea2d_0 ⟨_, _, h1, rfl, _, h1, ow_l rfl, _, _, u1, rfl, _, _, u1, rfl, ⟨_, u1⟩, mc, ms, by omega, by omega, ?_⟩
    refine rJx4a65c_add_72be8_0 ⟨_, _, u2, ⟨fun hz => ?_, fun hz => ?_⟩⟩
    · have hlt : n < cap := by
        rcases Nat.lt_or_ge n cap with g | g
        · exact g
        · exact absurd (congrArg nI (by omega : n = cap)) hz
      refine ⟨_, _, _, ci, r, u2, u3, hr, hca, vp_in_nI hlt (by omega), fun M9 e9 => ?_⟩
      rw [nI_clamp (by omega), jx_up] at e9
      have k1 : M9.1 a = _ := (congrFun (congrArg Prod.fst e9) a).trans ((kz_up_ne hae).trans u1)
      refine ⟨_, k1, ow_l rfl, ⟨rfl, ?_⟩⟩
      refine Q _ e cap ⟨fun k hk hkp => ?_, ?_⟩ ?_ (Or.inr ⟨by omega, ?_, ?_, by omega, by omega, by omega⟩) (Or.inl rfl) hae.symm (by rw [if_pos hlt])
      · have hka : k ≠ a := fun z => hkp (Or.inl z)
        have hke : k ≠ e := fun z => hkp (Or.inr z)
        rw [kz_up_ne hka, e9, kz_up_ne hke, kz_up_ne hka]
      · rw [kz_up_2, e9, kz_up_2, kz_up_2]; omega
      · rw [kz_up_2, e9, kz_up_2, kz_up_2]; omega
      · rw [kz_up_same, nI_succ]; rfl
      · rw [kz_up_ne hae.symm, e9, kz_up_same]
    · have hcn : n = cap := (nI_eq (b := cap) (by omega) (by omega)).mp hz
      subst hcn
      have hmc := hmc (Nat.le_refl _)
      have hms : n + n / 2 ≤ ms := by
        have := hms (Nat.le_refl _)
        unfold jgr at this
        rwa [if_neg (by omega)] at this
      have hm : nI n + 1 - nI n = nI 1 := by rw [← nI_succ]; exact (pk_sub (by omega)).trans (by rw [show n + 1 - n = 1 by omega])
      have hs : nI n >>> ((1 : Int32) &&& 31) = nI (n / 2) := by
        have k := pk_shrN (n := n) (by omega) ((1 : Int32) &&& 31) 1 (by decide)
        rwa [Nat.pow_one] at k
      refine ⟨⟨_, u1⟩, 1, n + n / 2, by omega, by omega, rJx4a65c_grow_d5877_0 ⟨_, _, u1, rfl, ⟨_, u1⟩, 1, n + n / 2, by omega, by omega, ?_⟩⟩
      refine rJx4a65c_grow_92f84_0 hG2 ⟨_, _, u1, rfl, _, _, u2, ⟨fun _ => ?_, fun hz => absurd (nI_lt (a := 0) (by omega) (by omega)) hz⟩⟩
      dsimp only
      refine c_newLen (a := n) (b := 1) (p := n / 2) (m := n + n / 2) rfl hm hs (by split <;> omega) (by omega) (by omega) ⟨_, rfl, _, _, u1, rfl, 1, n + n / 2, by omega, by omega, ?_⟩
      refine c_copyO (q := n + n / 2) rfl u2 (Nat.le_refl _) ⟨r, hr, hca⟩ (fun i hi => ?_) (by omega) (by omega) (by omega) (by omega) fun M2 g1 g2 g3 => ⟨_, rfl, _, (g1.1 a ha (fun z => z)).trans u1, ow_l rfl, ⟨_, rfl, _, rfl, ?_⟩⟩
      · obtain ⟨fs', h'⟩ := hE i hi
        have : x i ≠ a := fun z => by
          rw [z, h1] at h'
          cases h'
          exact hba rfl
        exact ⟨fs', (kz_up_ne this).trans h'⟩
      rw [kz_up_2] at g2 g3 ⊢
      have hM2 : a ≠ M.2 := by omega
      refine ⟨_, _, _, ci, r, (kz_up_ne hM2.symm).trans g3, (kz_up_ne hab).trans ((g1.1 b hbl (fun z => z)).trans u3), hr, hca, vp_in_nI (by omega) (by omega), fun M9 e9 => ?_⟩
      rw [nI_clamp (by omega), jx_up] at e9
      have k1 : M9.1 a = _ := (congrFun (congrArg Prod.fst e9) a).trans ((kz_up_ne hM2).trans (kz_up_same _ _ _))
      refine ⟨_, k1, ow_l rfl, ⟨rfl, ?_⟩⟩
      refine Q _ M.2 (n + n / 2) ⟨fun k hk hkp => ?_, ?_⟩ ?_ (Or.inr ⟨by omega, ?_, ?_, by omega, by omega, by omega⟩) (Or.inr rfl) hM2.symm (by rw [if_neg (Nat.lt_irrefl _)]; unfold jgr; rw [if_neg (by omega)])
      · have hka : k ≠ a := fun z => hkp (Or.inl z)
        have hke : k ≠ M.2 := by omega
        rw [kz_up_ne hka, e9, kz_up_ne hke, kz_up_ne hka, g1.1 k hk (fun z => z), kz_up_ne hka]
      · rw [kz_up_2, e9, kz_up_2, kz_up_2, g2]; omega
      · rw [kz_up_2, e9, kz_up_2, kz_up_2, g2]; omega
      · rw [kz_up_same, nI_succ]; rfl
      · rw [kz_up_ne hM2.symm, e9, kz_up_same]
theorem c_iter {a e n cap : Nat} {x : Nat → Nat} (h : jL M a e n cap x) (hmc : 1 ≤ mc) (hms : 4 ≤ ms) (Q : ∀ M1, ow_Nw (fun _ => False) M M1 → M1.2 = M.2 + 1 → jI_ M1 M.2 a 0 n → Qr (some (.ref M.2)) M1) : kz_C G (d + 2) mc ms mJx4a65c_iterator_32c93 [.ref a] M Qr Qx := by
  refine kz_Cfr fun hf => ?_
  obtain ⟨m, v, h1, -⟩ := h.ob
  have ha := hf _ _ h1
  have n1 := kz_nw_same M (.inl (17, [.int 0, .int 0, .int 0, .null]))
  have hne : a ≠ M.2 := by omega
  refine rJx4a65c_iterator_32c93_0 ⟨by omega, by omega, rJx35411_init_45d68_0 ⟨_, n1, ow_l rfl, _, kz_up_same _ _ _, ow_l rfl, _, _, kz_up_same _ _ _, rfl, _, _, (kz_up_ne hne).trans ((kz_up_ne hne).trans ((kz_nw_ne hne).trans h1)), rfl, _, kz_up_same _ _ _, ow_l rfl, rfl, ?_⟩⟩
  refine Q _ ⟨fun k hk _ => ?_, ?_⟩ rfl ⟨-1, kz_up_same _ _ _⟩
  · rw [kz_up_ne (by omega), kz_up_ne (by omega), kz_up_ne (by omega), kz_nw_ne (by omega)]
  · rw [kz_up_2, kz_up_2, kz_up_2, kz_nw_2]; omega
theorem c_hasNext {it a e k n cap : Nat} {x : Nat → Nat} (h : jL M a e n cap x) (hi : jI_ M it a k n) (hk : k ≤ n) (hn : n ≤ 250) (Q : Qr (some (.int (if k = n then 0 else 1))) M) : kz_C G d 0 0 mJx35411_hasNext_aae02 [.ref it] M Qr Qx := by
  obtain ⟨m, v, h1, -⟩ := h.ob
  obtain ⟨lr, h2⟩ := hi
  refine rJx35411_hasNext_aae02_0 ⟨_, _, h2, rfl, _, _, h2, rfl, _, _, h1, rfl, fun hz => ?_, fun hz => ?_⟩
  · rw [if_pos ((nI_eq (by omega) (by omega)).mp hz)] at Q; exact Q
  · rw [if_neg (fun z => hz (by rw [z]))] at Q; exact Q
theorem c_itNext {it a e k n cap : Nat} {x : Nat → Nat} (h : jL M a e n cap x) (hi : jI_ M it a k n) (hk : k < n) (hn : n ≤ 250) (Q : ∀ M1 : kz_M, (∀ j, j ≠ it → M1.1 j = M.1 j) → M1.2 = M.2 → jI_ M1 it a (k + 1) n → Qr (some (.ref (x k))) M1) : kz_C G (d + 1) 0 0 mJx35411_next_0502b [.ref it] M Qr Qx := by
  obtain ⟨lr, h2⟩ := hi
  rcases h with ⟨rfl, -, -, h⟩ | ⟨hp, h1, h3, h4, h5, h6⟩
  · omega
  · have hia : it ≠ a := fun z => by rw [z, h1] at h2; cases h2
    have hie : it ≠ e := fun z => by rw [z, h3] at h2; cases h2
    refine rJx35411_next_0502b_0 ⟨⟨_, h2⟩, rJx35411_checkForComodification_da8c8_0 ⟨_, _, h2, rfl, _, _, h1, rfl, _, _, h2, rfl, fun _ => ⟨rfl, _, _, h2, rfl, _, _, h2, rfl, _, _, h1, rfl, ⟨fun _ => ?_, fun hz => absurd (nI_lt hk (by omega)) hz⟩⟩, fun hz => absurd rfl hz⟩⟩
    refine ⟨_, _, h2, rfl, _, _, h1, rfl, _, _, h3, ⟨fun _ => ?_, fun hz => absurd (nI_lt (a := k) (b := cap) (by omega) (by omega)) hz⟩⟩
    refine ⟨_, h2, ow_l rfl, _, kz_up_same _ _ _, ow_l rfl, _, _, x k, (kz_up_ne hie.symm).trans ((kz_up_ne hie.symm).trans h3), vp_in_nI (by omega) (by omega), ?_, ?_⟩
    · rw [nI_clamp (by omega)]; exact if_pos hk
    · refine Q _ (fun j hj => ?_) rfl ⟨nI k, ?_⟩
      · rw [kz_up_ne hj, kz_up_ne hj]
      · rw [kz_up_same, nI_succ]; rfl
end JSL
