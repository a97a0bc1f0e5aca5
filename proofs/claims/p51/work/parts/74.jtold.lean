/-! Part 74: LineOfficeLaw.told -/
theorem jor {a c : Nat} (ha : a < 2 ^ 23) (hc : c < 128) : (nI a <<< ((8 : Int32) &&& 31)) ||| nI c = nI (256 * a + c) := by
  rw [pk_shlN (n := a) ((8 : Int32) &&& 31) 8 (by decide) (by omega)]
  apply Int32.toBitVec_inj.mp
  apply BitVec.eq_of_toNat_eq
  show (BitVec.ofNat 32 (a * 2 ^ 8) ||| BitVec.ofNat 32 c).toNat = (BitVec.ofNat 32 (256 * a + c)).toNat
  rw [BitVec.toNat_or, BitVec.toNat_ofNat, BitVec.toNat_ofNat, BitVec.toNat_ofNat, Nat.mod_eq_of_lt (by omega), Nat.mod_eq_of_lt (by omega), Nat.mod_eq_of_lt (by omega)]
  have := Nat.shiftLeft_add_eq_or_of_lt (b := c) (i := 8) (by omega) a
  rw [Nat.shiftLeft_eq] at this
  rw [← this]
  omega
theorem jdiv4 : ∀ i, i < 20 → nI i / 4 = nI (i / 4) := by decide +kernel
/-- four letters in a cell -/
def jpn (g : Nat → Nat) (k : Nat) : Nat → Nat
  | 0 => 0
  | m + 1 => 256 * jpn g k m + g (4 * k + m)
theorem jpn_lt {g : Nat → Nat} (h : ∀ i, g i < 128) (k : Nat) : jpn g k 1 < 2 ^ 7 ∧ jpn g k 2 < 2 ^ 15 ∧ jpn g k 3 < 2 ^ 23 ∧ jpn g k 4 < 2 ^ 31 := by
  have h0 := h (4 * k + 0)
  have h1 := h (4 * k + 1)
  have h2 := h (4 * k + 2)
  have h3 := h (4 * k + 3)
  simp only [jpn]
  omega
theorem jby {N : Nat} (h : N < 2 ^ 31) : ow_by (nI N) 24 = N / 2 ^ 24 % 256 ∧ ow_by (nI N) 16 = N / 2 ^ 16 % 256 ∧ ow_by (nI N) 8 = N / 2 ^ 8 % 256 ∧ ow_by (nI N) 0 = N / 2 ^ 0 % 256 := by
  have t : ∀ y, y < 2 ^ 32 → (nI y).toBitVec.toNat = y := fun y hy => by
    show (BitVec.ofNat 32 y).toNat = y
    rw [BitVec.toNat_ofNat, Nat.mod_eq_of_lt hy]
  unfold ow_by
  refine ⟨?_, ?_, ?_, ?_⟩
  · rw [pk_shrN h 24 24 (by decide), t _ (Nat.lt_of_le_of_lt (Nat.div_le_self _ _) (by omega))]
  · rw [pk_shrN h 16 16 (by decide), t _ (Nat.lt_of_le_of_lt (Nat.div_le_self _ _) (by omega))]
  · rw [pk_shrN h 8 8 (by decide), t _ (Nat.lt_of_le_of_lt (Nat.div_le_self _ _) (by omega))]
  · rw [pk_shrN h 0 0 (by decide), t _ (Nat.lt_of_le_of_lt (Nat.div_le_self _ _) (by omega))]
theorem jap {g : Nat → Nat} (h : ∀ i, g i < 128) (n k i : Nat) (b : Nat → Nat) : ow_ap n b (nI (jpn g k 4)) i = if n ≤ i ∧ i < n + 4 then g (4 * k + (i - n)) else b i := by
  have h0 := h (4 * k + 0)
  have h1 := h (4 * k + 1)
  have h2 := h (4 * k + 2)
  have h3 := h (4 * k + 3)
  obtain ⟨e1, e2, e3, e4⟩ := jby (jpn_lt h k).2.2.2
  unfold ow_ap
  rw [e1, e2, e3, e4]
  simp only [jpn]
  by_cases c0 : i = n
  · rw [if_pos c0, if_pos (by omega), show i - n = 0 by omega]; omega
  · rw [if_neg c0]
    by_cases c1 : i = n + 1
    · rw [if_pos c1, if_pos (by omega), show i - n = 1 by omega]; omega
    · rw [if_neg c1]
      by_cases c2 : i = n + 2
      · rw [if_pos c2, if_pos (by omega), show i - n = 2 by omega]; omega
      · rw [if_neg c2]
        by_cases c3 : i = n + 3
        · rw [if_pos c3, if_pos (by omega), show i - n = 3 by omega]; omega
        · rw [if_neg c3, if_neg (by omega)]
theorem jap5 {g : Nat → Nat} (h : ∀ i, g i < 128) (n i : Nat) (b : Nat → Nat) (hi : i < n + 20) : sp_ap n b (nI (jpn g 0 4)) (nI (jpn g 1 4)) (nI (jpn g 2 4)) (nI (jpn g 3 4)) (nI (jpn g 4 4)) i = if i < n then b i else g (i - n) := by
  unfold sp_ap
  rw [jap h, jap h, jap h, jap h, jap h]
  by_cases c : i < n
  · rw [if_neg (by omega), if_neg (by omega), if_neg (by omega), if_neg (by omega), if_neg (by omega), if_pos c]
  · rw [if_neg c]
    by_cases c4 : n + 16 ≤ i
    · rw [if_pos (by omega)]; congr 1; omega
    · rw [if_neg (by omega)]
      by_cases c3 : n + 12 ≤ i
      · rw [if_pos (by omega)]; congr 1; omega
      · rw [if_neg (by omega)]
        by_cases c2 : n + 8 ≤ i
        · rw [if_pos (by omega)]; congr 1; omega
        · rw [if_neg (by omega)]
          by_cases c1 : n + 4 ≤ i
          · rw [if_pos (by omega)]; congr 1; omega
          · rw [if_neg (by omega), if_pos (by omega)]; congr 1; omega
theorem jT.kp {M M1 : kz_M} {a : Nat} {l : List Nat} (h : jT M a l) (ha : 99 ≤ a) (g : ow_Kp M M1) : jT M1 a l := by
  obtain ⟨v, cap, h1, h2, h3, h4, h5, h6⟩ := h
  exact ⟨v, cap, g _ _ ha h1, g _ _ (Nat.le_trans ha h6) h2, h3, h4, h5, h6⟩
theorem jT.ob {M : kz_M} {a : Nat} {l : List Nat} (h : jT M a l) : ∃ fs, M.1 a = some (.inl (14, fs)) := by
  obtain ⟨v, cap, h1, -⟩ := h
  exact ⟨_, h1⟩
/-- a row of the law's own is changed -/
theorem jup_lf {M : kz_M} {r n : Nat} {f : Nat → Int32} (e' : kz_E) (h : M.1 r = some (.inr (.int, n, .inl f))) (hf : f 100000 = 1) (hr : 99 ≤ r) : ow_LF M (kz_up M r e') :=
  ⟨fun k hk => kz_up_ne (by omega), fun k e _ hm he => by
    by_cases hk : k = r
    · exfalso
      rw [hk, h] at he
      cases he
      rcases hm with z | z | z | ⟨n', f', e1, -, e3⟩
      · cases z
      · cases z
      · cases z
      · cases e1
        rw [hf] at e3
        exact absurd e3 (by decide)
    · exact (kz_up_ne hk).trans he, Nat.le_refl _⟩
theorem jnew_lf {M : kz_M} (hf : ow_fr M) (hM : 99 ≤ M.2) (e : kz_E) : ow_LF M (kz_nw M e) := ⟨fun k hk => kz_nw_ne (by omega), fun k e' _ _ he => by
  have := hf _ _ he
  exact (kz_nw_ne (by omega)).trans he, by rw [kz_nw_2]; omega⟩
section JTO
variable {G : kz_G} {d mc ms : Nat} {Qr : Option Value → kz_M → Prop} {Qx : String → kz_M → Prop} {M0 : kz_M} {O : ow_O} {hn : Nat} {h : Nat → ow_O} {sv : ow_O} {isS : Bool} {er : Nat} {ea : Int32} {b0 : Nat → Nat} {lt : List Nat}
theorem c_told {p : Nat} {l : List Nat} (hG : kz_stat G) (hp : 99 ≤ p) (hT : jT M0 p l) (I : ow_CI M0 O hn h sv isS er ea 0 b0 lt) (hmc : 30 ≤ mc) (hms : 150 ≤ ms) (Q : ∀ M1 b1, ow_Cf M0 M1 → ow_CI M1 O hn h sv isS er ea l.length b1 lt → (∀ i, i < l.length → b1 i = l.getD i 0) → Qr none M1) : kz_C G (d + 4) mc ms mL_told [.ref 0, .ref p] M0 Qr Qx := by
  refine kz_Cfr fun hf0 => ?_
  have hl : l.length ≤ 480 := by obtain ⟨v, cap, -, -, -, h4, -⟩ := hT; exact h4
  have hA : jA l := by obtain ⟨v, cap, -, -, -, -, h5, -⟩ := hT; exact h5
  have key : ∀ j, j ≤ (l.length + 19) / 20 → ∀ (M : kz_M) (b : Nat → Nat) (c sl : Nat), ow_Cf M0 M → ow_CI M O hn h sv isS er ea (20 * j) b lt → (∀ i, i < 20 * j → b i = if i < l.length then l.getD i 0 else 32) → c ≤ j → sl ≤ 5 * j → zL_told_2 G d mc ms Qr Qx 0 p (nI (20 * j)) M c sl := by
    refine ow_loop _ ?_ ?_
    · intro M b c sl C I hb hc hs
      have hT1 := hT.kp hp C.1
      refine rL_told_2 (by omega) (by omega) ⟨hT1.ob, c_strLen hG hT1 ⟨_, rfl, ow_y (nI_le (by omega) (by omega)) ⟨hT1.ob, c_strLen hG hT1 ⟨_, rfl, I.ob, ?_⟩⟩⟩⟩
      refine c_truncateInput I (fun hx => absurd rfl (hx l.length (by omega))) fun m hm e M1 C1 I1 => ⟨_, rfl, ?_⟩
      have hme : l.length = m := (nI_eq (by have := I.2.1.2.1; omega) (by have := I.2.1.2.1; omega)).mp e
      subst hme
      refine Q M1 b (C.trans C1) I1 fun i hi => ?_
      rw [hb i (by omega), if_pos hi]
    · intro j hj ih M b c sl C I hb hc hs
      refine kz_Zfr fun hfM => ?_
      show zL_told_2 G d mc ms Qr Qx 0 p (nI (20 * j)) M c sl
      have hT1 := hT.kp hp C.1
      have hM99 : 99 ≤ M.2 := I.2.2.2.2.2.2.2.2
      refine rL_told_2 (by omega) (by omega) ⟨hT1.ob, c_strLen hG hT1 ⟨_, rfl, ow_n (nI_ge (by omega) (by omega)) ⟨5, by decide, by decide, by decide, by omega, by omega, ?_⟩⟩⟩
      refine kz_Zfr fun hfN => ?_
      refine kz_tag (a := M.2) (n := 5) (f' := fun k => if k = 100000 then 1 else 0) (fun i hi => if_neg (by omega)) (kz_nw_same _ _) ?_
      show zL_told_17 G d mc ms Qr Qx 0 p (nI (20 * j)) M.2 0 (kz_up (kz_nw M (.inr (.int, 5, .inl (fun _ => 0)))) M.2 (.inr (.int, 5, .inl (fun k => if k = 100000 then 1 else 0)))) (c + 1) (sl + 5)
      have hg : ∀ i, (if 20 * j + i < l.length then l.getD (20 * j + i) 0 else 32) < 128 := fun i => by
        split
        · exact jA_get hA _
        · decide
      have inner : ∀ i, i ≤ 20 → ∀ (M1 : kz_M) (f : Nat → Int32), ow_Cf M0 M1 → ow_CI M1 O hn h sv isS er ea (20 * j) b lt → M1.1 M.2 = some (.inr (.int, 5, .inl f)) → f 100000 = 1 → (∀ k, k < 5 → f k = nI (jpn (fun i => if 20 * j + i < l.length then l.getD (20 * j + i) 0 else 32) k (min 4 (i - 4 * k)))) → zL_told_17 G d mc ms Qr Qx 0 p (nI (20 * j)) M.2 (nI i) M1 (c + 1) (sl + 5) := by
        refine ow_loop 20 ?_ ?_
        · intro M1 f C1 I1 h1 h2 h3
          refine rL_told_17 (by omega) (by omega) (ow_y (nI_le (Nat.le_refl 20) (by decide)) ?_)
          have hk := h3
          refine rL_told_70 (by omega) (by omega) ⟨_, _, h1, vp_in_nI (n := 0) (by decide) (by decide), _, _, h1, vp_in_nI (n := 1) (by decide) (by decide), _, _, h1, vp_in_nI (n := 2) (by decide) (by decide), _, _, h1, vp_in_nI (n := 3) (by decide) (by decide), _, _, h1, vp_in_nI (n := 4) (by decide) (by decide), I1.ob, ?_⟩
          have c0 : (0 : Int32).toNatClampNeg = 0 := by decide
          have c1 : (1 : Int32).toNatClampNeg = 1 := by decide
          have c2 : (2 : Int32).toNatClampNeg = 2 := by decide
          have c3 : (3 : Int32).toNatClampNeg = 3 := by decide
          have c4 : (4 : Int32).toNatClampNeg = 4 := by decide
          rw [c0, c1, c2, c3, c4, h3 0 (by decide), h3 1 (by decide), h3 2 (by decide), h3 3 (by decide), h3 4 (by decide)]
          refine c_appendInput I1 (fun hx => by omega) fun hx M2 C2 I2 => ⟨_, rfl, ?_⟩
          rw [show nI (20 * j) + (20 : Int32) = nI (20 * (j + 1)) from nI_add (20 * j) 20]
          refine ih M2 _ _ _ (C1.trans C2) I2 (fun i hi => ?_) (by omega) (by omega)
          rw [show min 4 (20 - 4 * 0) = 4 by decide, show min 4 (20 - 4 * 1) = 4 by decide, show min 4 (20 - 4 * 2) = 4 by decide, show min 4 (20 - 4 * 3) = 4 by decide, show min 4 (20 - 4 * 4) = 4 by decide, jap5 hg _ _ _ (by omega)]
          by_cases hi2 : i < 20 * j
          · rw [if_pos hi2]; exact hb i hi2
          · rw [if_neg hi2]
            rw [show 20 * j + (i - 20 * j) = i by omega]
        · intro i hi ih2 M1 f C1 I1 h1 h2 h3
          refine rL_told_17 (by omega) (by omega) (ow_n (nI_ge (b := 20) hi (by decide)) ?_)
          have hT2 := hT.kp hp C1.1
          have hd := jdiv4 i hi
          have hMr : 99 ≤ M.2 := hM99
          refine rL_told_24 (by omega) (by omega) ⟨_, _, h1, by rw [hd]; exact vp_in_nI (by omega) (by decide), hT2.ob, c_strLen hG hT2 ⟨_, rfl, ?_⟩⟩
          rw [hd, nI_add, nI_1]
          -- the step itself
          have step : ∀ c9 : Nat, c9 = (if 20 * j + i < l.length then l.getD (20 * j + i) 0 else 32) → zL_told_17 G d mc ms Qr Qx 0 p (nI (20 * j)) M.2 (nI (i + 1)) (kz_up M1 M.2 (.inr (.int, 5, .inl (upd f (nI (i / 4)).toNatClampNeg ((f (nI (i / 4)).toNatClampNeg <<< ((8 : Int32) &&& 31)) ||| nI c9))))) (c + 1) (sl + 5) := by
            intro c9 hc9
            rw [nI_clamp (by omega)]
            have hlt := jpn_lt hg (i / 4)
            have hm : min 4 (i - 4 * (i / 4)) = i % 4 := by omega
            have hb9 : jpn (fun i => if 20 * j + i < l.length then l.getD (20 * j + i) 0 else 32) (i / 4) (i % 4) < 2 ^ 23 := by
              have : i % 4 = 0 ∨ i % 4 = 1 ∨ i % 4 = 2 ∨ i % 4 = 3 := by omega
              rcases this with e | e | e | e <;> rw [e]
              · exact (by decide : 0 < 2 ^ 23)
              · omega
              · omega
              · omega
            have hc128 : c9 < 128 := by rw [hc9]; exact hg i
            rw [h3 (i / 4) (by omega), hm, jor hb9 hc128]
            refine ih2 _ _ ⟨fun k e hk he => ?_, fun k h8 h9 => absurd h8 (by omega), C1.2.2⟩ (I1.lf (jup_lf _ h1 h2 hMr)) (kz_up_same _ _ _) ?_ fun k hk => ?_
            · have := hf0 _ _ he
              have := C.2.2
              rw [kz_up_ne (by omega)]
              exact C1.1 k e hk he
            · unfold upd; rw [if_neg (by omega)]; exact h2
            · unfold upd
              by_cases hk4 : k = i / 4
              · rw [if_pos hk4, hk4, show min 4 (i + 1 - 4 * (i / 4)) = i % 4 + 1 by omega, jpn, hc9]
                rw [show 4 * (i / 4) + i % 4 = i by omega]
              · rw [if_neg hk4, h3 k hk]
                congr 2
                omega
          by_cases hlen : 20 * j + i < l.length
          · refine ow_n (nI_ge hlen (by omega)) ⟨hT2.ob, c_strAt hG hT2 hlen ⟨_, rfl, _, _, h1, vp_in_nI (by omega) (by decide), ?_⟩⟩
            exact step _ (by rw [if_pos hlen])
          · refine ow_y (nI_le (by omega) (by omega)) ⟨_, _, h1, vp_in_nI (by omega) (by decide), ?_⟩
            exact step 32 (by rw [if_neg hlen])
      refine inner 0 (by omega) _ _ ⟨fun k e hk he => ?_, fun k h8 h9 => absurd h8 (by omega), by rw [kz_up_2, kz_nw_2]; have := C.2.2; omega⟩ (I.lf ⟨fun k hk => (kz_up_ne (by omega)).trans (kz_nw_ne (by omega)), fun k e hk _ he => by
        have := hfM _ _ he
        exact (kz_up_ne (by omega)).trans ((kz_nw_ne (by omega)).trans he), by rw [kz_up_2, kz_nw_2]; omega⟩) (kz_up_same _ _ _) (if_pos rfl) fun k hk => ?_
      · have := hf0 _ _ he
        have := C.2.2
        rw [kz_up_ne (by omega), kz_nw_ne (by omega)]
        exact C.1 k e hk he
      · rw [if_neg (by omega), show 0 - 4 * k = 0 by omega]; rfl
  exact rL_told_0 (key 0 (Nat.zero_le _) M0 b0 0 0 (ow_Cf.refl _) I (fun i hi => absurd hi (by omega)) (Nat.zero_le _) (Nat.zero_le _))
end JTO
