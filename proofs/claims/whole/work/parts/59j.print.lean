/-! Part 59j: LineOffice: what prints -/
/-- a line is as wide as its words, and not too wide -/
def ow_Lwd (s : ow_S) (l : ow_L) : Prop := l.2.2.1 = nI (ow_wd s.2.2.1 l.1 l.2.1) ∧ ow_wd s.2.2.1 l.1 l.2.1 ≤ 30 ∧ l.1 < l.2.1
def ow_Wwd (w : ow_W) : Prop := 1 ≤ w.2.2.2.1 ∧ ∀ i, i < w.2.2.2.1 → ow_Lwd w.2.2.1 (w.2.2.2.2 i)
def sp_sep (l : List Nat) : List Nat := l ++ (if l.length = 0 then [] else [32])
theorem sp_sep_len (l : List Nat) : (sp_sep l).length ≤ l.length + 1 := by
  unfold sp_sep
  rw [List.length_append]
  split <;> simp
def ow_cd (x : Int64) : Nat := x.toBitVec.toNat
/-- the words from a on, printed -/
def ow_pl (w : Nat → Int64) (a : Nat) : Nat → List Nat
  | 0 => []
  | i + 1 => sp_sep (ow_pl w a i) ++ ow_wo (ow_cd (w (a + i))) (ow_lw (w (a + i)))
theorem ow_lt_s (w : Nat → Int64) (a i : Nat) : ow_lt w a (a + i + 1) = ow_lt w a (a + i) + ow_lw (w (a + i)) := by
  rw [ow_lt, if_pos (by omega)]
theorem ow_pl_len (w : Nat → Int64) (a : Nat) : ∀ i, (ow_pl w a i).length ≤ i - 1 + ow_lt w a (a + i)
  | 0 => Nat.zero_le _
  | i + 1 => by
    have ih := ow_pl_len w a i
    rw [ow_pl, List.length_append, ow_wo_len, ← Nat.add_assoc a i 1, ow_lt_s]
    cases i with
    | zero =>
      have : (sp_sep (ow_pl w a 0)).length = 0 := rfl
      omega
    | succ i =>
      have := sp_sep_len (ow_pl w a (i + 1))
      omega
theorem ow_lt_mono (w : Nat → Int64) (a : Nat) {m n : Nat} (h : m ≤ n) : ow_lt w a m ≤ ow_lt w a n := by
  induction n with
  | zero => rw [show m = 0 by omega]; exact Nat.le_refl _
  | succ n ih =>
    rcases Nat.lt_or_ge n m with h2 | h2
    · rw [show m = n + 1 by omega]; exact Nat.le_refl _
    · have := ih h2
      rw [ow_lt]
      omega
def sp_pl (w : ow_W) (k : Nat) : List Nat := ow_pl w.2.2.1.2.2.1 (w.2.2.2.2 k).1 ((w.2.2.2.2 k).2.1 - (w.2.2.2.2 k).1)
def ow_let (st : Nat) : Nat := if st = 1 then 120 else if st = 2 then 103 else if st = 3 then 108 else 99
/-- the lines below n, printed -/
def sp_pw (w : ow_W) : Nat → List Nat
  | 0 => []
  | i + 1 => sp_sep (sp_pw w i) ++ ow_num (w.2.2.2.2 i).2.2.1 ++ [ow_let (w.2.2.2.2 i).2.2.2.2.2]
def sp_pb (O : ow_O) : Nat → List Nat
  | 0 => []
  | i + 1 => sp_sep (sp_pb O i) ++ ow_wo (o_nm O i) (ow_ln (o_nm O i)) ++ [61] ++ ow_num (o_ba O i)
theorem ow_num_len (v : Int32) : (ow_num v).length ≤ 11 := by
  have := ow_dg_le v.toInt.natAbs 10
  unfold ow_num
  rw [List.length_append]
  split <;> simp <;> omega
theorem ow_num_len2 {m : Nat} (h : m < 100) : (ow_num (nI m)).length ≤ 2 := by
  have hn : ¬ nI m < 0 := nI_pos (by omega)
  have e : (nI m).toInt.natAbs = m := by rw [nI_toInt (by omega)]; omega
  unfold ow_num
  rw [if_neg hn, e, List.nil_append]
  exact ow_dg_lt m 2 (by omega) 10
theorem sp_pw_len {w : ow_W} (h : ow_Wwd w) : ∀ i, i ≤ w.2.2.2.1 → (sp_pw w i).length ≤ 4 * i
  | 0, _ => Nat.le_refl _
  | i + 1, hi => by
    have ih := sp_pw_len h i (by omega)
    obtain ⟨h1, h2, -⟩ := h.2 i (by omega)
    have h3 := sp_sep_len (sp_pw w i)
    have h4 := ow_num_len2 (m := ow_wd w.2.2.1.2.2.1 (w.2.2.2.2 i).1 (w.2.2.2.2 i).2.1) (by omega)
    rw [sp_pw, List.length_append, List.length_append, h1]
    simp only [List.length_singleton]
    omega
theorem sp_pb_len {O : ow_O} (hO : ow_Ok1 O) : ∀ i, i ≤ o_nw O → (sp_pb O i).length ≤ 25 * i
  | 0, _ => Nat.le_refl _
  | i + 1, hi => by
    have ih := sp_pb_len hO i (by omega)
    have h3 := sp_sep_len (sp_pb O i)
    have h4 := ow_num_len (o_ba O i)
    have h5 := ow_ln_le (o_nm O i)
    rw [sp_pb, List.length_append, List.length_append, List.length_append, ow_wo_len]
    simp only [List.length_singleton]
    omega
section OWK
variable {G : kz_G} {d mc ms : Nat} {Qr : Option Value → kz_M → Prop} {Qx : String → kz_M → Prop} {M : kz_M} {O : ow_O} {hn : Nat} {h : Nat → ow_O} {sv : ow_O} {isS : Bool} {er : Nat} {ea : Int32} {n : Nat} {b : Nat → Nat} {l : List Nat}
theorem ow_CI.out (I : ow_CI M O hn h sv isS er ea n b l) : ow_RT M l := I.2.2.1
theorem ow_CI.prt {M1 : kz_M} {l' : List Nat} (I : ow_CI M O hn h sv isS er ea n b l) (g : ow_Sm ow_inT M M1) (e : M1.2 = M.2) (ht : ow_RT M1 l') : ow_CI M1 O hn h sv isS er ea n b l' := by
  have h116 : ow_K = 116 := rfl
  have K : ow_Kp M M1 := g.kp fun k hk => by omega
  obtain ⟨i1, i2, i3, i4, i5, i6, ⟨en, er', ea', O', t', i7⟩, ⟨k, P, i8⟩, i9⟩ := I
  have o : ∀ k, k ≠ 3 → k ≠ 4 → M1.1 k = M.1 k := fun k h1 h2 => g k (by omega)
  refine ⟨(o 0 (by omega) (by omega)).trans i1, i2.mv (o 1 (by omega) (by omega)) (o 2 (by omega) (by omega)), ht, i4.mv K fun k h1 h2 => o k (by omega) (by omega), i5.mv K fun k h1 h2 => o k (by omega) (by omega), i6.mv K fun k hk => o k (by have := hk.1; omega) (by have := hk.1; omega), ⟨en, er', ea', O', t', i7.mv K fun k hk => o k (by have := hk.1; omega) (by have := hk.1; omega)⟩, ⟨k, P, i8.mv K (o 97 (by omega) (by omega)) (o 98 (by omega) (by omega))⟩, by omega⟩
theorem ow_inT_cf {M1 : kz_M} (g : ow_Sm ow_inT M M1) (e : M1.2 = M.2) : ow_Cf M M1 := g.cf e fun k hk => by omega
theorem ow_CI.out0 (I : ow_CI M O hn h sv isS er ea n b l) : ow_CI (kz_up M 3 (.inl (4, [.ref 4, .int (nI 0)]))) O hn h sv isS er ea n b [] := by
  have S : ow_Sm ow_inT M (kz_up M 3 (.inl (4, [.ref 4, .int (nI 0)]))) := fun k hk => kz_up_ne fun e => hk (Or.inl e)
  obtain ⟨h1, h2, h3, f, h4, h5⟩ := I.out
  exact I.prt S rfl ⟨kz_up_same _ _ _, Nat.zero_le _, fun c hc => (by cases hc), f, (kz_up_ne (by omega)).trans h4, fun i hi => absurd hi (Nat.not_lt_zero i)⟩
theorem c_printLine {x y : Int32} (hG : kz_stat G) (I : ow_CI M O hn h sv isS er ea n b l) (hO : ow_Ok1 O) (hWd : ∀ i, i < o_wk O → ow_Wwd (o_ws O i)) (hmc : 2 ≤ mc) (hms : 12 ≤ ms) (q0 : (∀ j k, j < o_wk O → k < (o_ws O j).2.2.2.1 → x = nI j → y = nI k → False) → ow_thr Qx M ow_IO) (q1 : ∀ j k, j < o_wk O → x = nI j → k < (o_ws O j).2.2.2.1 → y = nI k → ∀ M1, ow_Cf M M1 → ow_CI M1 O hn h sv isS er ea n b (sp_pl (o_ws O j) k) → Qr (some (.int (nI (sp_pl (o_ws O j) k).length))) M1) : kz_C G (d + 9) mc ms mX11_printLine [.ref 0, .int x, .int y] M Qr Qx := by
  refine rX11_printLine_0 ⟨I.ob, 2, 12, by omega, by omega, c_lineOr hG I hO (by omega) (by omega) q0 fun j k a sc hj e hk ek hl hs => ⟨_, rfl, _, _, I.1, rfl, _, I.out.1, ow_l rfl, ?_⟩⟩
  have hW := hO.2.2.2 j hj
  have hn60 := hW.1.2.2.1
  have hL := hW.2.2.2.2 k hk
  have hL2 := hL.2.1
  obtain ⟨h1, h2, h3⟩ := (hWd j hj).2 k hk
  have J := I.out0
  have C1 : ow_Cf M (kz_up M 3 (.inl (4, [.ref 4, .int (nI 0)]))) := ow_inT_cf (fun k hk => kz_up_ne fun e => hk (Or.inl e)) rfl
  have hl1 := hl.keep C1.1
  change ow_CI (kz_up M 3 (.inl (4, List.set [.ref 4, .int (nI l.length)] 1 (.int 0)))) O hn h sv isS er ea n b [] at J
  change ow_Cf M (kz_up M 3 (.inl (4, List.set [.ref 4, .int (nI l.length)] 1 (.int 0)))) at C1
  change ow_RL (kz_up M 3 (.inl (4, List.set [.ref 4, .int (nI l.length)] 1 (.int 0)))) _ _ _ at hl1
  generalize kz_up M 3 (.inl (4, List.set [.ref 4, .int (nI l.length)] 1 (.int 0))) = M0 at J C1 hl1 ⊢
  refine ⟨_, _, hl1.1, rfl, ?_⟩
  have key : ∀ i, i ≤ ((o_ws O j).2.2.2.2 k).2.1 - ((o_ws O j).2.2.2.2 k).1 → ∀ M1, ow_Cf M M1 → ow_CI M1 O hn h sv isS er ea n b (ow_pl (o_ws O j).2.2.1.2.2.1 ((o_ws O j).2.2.2.2 k).1 i) → zX11_printLine_21 G d mc ms Qr Qx 0 a (nI (((o_ws O j).2.2.2.2 k).1 + i)) M1 (0 + 2) (0 + 12) := by
    refine ow_loop (((o_ws O j).2.2.2.2 k).2.1 - ((o_ws O j).2.2.2.2 k).1) ?_ ?_
    · intro M1 C J1
      have hl2 := hl.keep C.1
      exact rX11_printLine_21 (by omega) (by omega) ⟨_, _, hl2.1, rfl, ow_y (nI_le (by omega) (by omega)) ⟨_, _, J1.1, rfl, _, _, J1.out.1, rfl, q1 j k hj e hk ek M1 C J1⟩⟩
    · intro i hi ih M1 C J1
      have hl2 := hl.keep C.1
      have len := ow_pl_len (o_ws O j).2.2.1.2.2.1 ((o_ws O j).2.2.2.2 k).1 i
      have mono := ow_lt_mono (o_ws O j).2.2.1.2.2.1 ((o_ws O j).2.2.2.2 k).1 (show ((o_ws O j).2.2.2.2 k).1 + i ≤ ((o_ws O j).2.2.2.2 k).2.1 by omega)
      unfold ow_wd at h2
      refine rX11_printLine_21 (by omega) (by omega) ⟨_, _, hl2.1, rfl, ow_n (nI_ge (by omega) (by omega)) ⟨_, _, J1.1, rfl, J1.out.ob, c_separate J1.out (by omega) fun M2 g1 g2 g3 => ⟨rfl, ?_⟩⟩⟩
      have J2 := J1.prt g1 g2 g3
      have C2 := C.trans (ow_inT_cf g1 g2)
      have hl3 := hl.keep C2.1
      have hs3 := hs.keep C2.1
      obtain ⟨c, c1, c2, c3⟩ := hW.1.2.2.2 (((o_ws O j).2.2.2.2 k).1 + i) (by omega)
      have c4 : ow_cd ((o_ws O j).2.2.1.2.2.1 (((o_ws O j).2.2.2.2 k).1 + i)) = c := by rw [c3]; exact ow_tn c2
      have c5 : ow_lw ((o_ws O j).2.2.1.2.2.1 (((o_ws O j).2.2.2.2 k).1 + i)) = ow_ln c := by unfold ow_lw; rw [c3, ow_tn c2]
      have hc12 := ow_ln_le c
      refine ⟨_, _, J2.1, rfl, _, _, hl3.1, rfl, hs3.ob, c_wordAt hs3 (by omega) (by omega) ⟨_, rfl, J2.out.ob, ?_⟩⟩
      rw [c3]
      have sl := sp_sep_len (ow_pl (o_ws O j).2.2.1.2.2.1 ((o_ws O j).2.2.2.2 k).1 i)
      unfold sp_sep at sl
      refine c_writeWord J2.out c2 (by omega) fun M3 k1 k2 k3 => ⟨rfl, ?_⟩
      rw [nI_1]
      refine ih M3 (C2.trans (ow_inT_cf k1 k2)) ?_
      have J3 := J2.prt k1 k2 k3
      rw [ow_pl, c4, c5]
      exact J3
  exact key 0 (Nat.zero_le _) M0 C1 J
end OWK
