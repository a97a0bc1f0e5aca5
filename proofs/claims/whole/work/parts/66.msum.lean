/-! Part 66: the reference: sums over lines and works -/
theorem mo_in0 : vp_in (0 : Int32) 3813 := vp_in_nI (show 0 < 3813 by omega) (by omega)
theorem mo_in1 : vp_in (1 : Int32) 3813 := vp_in_nI (show 1 < 3813 by omega) (by omega)
theorem mo_in2 : vp_in (2 : Int32) 3813 := vp_in_nI (show 2 < 3813 by omega) (by omega)
theorem mo_in3 : vp_in (3 : Int32) 3813 := vp_in_nI (show 3 < 3813 by omega) (by omega)
theorem mo_in4 : vp_in (4 : Int32) 3813 := vp_in_nI (show 4 < 3813 by omega) (by omega)
theorem mo_W.at0 {O : ow_O} {f : Nat → Int32} {g : Nat → Int64} (W : mo_W O f g 0 0) : f (0 : Int32).toNatClampNeg = nI (o_nw O) := W.1.1
theorem mo_W.at1 {O : ow_O} {f : Nat → Int32} {g : Nat → Int64} (W : mo_W O f g 0 0) : f (1 : Int32).toNatClampNeg = nI (o_wk O) := W.1.2.1
theorem mo_W.at2 {O : ow_O} {f : Nat → Int32} {g : Nat → Int64} (W : mo_W O f g 0 0) : f (2 : Int32).toNatClampNeg = nI (o_dy O) := W.1.2.2.1
theorem mo_W.at3 {O : ow_O} {f : Nat → Int32} {g : Nat → Int64} (W : mo_W O f g 0 0) : f (3 : Int32).toNatClampNeg = nI (o_mo O) := W.1.2.2.2.1
theorem mo_W.at4 {O : ow_O} {f : Nat → Int32} {g : Nat → Int64} (W : mo_W O f g 0 0) : f (4 : Int32).toNatClampNeg = nI (o_ne O) := W.1.2.2.2.2
theorem mo_W.ru {O : ow_O} {f : Nat → Int32} {g : Nat → Int64} {i : Nat} (W : mo_W O f g 0 0) (hi : i < 10) : f (5 + i) = nI (o_ru O i) := by
  have := W.2.1 i hi
  rw [Nat.zero_add] at this
  exact this
theorem mo_W.ba {O : ow_O} {f : Nat → Int32} {g : Nat → Int64} {i : Nat} (W : mo_W O f g 0 0) (hi : i < o_nw O) : f (21 + i) = o_ba O i := by
  have := (W.2.2.1 i hi).2.1
  rw [Nat.zero_add] at this
  exact this
theorem mo_W.pd {O : ow_O} {f : Nat → Int32} {g : Nat → Int64} {i : Nat} (W : mo_W O f g 0 0) (hi : i < o_nw O) : f (27 + i) = o_pd O i := by
  have := (W.2.2.1 i hi).2.2
  rw [Nat.zero_add] at this
  exact this
theorem mo_W.nm {O : ow_O} {f : Nat → Int32} {g : Nat → Int64} {i : Nat} (W : mo_W O f g 0 0) (hi : i < o_nw O) : f (15 + i) = nI (mo_nm (o_nm O i)) := by
  have := (W.2.2.1 i hi).1
  rw [Nat.zero_add] at this
  exact this
theorem mo_W.le {O : ow_O} {f : Nat → Int32} {g : Nat → Int64} {i : Nat} (W : mo_W O f g 0 0) (hi : i < 4 * o_ne O) : f (3693 + i) = o_le O i := by
  have := W.2.2.2.2 i hi
  rw [Nat.zero_add] at this
  exact this
theorem ow_cn_all (n : Nat) : ow_cn (fun _ => true) n = n := by
  induction n with
  | zero => rfl
  | succ n ih => rw [ow_cn, ih]; rfl
theorem ow_wl_0 (w : ow_W) : ow_wl 0 w = w.2.2.2.1 := ow_cn_all _
def mu_st (w : ow_W) (st n : Nat) : Nat := ow_cn (fun l => decide ((w.2.2.2.2 l).2.2.2.2.2 = st)) n
theorem mu_st_2 (w : ow_W) : mu_st w 2 w.2.2.2.1 = ow_wl 3 w := rfl
theorem mu_st_3 (w : ow_W) : mu_st w 3 w.2.2.2.1 = ow_wl 4 w := rfl
def mu_sts (O : ow_O) (v st n : Nat) : Nat := ow_sn (fun i => if (o_ws O i).1 = v then mu_st (o_ws O i) st (o_ws O i).2.2.2.1 else 0) n
theorem mu_sts_2 (O : ow_O) (v : Nat) : mu_sts O v 2 (o_wk O) = o_ln O (fun w => decide (w = v)) 3 := ow_sn_ext fun i _ => by
  by_cases h : (o_ws O i).1 = v
  · rw [if_pos h, if_pos (decide_eq_true h), mu_st_2]
  · rw [if_neg h, if_neg (by simp [h])]
theorem mu_sts_3 (O : ow_O) (v : Nat) : mu_sts O v 3 (o_wk O) = o_ln O (fun w => decide (w = v)) 4 := ow_sn_ext fun i _ => by
  by_cases h : (o_ws O i).1 = v
  · rw [if_pos h, if_pos (decide_eq_true h), mu_st_3]
  · rw [if_neg h, if_neg (by simp [h])]
theorem ow_cn_not (p : Nat → Bool) : ∀ n, ow_cn p n + ow_cn (fun i => !p i) n = n
  | 0 => rfl
  | n + 1 => by
    have := ow_cn_not p n
    rw [ow_cn, ow_cn]
    cases p n <;> simp <;> omega
theorem ow_sn_add (f g : Nat → Nat) : ∀ n, ow_sn (fun i => f i + g i) n = ow_sn f n + ow_sn g n
  | 0 => rfl
  | n + 1 => by
    have := ow_sn_add f g n
    rw [ow_sn, ow_sn, ow_sn, this]
    omega
/-- lines that don't stand as handed in, were caught -/
theorem mu_caught {O : ow_O} (h : ow_Ok2 O) (v : Nat) : o_ln O (fun w => decide (w = v)) 2 + mu_sts O v 0 (o_wk O) = o_ln O (fun w => decide (w = v)) 0 := by
  unfold o_ln mu_sts
  rw [← ow_sn_add]
  refine ow_sn_ext fun i hi => ?_
  by_cases hv : (o_ws O i).1 = v
  · rw [if_pos (decide_eq_true hv), if_pos hv, if_pos (decide_eq_true hv), ow_wl_0]
    unfold ow_wl mu_st
    rw [ow_cn_ext (p := fun i_1 => ow_of 2 ((o_ws O i).2.2.2.2 i_1)) (q := fun l => !decide (((o_ws O i).2.2.2.2 l).2.2.2.2.2 = 0)) fun l hl => ?_]
    · rw [Nat.add_comm]
      exact ow_cn_not _ _
    · have := ((h.2.2.2 i hi).2 l hl).2.1
      show decide (((o_ws O i).2.2.2.2 l).2.2.2.2.1 ≠ 0) = _
      by_cases h0 : ((o_ws O i).2.2.2.2 l).2.2.2.2.1 = 0
      · rw [decide_eq_false (fun z => z h0), decide_eq_true (this.mpr h0)]; rfl
      · rw [decide_eq_true h0, decide_eq_false (fun z => h0 (this.mp z))]; rfl
  · rw [if_neg (by simp [hv]), if_neg hv, if_neg (by simp [hv])]
theorem mu_neg {v : Nat} (hv : v < 2 ^ 31) : ¬ nI v = ((-1) : Int32) := fun z => by
  have h2 : (nI v).toInt = (-1 : Int32).toInt := congrArg Int32.toInt z
  rw [nI_toInt hv] at h2
  have h3 : ((-1 : Int32)).toInt = -1 := by decide
  omega
/-- whose lines: of one writer, or of all -/
def mo_who (o : Option Nat) : Int32 := match o with
  | none => -1
  | some v => nI v
def mo_p (o : Option Nat) : Nat → Bool := match o with
  | none => fun _ => true
  | some v => fun w => decide (w = v)
section MOA
variable {G : kz_G} {d : Nat} {Qr : Option Value → kz_M → Prop} {Qx : String → kz_M → Prop} {M : kz_M} {O : ow_O} {s : Nat → Int32} {rb : Int64} {f : Nat → Int32} {g : Nat → Int64}
theorem m_linesInAll {o : Option Nat} (D : mo_D M s rb f g) (W : mo_W O f g 0 0) (hO : ow_Ok1 O) (ho : ∀ v, o = some v → v < 2 ^ 31) (q : Qr (some (.int (nI (o_ln O (mo_p o) 0)))) M) : kz_C G (d + 2) 0 0 mX12_linesInAll [.ref 99, .int (mo_who o)] M Qr Qx := by
  have hwk := hO.1.2.2.2.1
  refine rX12_linesInAll_0 (ow_loop (P := fun i => zX12_linesInAll_4 G d Qr Qx 99 (mo_who o) (nI (ow_sn (fun i => if mo_p o (o_ws O i).1 then ow_wl 0 (o_ws O i) else 0) i)) (nI i) M) (o_wk O) ?_ ?_ 0 (Nat.zero_le _))
  · refine rX12_linesInAll_4 ⟨_, _, D.1, rfl, _, _, D.2.1, mo_in1, ?_⟩
    rw [W.at1]
    exact ow_y (nI_le (Nat.le_refl _) (by omega)) q
  · intro i hi ih
    have h60 := (hO.2.2.2 i hi).2.1
    rw [ow_sn] at ih
    refine rX12_linesInAll_4 ⟨_, _, D.1, rfl, _, _, D.2.1, mo_in1, ?_⟩
    rw [W.at1]
    refine ow_n (nI_ge hi (by omega)) ?_
    cases o with
    | none =>
      refine ow_y rfl ⟨D.ob, m_of (k := 4) D (by omega) (by omega) (W.ww hi).2.2.2.2.1 ⟨_, rfl, ?_⟩⟩
      rw [nI_1, nI_add]
      rw [if_pos (show mo_p none (o_ws O i).1 = true from rfl), ow_wl_0] at ih
      exact ih
    | some v =>
      have hv := ho v rfl
      refine ow_n (mu_neg hv) ⟨D.ob, m_isBy D W hO hi hv ⟨_, rfl, ow_if0 (fun hz => ?_) (fun hz => ⟨D.ob, m_of (k := 4) D (by omega) (by omega) (W.ww hi).2.2.2.2.1 ⟨_, rfl, ?_⟩⟩)⟩⟩
      · rw [nI_1, ow_add0]
        rw [if_neg (show ¬ mo_p (some v) (o_ws O i).1 = true by show ¬ decide _ = true; rw [hz]; decide)] at ih
        exact ih
      · rw [nI_1, nI_add]
        rw [if_pos (show mo_p (some v) (o_ws O i).1 = true from hz), ow_wl_0] at ih
        exact ih
theorem m_countingIn {v : Nat} (D : mo_D M s rb f g) (W : mo_W O f g 0 0) (hO : ow_Ok1 O) (hv : v < o_wk O) (q : Qr (some (.int (nI (ow_wl 1 (o_ws O v))))) M) : kz_C G (d + 3) 0 0 mX12_countingIn [.ref 99, .int (nI v)] M Qr Qx := by
  have hwk := hO.1.2.2.2.1
  have h60 := (hO.2.2.2 v hv).2.1
  refine rX12_countingIn_0 (ow_loop (P := fun l => zX12_countingIn_4 G d Qr Qx 99 (nI v) (nI (ow_cn (fun i => ow_of 1 ((o_ws O v).2.2.2.2 i)) l)) (nI l) M) (o_ws O v).2.2.2.1 ?_ ?_ 0 (Nat.zero_le _))
  · exact rX12_countingIn_4 ⟨D.ob, m_of (k := 4) D (by omega) (by omega) (W.ww hv).2.2.2.2.1 ⟨_, rfl, ow_y (nI_le (Nat.le_refl _) (by omega)) q⟩⟩
  · intro l hl ih
    rw [ow_cn] at ih
    refine rX12_countingIn_4 ⟨D.ob, m_of (k := 4) D (by omega) (by omega) (W.ww hv).2.2.2.2.1 ⟨_, rfl, ow_n (nI_ge hl (by omega)) ⟨D.ob, m_counts D W hO hv hl ⟨_, rfl, ow_if0 (fun hz => ?_) (fun hz => ?_)⟩⟩⟩⟩
    · rw [nI_1, ow_add0]
      rw [if_neg (show ¬ ow_of 1 ((o_ws O v).2.2.2.2 l) = true by show ¬ ow_cts _ = true; rw [hz]; decide)] at ih
      exact ih
    · rw [nI_1, nI_1]
      rw [if_pos (show ow_of 1 ((o_ws O v).2.2.2.2 l) = true from hz)] at ih
      exact ih
theorem m_countingInAll {o : Option Nat} (D : mo_D M s rb f g) (W : mo_W O f g 0 0) (hO : ow_Ok1 O) (ho : ∀ v, o = some v → v < 2 ^ 31) (q : Qr (some (.int (nI (o_ln O (mo_p o) 1)))) M) : kz_C G (d + 4) 0 0 mX12_countingInAll [.ref 99, .int (mo_who o)] M Qr Qx := by
  have hwk := hO.1.2.2.2.1
  refine rX12_countingInAll_0 (ow_loop (P := fun i => zX12_countingInAll_4 G d Qr Qx 99 (mo_who o) (nI (ow_sn (fun i => if mo_p o (o_ws O i).1 then ow_wl 1 (o_ws O i) else 0) i)) (nI i) M) (o_wk O) ?_ ?_ 0 (Nat.zero_le _))
  · refine rX12_countingInAll_4 ⟨_, _, D.1, rfl, _, _, D.2.1, mo_in1, ?_⟩
    rw [W.at1]
    exact ow_y (nI_le (Nat.le_refl _) (by omega)) q
  · intro i hi ih
    rw [ow_sn] at ih
    refine rX12_countingInAll_4 ⟨_, _, D.1, rfl, _, _, D.2.1, mo_in1, ?_⟩
    rw [W.at1]
    refine ow_n (nI_ge hi (by omega)) ?_
    cases o with
    | none =>
      refine ow_y rfl ⟨D.ob, m_countingIn D W hO hi ⟨_, rfl, ?_⟩⟩
      rw [nI_1, nI_add]
      rw [if_pos (show mo_p none (o_ws O i).1 = true from rfl)] at ih
      exact ih
    | some v =>
      have hv := ho v rfl
      refine ow_n (mu_neg hv) ⟨D.ob, m_isBy D W hO hi hv ⟨_, rfl, ow_if0 (fun hz => ?_) (fun hz => ⟨D.ob, m_countingIn D W hO hi ⟨_, rfl, ?_⟩⟩)⟩⟩
      · rw [nI_1, ow_add0]
        rw [if_neg (show ¬ mo_p (some v) (o_ws O i).1 = true by show ¬ decide _ = true; rw [hz]; decide)] at ih
        exact ih
      · rw [nI_1, nI_add]
        rw [if_pos (show mo_p (some v) (o_ws O i).1 = true from hz)] at ih
        exact ih
theorem m_worksOf {v : Nat} (D : mo_D M s rb f g) (W : mo_W O f g 0 0) (hO : ow_Ok1 O) (hv : v < 2 ^ 31) (q : Qr (some (.int (nI (ow_cn (fun i => decide ((o_ws O i).1 = v)) (o_wk O))))) M) : kz_C G (d + 2) 0 0 mX12_worksOf [.ref 99, .int (nI v)] M Qr Qx := by
  have hwk := hO.1.2.2.2.1
  refine rX12_worksOf_0 (ow_loop (P := fun i => zX12_worksOf_4 G d Qr Qx 99 (nI v) (nI (ow_cn (fun i => decide ((o_ws O i).1 = v)) i)) (nI i) M) (o_wk O) ?_ ?_ 0 (Nat.zero_le _))
  · refine rX12_worksOf_4 ⟨_, _, D.1, rfl, _, _, D.2.1, mo_in1, ?_⟩
    rw [W.at1]
    exact ow_y (nI_le (Nat.le_refl _) (by omega)) q
  · intro i hi ih
    rw [ow_cn] at ih
    refine rX12_worksOf_4 ⟨_, _, D.1, rfl, _, _, D.2.1, mo_in1, ?_⟩
    rw [W.at1]
    refine ow_n (nI_ge hi (by omega)) ⟨D.ob, m_isBy D W hO hi hv ⟨_, rfl, ow_if0 (fun hz => ?_) (fun hz => ?_)⟩⟩
    · rw [nI_1, ow_add0]
      rw [if_neg (by rw [hz]; decide)] at ih
      exact ih
    · rw [nI_1, nI_1]
      rw [if_pos hz] at ih
      exact ih
theorem m_inState {v st : Nat} (D : mo_D M s rb f g) (W : mo_W O f g 0 0) (hO : ow_Ok1 O) (hv : v < 2 ^ 31) (hst : st ≤ 3) (q : Qr (some (.int (nI (mu_sts O v st (o_wk O))))) M) : kz_C G (d + 2) 0 0 mX12_inState [.ref 99, .int (nI v), .int (nI st)] M Qr Qx := by
  have hwk := hO.1.2.2.2.1
  refine rX12_inState_0 (ow_loop (P := fun i => zX12_inState_5 G d Qr Qx 99 (nI v) (nI st) (nI (mu_sts O v st i)) (nI i) M) (o_wk O) ?_ ?_ 0 (Nat.zero_le _))
  · refine rX12_inState_5 ⟨_, _, D.1, rfl, _, _, D.2.1, mo_in1, ?_⟩
    rw [W.at1]
    exact ow_y (nI_le (Nat.le_refl _) (by omega)) q
  · intro i hi ih
    have hW := hO.2.2.2 i hi
    have h60 := hW.2.1
    unfold mu_sts at ih ⊢
    rw [ow_sn] at ih
    refine rX12_inState_5 ⟨_, _, D.1, rfl, _, _, D.2.1, mo_in1, ?_⟩
    rw [W.at1]
    refine ow_n (nI_ge hi (by omega)) ⟨D.ob, m_isBy D W hO hi hv ⟨_, rfl, ow_ifn (fun hz => ?_) (fun hz => ?_)⟩⟩
    · rw [if_pos (of_decide_eq_true hz)] at ih
      refine ow_loop (P := fun l => zX12_inState_32 G d Qr Qx 99 (nI v) (nI st) (nI (ow_sn (fun i => if (o_ws O i).1 = v then mu_st (o_ws O i) st (o_ws O i).2.2.2.1 else 0) i + mu_st (o_ws O i) st l)) (nI i) (nI l) M) (o_ws O i).2.2.2.1 ?_ ?_ 0 (Nat.zero_le _)
      · refine rX12_inState_32 ⟨D.ob, m_of (k := 4) D (by omega) (by omega) (W.ww hi).2.2.2.2.1 ⟨_, rfl, ow_y (nI_le (Nat.le_refl _) (by omega)) ?_⟩⟩
        rw [nI_1]; exact ih
      · intro l hl ih2
        have hL := (hW.2.2.2.2 l hl).2.2.2
        rw [show mu_st (o_ws O i) st (l + 1) = mu_st (o_ws O i) st l + (if decide (((o_ws O i).2.2.2.2 l).2.2.2.2.2 = st) then 1 else 0) from rfl, ← Nat.add_assoc] at ih2
        refine rX12_inState_32 ⟨D.ob, m_of (k := 4) D (by omega) (by omega) (W.ww hi).2.2.2.2.1 ⟨_, rfl, ow_n (nI_ge hl (by omega)) ⟨D.ob, m_ofL (k := 2) D (by omega) (by omega) (by omega) (W.ln hi hl).2.2.1 ⟨_, rfl, (pk_eq ((o_ws O i).2.2.2.2 l).2.2.2.2.2 st (fun he => ?_) (fun he => ?_) rfl rfl).symm⟩⟩⟩⟩
        · rw [if_pos (decide_eq_true he)] at ih2
          rw [nI_1, nI_1]; exact ih2
        · rw [if_neg (by simp [he])] at ih2
          rw [nI_1, ow_add0]; exact ih2
    · rw [if_neg (of_decide_eq_false hz), Nat.add_zero] at ih
      rw [nI_1]; exact ih
theorem m_caughtOf {v : Nat} (D : mo_D M s rb f g) (W : mo_W O f g 0 0) (hO : ow_Ok2 O) (hv : v < 2 ^ 31) (q : Qr (some (.int (nI (o_ln O (fun w => decide (w = v)) 2)))) M) : kz_C G (d + 3) 0 0 mX12_caughtOf [.ref 99, .int (nI v)] M Qr Qx := by
  have hc := mu_caught hO v
  refine rX12_caughtOf_0 ⟨D.ob, m_linesInAll (o := some v) D W hO.1 (fun w hw => by cases hw; exact hv) ⟨_, rfl, D.ob, m_inState (st := 0) D W hO.1 hv (by omega) ⟨_, rfl, ?_⟩⟩⟩
  rw [show mo_p (some v) = fun w => decide (w = v) from rfl, pk_sub (by omega), show o_ln O (fun w => decide (w = v)) 0 - mu_sts O v 0 (o_wk O) = o_ln O (fun w => decide (w = v)) 2 by omega]
  exact q
theorem m_above (D : mo_D M s rb f g) (W : mo_W O f g 0 0) (hO : ow_Ok1 O) (q : Qr (some (.int (o_owed O))) M) : kz_C G (d + 1) 0 0 mX12_balancesAbove [.ref 99] M Qr Qx := by
  have hnw := hO.1.2.2.1
  refine rX12_balancesAbove_0 (ow_loop (P := fun i => zX12_balancesAbove_4 G d Qr Qx 99 (ow_sm (fun i => if 0 < o_ba O i then o_ba O i else 0) i) (nI i) M) (o_nw O) ?_ ?_ 0 (Nat.zero_le _))
  · refine rX12_balancesAbove_4 ⟨_, _, D.1, rfl, _, _, D.2.1, mo_in0, ?_⟩
    rw [W.at0]
    exact ow_y (nI_le (Nat.le_refl _) (by omega)) q
  · intro i hi ih
    rw [ow_sm] at ih
    refine rX12_balancesAbove_4 ⟨_, _, D.1, rfl, _, _, D.2.1, mo_in0, ?_⟩
    rw [W.at0]
    refine ow_n (nI_ge hi (by omega)) ⟨_, _, D.1, rfl, _, _, D.2.1, ?_⟩
    rw [show (21 : Int32) + nI i = nI (21 + i) from nI_add 21 i, nI_clamp (by omega), W.ba hi, nI_1]
    exact ⟨vp_in_nI (by omega) (by omega), ih⟩
theorem m_paysNow {v : Nat} (D : mo_D M s rb f g) (W : mo_W O f g 0 0) (hO : ow_Ok1 O) (hv : v < o_wk O) (q : Qr (some (.int (ow_wp (o_ws O v)))) M) : kz_C G (d + 3) 0 0 mX12_paysNow [.ref 99, .int (nI v)] M Qr Qx := by
  have hwk := hO.1.2.2.2.1
  have h60 := (hO.2.2.2 v hv).2.1
  refine rX12_paysNow_0 (ow_loop (P := fun l => zX12_paysNow_4 G d Qr Qx 99 (nI v) (ow_sm (fun i => if ow_cts ((o_ws O v).2.2.2.2 i) then ((o_ws O v).2.2.2.2 i).2.2.2.1 else 0) l) (nI l) M) (o_ws O v).2.2.2.1 ?_ ?_ 0 (Nat.zero_le _))
  · exact rX12_paysNow_4 ⟨D.ob, m_of (k := 4) D (by omega) (by omega) (W.ww hv).2.2.2.2.1 ⟨_, rfl, ow_y (nI_le (Nat.le_refl _) (by omega)) q⟩⟩
  · intro l hl ih
    rw [ow_sm] at ih
    refine rX12_paysNow_4 ⟨D.ob, m_of (k := 4) D (by omega) (by omega) (W.ww hv).2.2.2.2.1 ⟨_, rfl, ow_n (nI_ge hl (by omega)) ⟨D.ob, m_counts D W hO hv hl ⟨_, rfl, ow_if0 (fun hz => ?_) (fun hz => ⟨D.ob, m_ofL (k := 4) D (by omega) (by omega) (by omega) (W.ln hv hl).2.2.2.2 ⟨_, rfl, ?_⟩⟩)⟩⟩⟩⟩
    · rw [nI_1]
      rw [if_neg (by rw [hz]; decide)] at ih
      exact ih
    · rw [nI_1]
      rw [if_pos hz] at ih
      exact ih
end MOA
