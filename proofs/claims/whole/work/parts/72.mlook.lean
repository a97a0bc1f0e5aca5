/-! Part 72: the reference: a row's lines are looked at -/
theorem ow_ex_s (p : Nat → Bool) (n : Nat) : ow_ex p (n + 1) = (ow_ex p n || p n) := by
  cases h : ow_ex p (n + 1) with
  | true =>
    obtain ⟨i, hi, hp⟩ := ow_ex_iff.mp h
    rcases Nat.lt_or_ge i n with h1 | h1
    · rw [ow_ex_iff.mpr ⟨i, h1, hp⟩]; rfl
    · have : i = n := by omega
      subst this
      rw [hp, Bool.or_true]
  | false =>
    have h1 := ow_ex_f.mp h
    rw [ow_ex_f.mpr fun i hi => h1 i (by omega), h1 n (by omega)]
    rfl
theorem ow_hl_pa (k : Nat) (P : ow_P) (s : ow_S) (l : ow_L) (t : ow_S) (o : ow_L) : ow_hl (k + 1) (ow_pa k P s l) t o = (ow_hl k P t o || ow_lk s l t o) := by
  unfold ow_hl
  rw [ow_ex_s]
  have e : ow_pa k P s l k = (s, l) := if_pos rfl
  rw [e, ow_ex_congr (r := fun i => ow_lk (P i).1 (P i).2 t o) fun i hi => ?_]
  show ow_lk (ow_pa k P s l i).1 (ow_pa k P s l i).2 t o = _
  have : ow_pa k P s l i = P i := if_neg (by omega)
  rw [this]
theorem ow_hl_cl (w : ow_W) (z : Nat × ow_P) (t : ow_S) (o : ow_L) : ∀ n, ow_hl (ow_cl w z n).1 (ow_cl w z n).2 t o = (ow_hl z.1 z.2 t o || ow_ex (fun m => ow_cts (w.2.2.2.2 m) && ow_lk w.2.2.1 (w.2.2.2.2 m) t o) n)
  | 0 => by
    show ow_hl z.1 z.2 t o = (_ || false)
    rw [Bool.or_false]
  | n + 1 => by
    have ih := ow_hl_cl w z t o n
    rw [ow_cl, ow_ex_s]
    by_cases hc : ow_cts (w.2.2.2.2 n) = true
    · rw [if_pos hc, if_pos hc, ow_hl_pa, ih, hc, Bool.true_and, Bool.or_assoc]
    · have hc2 : ow_cts (w.2.2.2.2 n) = false := by simpa using hc
      rw [if_neg hc, if_neg hc, Nat.add_zero, ih, hc2, Bool.false_and, Bool.or_false]
def mu_old (O : ow_O) (v e : Nat) (t : ow_S) (o : ow_L) : Bool := ow_ex (fun u => decide ((o_ws O u).1 = v) && ow_ex (fun m => ow_cts ((o_ws O u).2.2.2.2 m) && ow_lk (o_ws O u).2.2.1 ((o_ws O u).2.2.2.2 m) t o) (o_ws O u).2.2.2.1) e
theorem ow_hl_co (O : ow_O) (v : Nat) (t : ow_S) (o : ow_L) : ∀ e, ow_hl (ow_co O v e).1 (ow_co O v e).2 t o = mu_old O v e t o
  | 0 => rfl
  | e + 1 => by
    have ih := ow_hl_co O v t o e
    unfold mu_old at ih ⊢
    rw [ow_ex_s, ow_co]
    by_cases hc : (o_ws O e).1 = v
    · rw [if_pos hc, ow_hl_cl, ih, decide_eq_true hc, Bool.true_and]
    · rw [if_neg hc, ih, decide_eq_false hc, Bool.false_and, Bool.or_false]
def mu_own (S : ow_S) (L : Nat → ow_L) (i : Nat) (o : ow_L) : Bool := ow_ex (fun j => decide ((L j).2.2.2.2.1 = 0) && ow_lk S (L j) S o) i
def mu_ownw (S : ow_S) (L : Nat → ow_L) (i : Nat) (x : Int64) : Nat := ow_cn (fun j => decide ((L j).2.2.2.2.1 = 0) && ow_has S (L j) x) i
/-- the lines of a judged draft -/
def mu_jl (S : ow_S) (me : Nat) (rate : Int32) (st wo : Nat) (z : Nat × ow_P) (i : Nat) : ow_L := ow_jl S me rate st wo (ow_jd S me rate st wo z i) i
theorem mu_jl_cts (S : ow_S) (me : Nat) (rate : Int32) (st wo : Nat) (z : Nat × ow_P) (i : Nat) : ow_cts (mu_jl S me rate st wo z i) = decide ((mu_jl S me rate st wo z i).2.2.2.2.1 = 0) := by
  show ow_cts (ow_jl S me rate st wo (ow_jd S me rate st wo z i) i) = decide (ow_rs (ow_jd S me rate st wo z i).1 (ow_jd S me rate st wo z i).2 S (ow_l0 S me rate i) st wo = 0)
  unfold ow_cts ow_jl
  by_cases h : ow_rs (ow_jd S me rate st wo z i).1 (ow_jd S me rate st wo z i).2 S (ow_l0 S me rate i) st wo = 0
  · rw [if_pos h, decide_eq_true h]; rfl
  · rw [if_neg h, decide_eq_false h]; rfl
theorem ow_hl_jd (S : ow_S) (me : Nat) (rate : Int32) (st wo : Nat) (z : Nat × ow_P) (t : ow_S) (o : ow_L) : ∀ n, ow_hl (ow_jd S me rate st wo z n).1 (ow_jd S me rate st wo z n).2 t o = (ow_hl z.1 z.2 t o || ow_ex (fun j => decide ((mu_jl S me rate st wo z j).2.2.2.2.1 = 0) && ow_lk S (mu_jl S me rate st wo z j) t o) n)
  | 0 => by
    show ow_hl z.1 z.2 t o = (_ || false)
    rw [Bool.or_false]
  | n + 1 => by
    have ih := ow_hl_jd S me rate st wo z t o n
    rw [ow_ex_s, ← mu_jl_cts, ow_jd]
    show ow_hl ((ow_jd S me rate st wo z n).1 + (if ow_cts (mu_jl S me rate st wo z n) then 1 else 0)) (if ow_cts (mu_jl S me rate st wo z n) then ow_pa (ow_jd S me rate st wo z n).1 (ow_jd S me rate st wo z n).2 S (mu_jl S me rate st wo z n) else (ow_jd S me rate st wo z n).2) t o = _
    cases hc : ow_cts (mu_jl S me rate st wo z n) with
    | true => rw [if_pos rfl, if_pos rfl, ow_hl_pa, ih, Bool.true_and, Bool.or_assoc]
    | false => rw [if_neg (by decide), if_neg (by decide), Nat.add_zero, ih, Bool.false_and, Bool.or_false]
theorem ow_lw_jd (S : ow_S) (me : Nat) (rate : Int32) (st wo : Nat) (z : Nat × ow_P) (x : Int64) : ∀ n, ow_lw_ (ow_jd S me rate st wo z n).1 (ow_jd S me rate st wo z n).2 x = ow_lw_ z.1 z.2 x + ow_cn (fun j => decide ((mu_jl S me rate st wo z j).2.2.2.2.1 = 0) && ow_has S (mu_jl S me rate st wo z j) x) n
  | 0 => rfl
  | n + 1 => by
    have ih := ow_lw_jd S me rate st wo z x n
    rw [ow_cn, ← mu_jl_cts, ow_jd]
    show ow_lw_ ((ow_jd S me rate st wo z n).1 + (if ow_cts (mu_jl S me rate st wo z n) then 1 else 0)) (if ow_cts (mu_jl S me rate st wo z n) then ow_pa (ow_jd S me rate st wo z n).1 (ow_jd S me rate st wo z n).2 S (mu_jl S me rate st wo z n) else (ow_jd S me rate st wo z n).2) x = _
    cases hc : ow_cts (mu_jl S me rate st wo z n) with
    | true => rw [if_pos rfl, if_pos rfl, ow_lw_pa, ih, Bool.true_and, Nat.add_assoc]
    | false => rw [if_neg (by decide), if_neg (by decide), Nat.add_zero, ih, Bool.false_and, if_neg (by decide), Nat.add_zero]
section MOA
variable {G : kz_G} {d : Nat} {Qr : Option Value → kz_M → Prop} {Qx : String → kz_M → Prop} {M : kz_M} {O : ow_O} {s : Nat → Int32} {rb : Int64} {f : Nat → Int32} {g : Nat → Int64} {S : ow_S} {n : Nat} {L : Nat → ow_L}
theorem m_isLike {i v m : Nat} (D : mo_D M s rb f g) (W : mo_W O f g 0 0) (hO : ow_Ok1 O) (hS : ow_Sok S) (R : mo_row M S s rb) (hL : mo_L M s rb n L) (hi : i < n) (ho : ow_Lok S (L i)) (hv : v < o_wk O) (hm : m < (o_ws O v).2.2.2.1) (q : Qr (some (.int (ow_b (ow_lk (o_ws O v).2.2.1 ((o_ws O v).2.2.2.2 m) S (L i))))) M) : kz_C G (d + 3) 0 0 mX12_isLike [.ref 99, .int (nI i), .int (nI v), .int (nI m)] M Qr Qx := by
  obtain ⟨r1, r2, gr, r3, r4⟩ := R
  obtain ⟨l1, l2, l3, ⟨f8, a8, b8⟩, ⟨f9, a9, b9⟩, -⟩ := hL
  have hwk := hO.1.2.2.2.1
  have hV := hO.2.2.2 v hv
  have v60 := hV.2.1
  have vn := hV.1.2.2.1
  have sn := hS.2.2.1
  have vm := hV.2.2.2.2 m hm
  have vm1 := vm.1
  have vm2 := vm.2.1
  have ho1 := ho.1
  have ho2 := ho.2.1
  refine rX12_isLike_0 ⟨D.ob, m_ofL (k := 1) D (by omega) (by omega) (by omega) (W.ln hv hm).2.1 ⟨_, rfl, _, _, l1, rfl, _, _, a9, vp_in_nI (by omega) (by omega), ?_⟩⟩
  rw [nI_clamp (by omega), b9 i hi]
  refine pk_eq (((o_ws O v).2.2.2.2 m).2.1 - ((o_ws O v).2.2.2.2 m).1) ((L i).2.1 - (L i).1) (fun he => ?_) (fun he => ?_) rfl rfl
  · have key : ∀ k, k ≤ (L i).2.1 - (L i).1 → (∀ j, j < k → (o_ws O v).2.2.1.2.2.1 (((o_ws O v).2.2.2.2 m).1 + j) = S.2.2.1 ((L i).1 + j)) → zX12_isLike_21 G d Qr Qx 99 (nI i) (nI v) (nI m) (nI k) M := by
      refine ow_loop ((L i).2.1 - (L i).1) ?_ ?_
      · intro hall
        refine rX12_isLike_21 ⟨_, _, l1, rfl, _, _, a9, vp_in_nI (by omega) (by omega), ?_⟩
        rw [nI_clamp (by omega), b9 i hi]
        refine ow_y (nI_le (Nat.le_refl _) (by omega)) ?_
        rw [ow_bt (by
          unfold ow_lk
          rw [decide_eq_true he, ow_ex_f.mpr fun j hj => by simp [hall j (by omega)]]
          rfl)] at q
        exact q
      · intro k hk ih hall
        refine rX12_isLike_21 ⟨_, _, l1, rfl, _, _, a9, vp_in_nI (by omega) (by omega), ?_⟩
        rw [nI_clamp (by omega), b9 i hi]
        refine ow_n (nI_ge hk (by omega)) ⟨D.ob, m_wordIn D W hO hv hm (by omega) ⟨_, rfl, _, _, l1, rfl, _, _, l1, rfl, _, _, a8, vp_in_nI (by omega) (by omega), _, _, r3, ?_⟩⟩
        rw [b8 i hi, nI_add, nI_clamp (by omega), r4 _ (by omega)]
        refine ⟨vp_in_nI (by omega) (by omega), fun hw => ?_, fun hw => ?_⟩
        · rw [nI_1]
          refine ih fun j hj => ?_
          rcases Nat.lt_or_ge j k with hjk | hjk
          · exact hall j hjk
          · have : j = k := by omega
            subst this; exact hw
        · rw [ow_bf (by
            unfold ow_lk
            rw [ow_ex_iff.mpr ⟨k, by omega, by simp [hw]⟩]
            simp)] at q
          exact q
    exact key 0 (Nat.zero_le _) fun j hj => absurd hj (Nat.not_lt_zero j)
  · rw [ow_bf (by unfold ow_lk; rw [decide_eq_false he]; rfl)] at q
    exact q
theorem m_isLikeOwn {i o : Nat} (hS : ow_Sok S) (R : mo_row M S s rb) (hL : mo_L M s rb n L) (hi : i < n) (hoi : o < n) (h1 : ow_Lok S (L i)) (h2 : ow_Lok S (L o)) (q : Qr (some (.int (ow_b (ow_lk S (L o) S (L i))))) M) : kz_C G d 0 0 mX12_isLikeOwn [.ref 99, .int (nI i), .int (nI o)] M Qr Qx := by
  obtain ⟨r1, r2, gr, r3, r4⟩ := R
  obtain ⟨l1, l2, l3, ⟨f8, a8, b8⟩, ⟨f9, a9, b9⟩, -⟩ := hL
  have sn := hS.2.2.1
  have i1 := h1.1
  have i2 := h1.2.1
  have o1 := h2.1
  have o2 := h2.2.1
  refine rX12_isLikeOwn_0 ⟨_, _, l1, rfl, _, _, a9, vp_in_nI (by omega) (by omega), _, _, l1, rfl, _, _, a9, vp_in_nI (by omega) (by omega), ?_⟩
  rw [nI_clamp (by omega), nI_clamp (by omega), b9 i hi, b9 o hoi]
  refine pk_eq ((L o).2.1 - (L o).1) ((L i).2.1 - (L i).1) (fun he => ?_) (fun he => ?_) rfl rfl
  · have key : ∀ k, k ≤ (L i).2.1 - (L i).1 → (∀ j, j < k → S.2.2.1 ((L o).1 + j) = S.2.2.1 ((L i).1 + j)) → zX12_isLikeOwn_19 G d Qr Qx 99 (nI i) (nI o) (nI k) M := by
      refine ow_loop ((L i).2.1 - (L i).1) ?_ ?_
      · intro hall
        refine rX12_isLikeOwn_19 ⟨_, _, l1, rfl, _, _, a9, vp_in_nI (by omega) (by omega), ?_⟩
        rw [nI_clamp (by omega), b9 i hi]
        refine ow_y (nI_le (Nat.le_refl _) (by omega)) ?_
        rw [ow_bt (by
          unfold ow_lk
          rw [decide_eq_true he, ow_ex_f.mpr fun j hj => by simp [hall j (by omega)]]
          rfl)] at q
        exact q
      · intro k hk ih hall
        refine rX12_isLikeOwn_19 ⟨_, _, l1, rfl, _, _, a9, vp_in_nI (by omega) (by omega), ?_⟩
        rw [nI_clamp (by omega), b9 i hi]
        refine ow_n (nI_ge hk (by omega)) ⟨_, _, l1, rfl, _, _, l1, rfl, _, _, a8, vp_in_nI (by omega) (by omega), _, _, r3, ?_⟩
        rw [nI_clamp (by omega), b8 o hoi, nI_add, nI_clamp (by omega), r4 _ (by omega)]
        refine ⟨vp_in_nI (by omega) (by omega), _, _, l1, rfl, _, _, l1, rfl, _, _, a8, vp_in_nI (by omega) (by omega), _, _, r3, ?_⟩
        rw [b8 i hi, nI_add, nI_clamp (by omega), r4 _ (by omega)]
        refine ⟨vp_in_nI (by omega) (by omega), fun hw => ?_, fun hw => ?_⟩
        · rw [nI_1]
          refine ih fun j hj => ?_
          rcases Nat.lt_or_ge j k with hjk | hjk
          · exact hall j hjk
          · have : j = k := by omega
            subst this; exact hw
        · rw [ow_bf (by
            unfold ow_lk
            rw [ow_ex_iff.mpr ⟨k, by omega, by simp [hw]⟩]
            simp)] at q
          exact q
    exact key 0 (Nat.zero_le _) fun j hj => absurd hj (Nat.not_lt_zero j)
  · rw [ow_bf (by unfold ow_lk; rw [decide_eq_false he]; rfl)] at q
    exact q
theorem m_manyIn {i : Nat} {x : Int64} (hS : ow_Sok S) (R : mo_row M S s rb) (hL : mo_L M s rb n L) (hi : i < n) (h1 : ow_Lok S (L i)) (q : Qr (some (.int (nI (ow_tm S.2.2.1 x (L i).1 (L i).2.1)))) M) : kz_C G d 0 0 mX12_manyIn [.ref 99, .int (nI i), .long x] M Qr Qx := by
  obtain ⟨r1, r2, gr, r3, r4⟩ := R
  obtain ⟨l1, l2, l3, ⟨f8, a8, b8⟩, ⟨f9, a9, b9⟩, -⟩ := hL
  have sn := hS.2.2.1
  have i1 := h1.1
  have i2 := h1.2.1
  have key := ow_loop (P := fun k => zX12_manyIn_6 G d Qr Qx 99 (nI i) x (nI (ow_tm S.2.2.1 x (L i).1 ((L i).1 + k))) (nI k) M) ((L i).2.1 - (L i).1) (by
    show zX12_manyIn_6 G d Qr Qx 99 (nI i) x (nI (ow_tm S.2.2.1 x (L i).1 ((L i).1 + ((L i).2.1 - (L i).1)))) (nI ((L i).2.1 - (L i).1)) M
    rw [show (L i).1 + ((L i).2.1 - (L i).1) = (L i).2.1 by omega]
    refine rX12_manyIn_6 ⟨_, _, l1, rfl, _, _, a9, vp_in_nI (by omega) (by omega), ?_⟩
    rw [nI_clamp (by omega), b9 i hi]
    exact ow_y (nI_le (Nat.le_refl _) (by omega)) q) (fun k hk ih => by
    rw [← Nat.add_assoc, ow_tm_s] at ih
    show zX12_manyIn_6 G d Qr Qx 99 (nI i) x (nI (ow_tm S.2.2.1 x (L i).1 ((L i).1 + k))) (nI k) M
    refine rX12_manyIn_6 ⟨_, _, l1, rfl, _, _, a9, vp_in_nI (by omega) (by omega), ?_⟩
    rw [nI_clamp (by omega), b9 i hi]
    refine ow_n (nI_ge hk (by omega)) ⟨_, _, l1, rfl, _, _, l1, rfl, _, _, a8, vp_in_nI (by omega) (by omega), _, _, r3, ?_⟩
    rw [b8 i hi, nI_add, nI_clamp (by omega), r4 _ (by omega)]
    refine ⟨vp_in_nI (by omega) (by omega), fun hw => ?_, fun hw => ?_⟩
    · rw [if_neg hw] at ih
      rw [nI_1, ow_add0]; exact ih
    · rw [if_pos hw] at ih
      rw [nI_1, nI_1]; exact ih) 0 (Nat.zero_le _)
  have e : ow_tm S.2.2.1 x (L i).1 ((L i).1 + 0) = 0 := ow_tm0 _ _ _
  rw [e] at key
  exact rX12_manyIn_0 key
theorem ow_tm_has (S : ow_S) (l : ow_L) (x : Int64) : ow_has S l x = decide (0 < ow_tm S.2.2.1 x l.1 l.2.1) := rfl
theorem m_isStuffed {i : Nat} (D : mo_D M s rb f g) (W : mo_W O f g 0 0) (hO : ow_Ok1 O) (hS : ow_Sok S) (R : mo_row M S s rb) (hL : mo_L M s rb n L) (hi : i < n) (h1 : ow_Lok S (L i)) (q : Qr (some (.int (ow_b (ow_stf S (L i) (o_ru O 1))))) M) : kz_C G (d + 1) 0 0 mX12_isStuffed [.ref 99, .int (nI i)] M Qr Qx := by
  have R0 := R
  have hL0 := hL
  obtain ⟨r1, r2, gr, r3, r4⟩ := R
  obtain ⟨l1, l2, l3, ⟨f8, a8, b8⟩, ⟨f9, a9, b9⟩, -⟩ := hL
  have sn := hS.2.2.1
  have i1 := h1.1
  have i2 := h1.2.1
  have hru := hO.2.1 1 (by omega)
  refine rX12_isStuffed_0 ?_
  have key : ∀ k, k ≤ (L i).2.1 - (L i).1 → (∀ j, j < k → ow_tm S.2.2.1 (S.2.2.1 ((L i).1 + j)) (L i).1 (L i).2.1 < o_ru O 1) → zX12_isStuffed_2 G d Qr Qx 99 (nI i) (nI k) M := by
    refine ow_loop ((L i).2.1 - (L i).1) ?_ ?_
    · intro hall
      refine rX12_isStuffed_2 ⟨_, _, l1, rfl, _, _, a9, vp_in_nI (by omega) (by omega), ?_⟩
      rw [nI_clamp (by omega), b9 i hi]
      refine ow_y (nI_le (Nat.le_refl _) (by omega)) ?_
      rw [ow_bf (by
        unfold ow_stf
        refine ow_ex_f.mpr fun k hk => ?_
        by_cases hk2 : (L i).1 ≤ k
        · have := hall (k - (L i).1) (by omega)
          rw [show (L i).1 + (k - (L i).1) = k by omega] at this
          rw [decide_eq_false (p := o_ru O 1 ≤ _) (by omega), Bool.and_false]
        · rw [decide_eq_false hk2]; rfl)] at q
      exact q
    · intro k hk ih hall
      have hle := ow_tm_le S.2.2.1 (S.2.2.1 ((L i).1 + k)) (L i).1 (L i).2.1
      refine rX12_isStuffed_2 ⟨_, _, l1, rfl, _, _, a9, vp_in_nI (by omega) (by omega), ?_⟩
      rw [nI_clamp (by omega), b9 i hi]
      refine ow_n (nI_ge hk (by omega)) ⟨_, _, l1, rfl, _, _, l1, rfl, _, _, a8, vp_in_nI (by omega) (by omega), _, _, r3, ?_⟩
      rw [b8 i hi, nI_add, nI_clamp (by omega), r4 _ (by omega)]
      refine ⟨vp_in_nI (by omega) (by omega), D.ob, m_manyIn hS R0 hL0 hi h1 ⟨_, rfl, D.ob, m_its (k := 1) D (by omega) (W.ru (by omega)) ⟨_, rfl, pk_lt (ow_tm S.2.2.1 (S.2.2.1 ((L i).1 + k)) (L i).1 (L i).2.1) (o_ru O 1) (fun hz => ?_) (fun hz => ?_) rfl rfl⟩⟩⟩
      · rw [nI_1]
        refine ih fun j hj => ?_
        rcases Nat.lt_or_ge j k with hjk | hjk
        · exact hall j hjk
        · have : j = k := by omega
          subst this; exact hz
      · rw [ow_bt (by
          unfold ow_stf
          exact ow_ex_iff.mpr ⟨(L i).1 + k, by omega, by rw [decide_eq_true (p := (L i).1 ≤ (L i).1 + k) (by omega), decide_eq_true hz]; rfl⟩)] at q
        exact q
  exact key 0 (Nat.zero_le _) fun j hj => absurd hj (Nat.not_lt_zero j)
theorem m_isStale {i v e : Nat} (D : mo_D M s rb f g) (W : mo_W O f g 0 0) (hO : ow_Ok1 O) (hS : ow_Sok S) (R : mo_row M S s rb) (hL : mo_L M s rb n L) (hi : i < n) (hlo : ∀ j, j < n → ow_Lok S (L j)) (hv : v < 2 ^ 31) (he : e ≤ o_wk O) (q : Qr (some (.int (ow_b (mu_old O v e S (L i) || mu_own S L i (L i))))) M) : kz_C G (d + 4) 0 0 mX12_isStale [.ref 99, .int (nI i), .int (nI v), .int (nI e)] M Qr Qx := by
  have hL0 := hL
  obtain ⟨l1, l2, l3, ⟨f8, a8, b8⟩, ⟨f9, a9, b9⟩, ⟨f10, a10, b10⟩, -⟩ := hL
  have hwk := hO.1.2.2.2.1
  refine rX12_isStale_0 ?_
  have key : ∀ j, j ≤ i → (∀ j', j' < j → (decide ((L j').2.2.2.2.1 = 0) && ow_lk S (L j') S (L i)) = false) → zX12_isStale_3 G d Qr Qx 99 (nI i) (nI v) (nI e) (nI j) M := by
    refine ow_loop i ?_ ?_
    · intro hno
      rw [show mu_own S L i (L i) = false from ow_ex_f.mpr hno, Bool.or_false] at q
      refine rX12_isStale_3 (ow_y (nI_le (Nat.le_refl _) (by omega)) ?_)
      have key2 : ∀ u, u ≤ e → (∀ u', u' < u → (decide ((o_ws O u').1 = v) && ow_ex (fun m => ow_cts ((o_ws O u').2.2.2.2 m) && ow_lk (o_ws O u').2.2.1 ((o_ws O u').2.2.2.2 m) S (L i)) (o_ws O u').2.2.2.1) = false) → zX12_isStale_40 G d Qr Qx 99 (nI i) (nI v) (nI e) (nI u) M := by
        refine ow_loop e ?_ ?_
        · intro hno2
          rw [show mu_old O v e S (L i) = false from ow_ex_f.mpr hno2] at q
          exact rX12_isStale_40 (ow_y (nI_le (Nat.le_refl _) (by omega)) q)
        · intro u hu ih2 hno2
          have u60 := (hO.2.2.2 u (by omega)).2.1
          have next : (decide ((o_ws O u).1 = v) && ow_ex (fun m => ow_cts ((o_ws O u).2.2.2.2 m) && ow_lk (o_ws O u).2.2.1 ((o_ws O u).2.2.2.2 m) S (L i)) (o_ws O u).2.2.2.1) = false → zX12_isStale_40 G d Qr Qx 99 (nI i) (nI v) (nI e) (nI (u + 1)) M := fun hp => ih2 fun u' hu' => by
            rcases Nat.lt_or_ge u' u with h5 | h5
            · exact hno2 u' h5
            · have : u' = u := by omega
              subst this; exact hp
          refine rX12_isStale_40 (ow_n (nI_ge hu (by omega)) ⟨D.ob, m_isBy D W hO (by omega) hv ⟨_, rfl, ow_ifn (fun hz => ?_) (fun hz => ?_)⟩⟩)
          · have key3 : ∀ m, m ≤ (o_ws O u).2.2.2.1 → (∀ m', m' < m → (ow_cts ((o_ws O u).2.2.2.2 m') && ow_lk (o_ws O u).2.2.1 ((o_ws O u).2.2.2.2 m') S (L i)) = false) → zX12_isStale_62 G d Qr Qx 99 (nI i) (nI v) (nI e) (nI u) (nI m) M := by
              refine ow_loop (o_ws O u).2.2.2.1 ?_ ?_
              · intro hno3
                refine rX12_isStale_62 ⟨D.ob, m_of (k := 4) D (by omega) (by omega) (W.ww (by omega)).2.2.2.2.1 ⟨_, rfl, ow_y (nI_le (Nat.le_refl _) (by omega)) ?_⟩⟩
                rw [nI_1]
                refine next ?_
                rw [ow_ex_f.mpr hno3, Bool.and_false]
              · intro m hm ih3 hno3
                have next3 : (ow_cts ((o_ws O u).2.2.2.2 m) && ow_lk (o_ws O u).2.2.1 ((o_ws O u).2.2.2.2 m) S (L i)) = false → zX12_isStale_62 G d Qr Qx 99 (nI i) (nI v) (nI e) (nI u) (nI (m + 1)) M := fun hp => ih3 fun m' hm' => by
                  rcases Nat.lt_or_ge m' m with h5 | h5
                  · exact hno3 m' h5
                  · have : m' = m := by omega
                    subst this; exact hp
                refine rX12_isStale_62 ⟨D.ob, m_of (k := 4) D (by omega) (by omega) (W.ww (by omega)).2.2.2.2.1 ⟨_, rfl, ow_n (nI_ge hm (by omega)) ⟨D.ob, m_counts D W hO (by omega) hm ⟨_, rfl, ow_if0 (fun h1 => ?_) (fun h1 => ⟨D.ob, m_isLike D W hO hS R hL0 hi (hlo i hi) (by omega) hm ⟨_, rfl, ow_if0 (fun h2 => ?_) (fun h2 => ?_)⟩⟩)⟩⟩⟩⟩
                · rw [nI_1]
                  exact next3 (by rw [h1]; rfl)
                · rw [nI_1]
                  exact next3 (by rw [h2, Bool.and_false])
                · rw [show mu_old O v e S (L i) = true from ow_ex_iff.mpr ⟨u, hu, by rw [hz, Bool.true_and]; exact ow_ex_iff.mpr ⟨m, hm, by rw [h1, h2]; rfl⟩⟩] at q
                  exact q
            exact key3 0 (Nat.zero_le _) fun m hm => absurd hm (Nat.not_lt_zero m)
          · rw [nI_1]
            exact next (by rw [hz]; rfl)
      exact key2 0 (Nat.zero_le _) fun u hu => absurd hu (Nat.not_lt_zero u)
    · intro j hj ih hno
      have hr3 := (hlo j (by omega)).2.2.1
      have next : (decide ((L j).2.2.2.2.1 = 0) && ow_lk S (L j) S (L i)) = false → zX12_isStale_3 G d Qr Qx 99 (nI i) (nI v) (nI e) (nI (j + 1)) M := fun hp => ih fun j' hj' => by
        rcases Nat.lt_or_ge j' j with h5 | h5
        · exact hno j' h5
        · have : j' = j := by omega
          subst this; exact hp
      refine rX12_isStale_3 (ow_n (nI_ge hj (by omega)) ⟨_, _, l1, rfl, _, _, a10, vp_in_nI (by omega) (by omega), ?_⟩)
      rw [nI_clamp (by omega), b10 j (by omega)]
      refine (pk_eq (L j).2.2.2.2.1 0 (fun h1 => ⟨D.ob, m_isLikeOwn hS R hL0 hi (by omega) (hlo i hi) (hlo j (by omega)) ⟨_, rfl, ow_if0 (fun h2 => ?_) (fun h2 => ?_)⟩⟩) (fun h1 => ?_) rfl rfl).symm
      · rw [nI_1]
        exact next (by rw [decide_eq_false h1]; rfl)
      · rw [nI_1]
        exact next (by rw [h2, Bool.and_false])
      · rw [show mu_own S L i (L i) = true from ow_ex_iff.mpr ⟨j, hj, by rw [decide_eq_true h1, h2]; rfl⟩, Bool.or_true] at q
        exact q
  exact key 0 (Nat.zero_le _) fun j hj => absurd hj (Nat.not_lt_zero j)
theorem m_isWorn {i v e : Nat} (D : mo_D M s rb f g) (W : mo_W O f g 0 0) (hO : ow_Ok1 O) (hS : ow_Sok S) (R : mo_row M S s rb) (hL : mo_L M s rb n L) (hi : i < n) (hlo : ∀ j, j < n → ow_Lok S (L j)) (hv : v < 2 ^ 31) (he : e ≤ o_wk O) (q : Qr (some (.int (ow_b (!ow_ex (fun k => decide ((L i).1 ≤ k) && decide (mu_uses O (S.2.2.1 k) v e + mu_ownw S L i (S.2.2.1 k) < o_ru O 2)) (L i).2.1)))) M) : kz_C G (d + 5) 0 0 mX12_isWorn [.ref 99, .int (nI i), .int (nI v), .int (nI e)] M Qr Qx := by
  have R0 := R
  have hL0 := hL
  obtain ⟨r1, r2, gr, r3, r4⟩ := R
  obtain ⟨l1, l2, l3, ⟨f8, a8, b8⟩, ⟨f9, a9, b9⟩, ⟨f10, a10, b10⟩, -⟩ := hL
  have hwk := hO.1.2.2.2.1
  have sn := hS.2.2.1
  have i1 := (hlo i hi).1
  have i2 := (hlo i hi).2.1
  have hru := hO.2.1 2 (by omega)
  refine rX12_isWorn_0 ?_
  have key : ∀ k, k ≤ (L i).2.1 - (L i).1 → (∀ j, j < k → o_ru O 2 ≤ mu_uses O (S.2.2.1 ((L i).1 + j)) v e + mu_ownw S L i (S.2.2.1 ((L i).1 + j))) → zX12_isWorn_3 G d Qr Qx 99 (nI i) (nI v) (nI e) (nI k) M := by
    refine ow_loop ((L i).2.1 - (L i).1) ?_ ?_
    · intro hall
      refine rX12_isWorn_3 ⟨_, _, l1, rfl, _, _, a9, vp_in_nI (by omega) (by omega), ?_⟩
      rw [nI_clamp (by omega), b9 i hi]
      refine ow_y (nI_le (Nat.le_refl _) (by omega)) ?_
      rw [ow_ex_f.mpr fun k hk => ?_] at q
      · exact q
      · by_cases hk2 : (L i).1 ≤ k
        · have := hall (k - (L i).1) (by omega)
          rw [show (L i).1 + (k - (L i).1) = k by omega] at this
          rw [decide_eq_false (p := _ < o_ru O 2) (by omega), Bool.and_false]
        · rw [decide_eq_false hk2]; rfl
    · intro k hk ih hall
      have hub := mu_uses_le O hO (S.2.2.1 ((L i).1 + k)) v e he
      have hob : ∀ m, mu_ownw S L m (S.2.2.1 ((L i).1 + k)) ≤ m := fun m => ow_cn_le _ _
      refine rX12_isWorn_3 ⟨_, _, l1, rfl, _, _, a9, vp_in_nI (by omega) (by omega), ?_⟩
      rw [nI_clamp (by omega), b9 i hi]
      refine ow_n (nI_ge hk (by omega)) ⟨_, _, l1, rfl, _, _, l1, rfl, _, _, a8, vp_in_nI (by omega) (by omega), _, _, r3, ?_⟩
      rw [b8 i hi, nI_add, nI_clamp (by omega), r4 _ (by omega)]
      refine ⟨vp_in_nI (by omega) (by omega), D.ob, m_usesOf D W hO hv he ⟨_, rfl, ?_⟩⟩
      refine ow_loop (P := fun j => zX12_isWorn_43 G d Qr Qx 99 (nI i) (nI v) (nI e) (nI k) (S.2.2.1 ((L i).1 + k)) (nI (mu_uses O (S.2.2.1 ((L i).1 + k)) v e + mu_ownw S L j (S.2.2.1 ((L i).1 + k)))) (nI j) M) i ?_ ?_ 0 (Nat.zero_le _)
      · have := hob i
        refine rX12_isWorn_43 (ow_y (nI_le (Nat.le_refl _) (by omega)) ⟨D.ob, m_its (k := 2) D (by omega) (W.ru (by omega)) ⟨_, rfl, pk_le (o_ru O 2) (mu_uses O (S.2.2.1 ((L i).1 + k)) v e + mu_ownw S L i (S.2.2.1 ((L i).1 + k))) (fun hz => ?_) (fun hz => ?_) rfl rfl⟩⟩)
        · rw [nI_1]
          refine ih fun j hj => ?_
          rcases Nat.lt_or_ge j k with hjk | hjk
          · exact hall j hjk
          · have : j = k := by omega
            subst this; exact hz
        · rw [ow_ex_iff.mpr ⟨(L i).1 + k, by omega, by rw [decide_eq_true (p := (L i).1 ≤ (L i).1 + k) (by omega), decide_eq_true hz]; rfl⟩] at q
          exact q
      · intro j hj ih2
        have hr3 := (hlo j (by omega)).2.2.1
        have htl := ow_tm_le S.2.2.1 (S.2.2.1 ((L i).1 + k)) (L j).1 (L j).2.1
        have j2 := (hlo j (by omega)).2.1
        rw [show mu_ownw S L (j + 1) (S.2.2.1 ((L i).1 + k)) = mu_ownw S L j (S.2.2.1 ((L i).1 + k)) + (if (decide ((L j).2.2.2.2.1 = 0) && ow_has S (L j) (S.2.2.1 ((L i).1 + k))) then 1 else 0) from rfl, ← Nat.add_assoc] at ih2
        refine rX12_isWorn_43 (ow_n (nI_ge hj (by omega)) ⟨_, _, l1, rfl, _, _, a10, vp_in_nI (by omega) (by omega), ?_⟩)
        rw [nI_clamp (by omega), b10 j (by omega)]
        refine (pk_eq (L j).2.2.2.2.1 0 (fun h1 => ⟨D.ob, m_manyIn hS R0 hL0 (by omega) (hlo j (by omega)) ⟨_, rfl, pk_le (ow_tm S.2.2.1 (S.2.2.1 ((L i).1 + k)) (L j).1 (L j).2.1) 0 (fun h2 => ?_) (fun h2 => ?_) rfl rfl⟩⟩) (fun h1 => ?_) rfl rfl).symm
        · rw [decide_eq_false h1] at ih2
          rw [nI_1, ow_add0]; exact ih2
        · rw [decide_eq_true h1, ow_tm_has, decide_eq_false (p := 0 < _) (by omega)] at ih2
          rw [nI_1, ow_add0]; exact ih2
        · rw [decide_eq_true h1, ow_tm_has, decide_eq_true (p := 0 < _) h2] at ih2
          rw [nI_1, nI_1]; exact ih2
  exact key 0 (Nat.zero_le _) fun j hj => absurd hj (Nat.not_lt_zero j)
end MOA
