/-! Part 65: the reference: what reads lines and works -/
theorem ow_ex_congr {p r : Nat → Bool} {n : Nat} (h : ∀ i, i < n → p i = r i) : ow_ex p n = ow_ex r n := by unfold ow_ex; rw [ow_cn_ext h]
theorem ow_lk_comm (s : ow_S) (l : ow_L) (t : ow_S) (o : ow_L) : ow_lk s l t o = ow_lk t o s l := by
  unfold ow_lk
  by_cases h : l.2.1 - l.1 = o.2.1 - o.1
  · rw [decide_eq_true h, decide_eq_true h.symm, h]
    rw [ow_ex_congr (p := fun i => decide (s.2.2.1 (l.1 + i) ≠ t.2.2.1 (o.1 + i))) (r := fun i => decide (t.2.2.1 (o.1 + i) ≠ s.2.2.1 (l.1 + i))) fun i _ => decide_eq_decide.mpr ⟨fun z e => z e.symm, fun z e => z e.symm⟩]
  · rw [decide_eq_false h, decide_eq_false (fun e => h e.symm)]
    rfl
def mo_pl (w : Nat → Int64) (n : Nat) (x : Int64) : Option Nat := ow_fs (fun k => decide (w k = x)) n
theorem ow_tm_s (w : Nat → Int64) (x : Int64) (a i : Nat) : ow_tm w x a (a + i + 1) = ow_tm w x a (a + i) + (if w (a + i) = x then 1 else 0) := by
  unfold ow_tm
  rw [ow_cn]
  congr 1
  by_cases h : w (a + i) = x
  · rw [if_pos (by simp [h]), if_pos h]
  · rw [if_neg (by simp [h]), if_neg h]
theorem ow_df_s (w : Nat → Int64) (a i : Nat) : ow_df w a (a + i + 1) = ow_df w a (a + i) + (if ow_tm w (w (a + i)) a (a + i) = 0 then 1 else 0) := by
  unfold ow_df
  rw [ow_cn]
  congr 1
  by_cases h : ow_tm w (w (a + i)) a (a + i) = 0
  · rw [if_pos (by simp [h]), if_pos h]
  · rw [if_neg (by simp [h]), if_neg h]
theorem ow_tm_pos {w : Nat → Int64} {x : Int64} {n : Nat} : 0 < ow_tm w x 0 n ↔ ∃ i, i < n ∧ w i = x := by
  unfold ow_tm
  rw [ow_cn_pos]
  constructor
  · rintro ⟨i, h1, h2⟩
    exact ⟨i, h1, by simpa using h2⟩
  · rintro ⟨i, h1, h2⟩
    exact ⟨i, h1, by simp [h2]⟩
theorem ow_fsL {p : Nat → Bool} : ∀ {n i : Nat}, ow_fs p n = some i → i < n ∧ p i = true ∧ ∀ j, j < i → p j = false
  | 0, i, h => by cases h
  | n + 1, i, h => by
    rw [ow_fs] at h
    cases hf : ow_fs p n with
    | some k =>
      rw [hf] at h
      cases h
      obtain ⟨h1, h2, h3⟩ := ow_fsL hf
      exact ⟨by omega, h2, h3⟩
    | none =>
      rw [hf] at h
      by_cases hp : p n = true
      · simp [hp] at h
        subst h
        refine ⟨by omega, hp, fun j hj => ?_⟩
        cases hpj : p j with
        | false => rfl
        | true =>
          have : ∀ m, j < m → (∀ i, i < j → p i = false) → ow_fs p m = some j := fun m hm hno => ow_fs_some hpj hno hm
          have hex : ∃ k, p k = true := ⟨j, hpj⟩
          obtain ⟨k, hk1, hk2⟩ := pk_least (fun k => p k = true) hex
          have hkj : k ≤ j := Nat.not_lt.mp fun z => hk2 j z hpj
          have := ow_fs_some hk1 (fun i hi => by have := hk2 i hi; simpa using this) (show k < n by omega)
          rw [hf] at this
          cases this
      · simp [hp] at h
theorem ow_fs_nn {p : Nat → Bool} {n : Nat} (h : ow_fs p n = none) : ∀ j, j < n → p j = false := fun j hj => by
  cases hpj : p j with
  | false => rfl
  | true =>
    obtain ⟨k, hk1, hk2⟩ := pk_least (fun k => p k = true) ⟨j, hpj⟩
    have hkj : k ≤ j := Nat.not_lt.mp fun z => hk2 j z hpj
    have := ow_fs_some hk1 (fun i hi => by have := hk2 i hi; simpa using this) (show k < n by omega)
    rw [h] at this
    cases this
/-- a place is the first of its word, if the word doesn't stand ahead of it -/
theorem mo_pl_first {w : Nat → Int64} {n k : Nat} (hk : k < n) : mo_pl w n (w k) = some k ↔ ow_tm w (w k) 0 k = 0 := by
  constructor
  · intro h
    obtain ⟨-, -, h3⟩ := ow_fsL h
    rcases Nat.eq_zero_or_pos (ow_tm w (w k) 0 k) with z | z
    · exact z
    · obtain ⟨i, h1, h2⟩ := ow_tm_pos.mp z
      have := h3 i h1
      simp [h2] at this
  · intro h
    refine ow_fs_some (by simp) (fun j hj => ?_) hk
    by_cases he : w j = w k
    · have := ow_tm_pos.mpr ⟨j, hj, he⟩
      omega
    · simp [he]
theorem mo_pl_some {w : Nat → Int64} {n : Nat} {x : Int64} : (mo_pl w n x).isSome = decide (0 < ow_tm w x 0 n) := by
  cases h : mo_pl w n x with
  | some i =>
    obtain ⟨h1, h2, -⟩ := ow_fsL h
    exact (decide_eq_true (ow_tm_pos.mpr ⟨i, h1, by simpa using h2⟩)).symm
  | none =>
    have := ow_fs_nn h
    refine (decide_eq_false fun z => ?_).symm
    obtain ⟨i, h1, h2⟩ := ow_tm_pos.mp z
    have := this i h1
    simp [h2] at this
theorem mo_oi {n : Nat} {o : Option Nat} (h : ∀ i, o = some i → i < n) (hn : n < 2 ^ 31) {A B : Prop} (f : o = none → A) (q : o.isSome = true → B) : (ow_oi o = (-1 : Int32) → A) ∧ (¬ ow_oi o = (-1 : Int32) → B) := by
  cases o with
  | none => exact ⟨fun _ => f rfl, fun z => absurd rfl z⟩
  | some i =>
    refine ⟨fun z => ?_, fun _ => q rfl⟩
    have h1 := h i rfl
    have h2 : (nI i).toInt = (-1 : Int32).toInt := congrArg Int32.toInt z
    rw [nI_toInt (by omega)] at h2
    have h3 : ((-1 : Int32)).toInt = -1 := by decide
    omega
/-- lines that count and hold a word -/
def mu_u1 (w : ow_W) (x : Int64) (n : Nat) : Nat := ow_cn (fun l => ow_cts (w.2.2.2.2 l) && ow_has w.2.2.1 (w.2.2.2.2 l) x) n
def mu_uses (O : ow_O) (x : Int64) (v e : Nat) : Nat := ow_sn (fun i => if (o_ws O i).1 = v then mu_u1 (o_ws O i) x (o_ws O i).2.2.2.1 else 0) e
theorem ow_lw_pa (k : Nat) (P : ow_P) (s : ow_S) (l : ow_L) (x : Int64) : ow_lw_ (k + 1) (ow_pa k P s l) x = ow_lw_ k P x + (if ow_has s l x then 1 else 0) := by
  unfold ow_lw_
  rw [ow_cn]
  have e : ow_pa k P s l k = (s, l) := if_pos rfl
  rw [e, ow_cn_ext (q := fun i => ow_has (P i).1 (P i).2 x) fun i hi => ?_]
  show ow_has (ow_pa k P s l i).1 (ow_pa k P s l i).2 x = _
  have : ow_pa k P s l i = P i := if_neg (by omega)
  rw [this]
theorem mu_cl (w : ow_W) (z : Nat × ow_P) (x : Int64) : ∀ n, ow_lw_ (ow_cl w z n).1 (ow_cl w z n).2 x = ow_lw_ z.1 z.2 x + mu_u1 w x n
  | 0 => rfl
  | n + 1 => by
    have ih := mu_cl w z x n
    rw [ow_cl, mu_u1, ow_cn]
    by_cases hc : ow_cts (w.2.2.2.2 n) = true
    · rw [if_pos hc, if_pos hc, ow_lw_pa, ih, hc, Bool.true_and, mu_u1, Nat.add_assoc]
    · have hc2 : ow_cts (w.2.2.2.2 n) = false := by simpa using hc
      rw [if_neg hc, if_neg hc, Nat.add_zero, ih, hc2, Bool.false_and, mu_u1]
      simp
theorem mu_uses_eq (O : ow_O) (x : Int64) (v : Nat) : ∀ e, mu_uses O x v e = ow_lw_ (ow_co O v e).1 (ow_co O v e).2 x
  | 0 => rfl
  | e + 1 => by
    have ih := mu_uses_eq O x v e
    unfold mu_uses at ih ⊢
    rw [ow_sn, ih, ow_co]
    by_cases hc : (o_ws O e).1 = v
    · rw [if_pos hc, if_pos hc, mu_cl]
    · rw [if_neg hc, if_neg hc, Nat.add_zero]
theorem mu_uses_lines (O : ow_O) (x : Int64) (v : Nat) : mu_uses O x v (o_wk O) = sp_lines O v x := mu_uses_eq O x v _
theorem ow_sn_ext {f g : Nat → Nat} : ∀ {n : Nat}, (∀ i, i < n → f i = g i) → ow_sn f n = ow_sn g n
  | 0, _ => rfl
  | n + 1, h => by rw [ow_sn, ow_sn, ow_sn_ext (fun i hi => h i (by omega)), h n (by omega)]
section MOA
variable {G : kz_G} {d : Nat} {Qr : Option Value → kz_M → Prop} {Qx : String → kz_M → Prop} {M : kz_M} {O : ow_O} {s : Nat → Int32} {rb : Int64} {f : Nat → Int32} {g : Nat → Int64}
theorem m_alike {v l u m : Nat} (D : mo_D M s rb f g) (W : mo_W O f g 0 0) (hO : ow_Ok1 O) (hv : v < o_wk O) (hl : l < (o_ws O v).2.2.2.1) (hu : u < o_wk O) (hm : m < (o_ws O u).2.2.2.1) (q : Qr (some (.int (ow_b (ow_lk (o_ws O v).2.2.1 ((o_ws O v).2.2.2.2 l) (o_ws O u).2.2.1 ((o_ws O u).2.2.2.2 m))))) M) : kz_C G (d + 3) 0 0 mX12_areAlike [.ref 99, .int (nI v), .int (nI l), .int (nI u), .int (nI m)] M Qr Qx := by
  have hwk := hO.1.2.2.2.1
  have hV := hO.2.2.2 v hv
  have hU := hO.2.2.2 u hu
  have v60 := hV.2.1
  have u60 := hU.2.1
  have vn := hV.1.2.2.1
  have un := hU.1.2.2.1
  have vl := hV.2.2.2.2 l hl
  have um := hU.2.2.2.2 m hm
  have vl1 := vl.1
  have vl2 := vl.2.1
  have um1 := um.1
  have um2 := um.2.1
  refine rX12_areAlike_0 ⟨D.ob, m_ofL (k := 1) D (by omega) (by omega) (by omega) (W.ln hv hl).2.1 ⟨_, rfl, D.ob, m_ofL (k := 1) D (by omega) (by omega) (by omega) (W.ln hu hm).2.1 ⟨_, rfl, pk_eq (((o_ws O u).2.2.2.2 m).2.1 - ((o_ws O u).2.2.2.2 m).1) (((o_ws O v).2.2.2.2 l).2.1 - ((o_ws O v).2.2.2.2 l).1) (fun he => ?_) (fun he => ?_) rfl rfl⟩⟩⟩
  · have key : ∀ k, k ≤ ((o_ws O v).2.2.2.2 l).2.1 - ((o_ws O v).2.2.2.2 l).1 → (∀ j, j < k → (o_ws O v).2.2.1.2.2.1 (((o_ws O v).2.2.2.2 l).1 + j) = (o_ws O u).2.2.1.2.2.1 (((o_ws O u).2.2.2.2 m).1 + j)) → zX12_areAlike_27 G d Qr Qx 99 (nI v) (nI l) (nI u) (nI m) (nI (((o_ws O v).2.2.2.2 l).2.1 - ((o_ws O v).2.2.2.2 l).1)) (nI k) M := by
      refine ow_loop (((o_ws O v).2.2.2.2 l).2.1 - ((o_ws O v).2.2.2.2 l).1) ?_ ?_
      · intro hall
        refine rX12_areAlike_27 (ow_y (nI_le (Nat.le_refl _) (by omega)) ?_)
        rw [ow_bt (by
          unfold ow_lk
          rw [decide_eq_true he.symm, ow_ex_f.mpr fun i hi => by simp [hall i hi]]
          rfl)] at q
        exact q
      · intro k hk ih hall
        refine rX12_areAlike_27 (ow_n (nI_ge hk (by omega)) ⟨D.ob, m_wordIn D W hO hv hl (by omega) ⟨_, rfl, D.ob, m_wordIn D W hO hu hm (by omega) ⟨_, rfl, fun hw => ?_, fun hw => ?_⟩⟩⟩)
        · rw [nI_1]
          refine ih fun j hj => ?_
          rcases Nat.lt_or_ge j k with hjk | hjk
          · exact hall j hjk
          · have : j = k := by omega
            subst this; exact hw
        · rw [ow_bf (by
            unfold ow_lk
            rw [ow_ex_iff.mpr ⟨k, hk, by simp [hw]⟩]
            simp)] at q
          exact q
    exact key 0 (Nat.zero_le _) fun j hj => absurd hj (Nat.not_lt_zero j)
  · rw [ow_bf (by unfold ow_lk; rw [decide_eq_false (fun z => he z.symm)]; rfl)] at q
    exact q
theorem m_placeIn {v : Nat} {x : Int64} (D : mo_D M s rb f g) (W : mo_W O f g 0 0) (hO : ow_Ok1 O) (hv : v < o_wk O) (q : Qr (some (.int (ow_oi (mo_pl (o_ws O v).2.2.1.2.2.1 (o_ws O v).2.2.1.2.1 x)))) M) : kz_C G (d + 1) 0 0 mX12_placeIn [.ref 99, .int (nI v), .long x] M Qr Qx := by
  have hwk := hO.1.2.2.2.1
  have hV := hO.2.2.2 v hv
  have vn := hV.1.2.2.1
  refine rX12_placeIn_0 ?_
  have key : ∀ k, k ≤ (o_ws O v).2.2.1.2.1 → (∀ j, j < k → (o_ws O v).2.2.1.2.2.1 j ≠ x) → zX12_placeIn_3 G d Qr Qx 99 (nI v) x (nI k) M := by
    refine ow_loop (o_ws O v).2.2.1.2.1 ?_ ?_
    · intro hno
      rw [show mo_pl (o_ws O v).2.2.1.2.2.1 (o_ws O v).2.2.1.2.1 x = none from ow_fs_none fun j hj => by simp [hno j hj]] at q
      exact rX12_placeIn_3 ⟨D.ob, m_of (k := 3) D (by omega) (by omega) (W.ww hv).2.2.2.1 ⟨_, rfl, ow_y (nI_le (Nat.le_refl _) (by omega)) q⟩⟩
    · intro k hk ih hno
      refine rX12_placeIn_3 ⟨D.ob, m_of (k := 3) D (by omega) (by omega) (W.ww hv).2.2.2.1 ⟨_, rfl, ow_n (nI_ge hk (by omega)) ⟨D.ob, m_word D (by omega) (by omega) (W.wd hv hk) ⟨_, rfl, fun he => ?_, fun he => ?_⟩⟩⟩⟩
      · rw [nI_1]
        refine ih fun j hj => ?_
        rcases Nat.lt_or_ge j k with hjk | hjk
        · exact hno j hjk
        · have : j = k := by omega
          subst this; exact he
      · rw [show mo_pl (o_ws O v).2.2.1.2.2.1 (o_ws O v).2.2.1.2.1 x = some k from ow_fs_some (by simp [he]) (fun j hj => by simp [hno j hj]) hk] at q
        exact q
  exact key 0 (Nat.zero_le _) fun j hj => absurd hj (Nat.not_lt_zero j)
theorem mo_pl_lt {w : Nat → Int64} {n : Nat} {x : Int64} : ∀ i, mo_pl w n x = some i → i < n := fun i h => (ow_fsL h).1
theorem mo_pl_eq {w : Nat → Int64} {n k : Nat} (hk : k < n) (hn : n < 2 ^ 31) {A B : Prop} (a : ow_tm w (w k) 0 k = 0 → A) (b : ow_tm w (w k) 0 k ≠ 0 → B) : (¬ ow_oi (mo_pl w n (w k)) = nI k → B) ∧ (ow_oi (mo_pl w n (w k)) = nI k → A) := by
  constructor
  · intro h
    refine b fun z => h ?_
    rw [mo_pl_first hk |>.mpr z]
    rfl
  · intro h
    refine a ((mo_pl_first hk).mp ?_)
    have hs : (mo_pl w n (w k)).isSome = true := by
      rw [mo_pl_some]
      exact decide_eq_true (ow_tm_pos.mpr ⟨k, hk, rfl⟩)
    obtain ⟨i, hi⟩ := Option.isSome_iff_exists.mp hs
    have hlt := mo_pl_lt i hi
    rw [hi] at h ⊢
    have : i = k := (nI_eq (by omega) (by omega)).mp h
    rw [this]
theorem m_distinctIn {v : Nat} (D : mo_D M s rb f g) (W : mo_W O f g 0 0) (hO : ow_Ok1 O) (hv : v < o_wk O) (q : Qr (some (.int (nI (ow_df (o_ws O v).2.2.1.2.2.1 0 (o_ws O v).2.2.1.2.1)))) M) : kz_C G (d + 2) 0 0 mX12_distinctIn [.ref 99, .int (nI v)] M Qr Qx := by
  have hwk := hO.1.2.2.2.1
  have hV := hO.2.2.2 v hv
  have vn := hV.1.2.2.1
  refine rX12_distinctIn_0 (ow_loop (P := fun k => zX12_distinctIn_4 G d Qr Qx 99 (nI v) (nI (ow_df (o_ws O v).2.2.1.2.2.1 0 k)) (nI k) M) (o_ws O v).2.2.1.2.1 ?_ ?_ 0 (Nat.zero_le _))
  · exact rX12_distinctIn_4 ⟨D.ob, m_of (k := 3) D (by omega) (by omega) (W.ww hv).2.2.2.1 ⟨_, rfl, ow_y (nI_le (Nat.le_refl _) (by omega)) q⟩⟩
  · intro k hk ih
    have e := ow_df_s (o_ws O v).2.2.1.2.2.1 0 k
    rw [Nat.zero_add] at e
    rw [e] at ih
    refine rX12_distinctIn_4 ⟨D.ob, m_of (k := 3) D (by omega) (by omega) (W.ww hv).2.2.2.1 ⟨_, rfl, ow_n (nI_ge hk (by omega)) ⟨D.ob, m_word D (by omega) (by omega) (W.wd hv hk) ⟨_, rfl, D.ob, m_placeIn D W hO hv ⟨_, rfl, mo_pl_eq hk (by omega) (fun z => ?_) (fun z => ?_)⟩⟩⟩⟩⟩
    · rw [nI_1, nI_1]
      rw [if_pos z] at ih
      exact ih
    · rw [nI_1, ow_add0]
      rw [if_neg z] at ih
      exact ih
theorem m_distinctOf {v l : Nat} (D : mo_D M s rb f g) (W : mo_W O f g 0 0) (hO : ow_Ok1 O) (hv : v < o_wk O) (hl : l < (o_ws O v).2.2.2.1) (q : Qr (some (.int (nI (ow_df (o_ws O v).2.2.1.2.2.1 ((o_ws O v).2.2.2.2 l).1 ((o_ws O v).2.2.2.2 l).2.1)))) M) : kz_C G (d + 3) 0 0 mX12_distinctOf [.ref 99, .int (nI v), .int (nI l)] M Qr Qx := by
  have hwk := hO.1.2.2.2.1
  have hV := hO.2.2.2 v hv
  have v60 := hV.2.1
  have vn := hV.1.2.2.1
  have vl := hV.2.2.2.2 l hl
  have vl1 := vl.1
  have vl2 := vl.2.1
  have key : ∀ k, k ≤ ((o_ws O v).2.2.2.2 l).2.1 - ((o_ws O v).2.2.2.2 l).1 → zX12_distinctOf_5 G d Qr Qx 99 (nI v) (nI l) (nI (ow_df (o_ws O v).2.2.1.2.2.1 ((o_ws O v).2.2.2.2 l).1 (((o_ws O v).2.2.2.2 l).1 + k))) (nI k) M := by
    refine ow_loop (((o_ws O v).2.2.2.2 l).2.1 - ((o_ws O v).2.2.2.2 l).1) ?_ ?_
    · rw [show ((o_ws O v).2.2.2.2 l).1 + (((o_ws O v).2.2.2.2 l).2.1 - ((o_ws O v).2.2.2.2 l).1) = ((o_ws O v).2.2.2.2 l).2.1 by omega]
      exact rX12_distinctOf_5 ⟨D.ob, m_ofL (k := 1) D (by omega) (by omega) (by omega) (W.ln hv hl).2.1 ⟨_, rfl, ow_y (nI_le (Nat.le_refl _) (by omega)) q⟩⟩
    · intro k hk ih
      rw [← Nat.add_assoc, ow_df_s] at ih
      refine rX12_distinctOf_5 ⟨D.ob, m_ofL (k := 1) D (by omega) (by omega) (by omega) (W.ln hv hl).2.1 ⟨_, rfl, ow_n (nI_ge hk (by omega)) ?_⟩⟩
      have inner : ∀ i, i ≤ k → zX12_distinctOf_23 G d Qr Qx 99 (nI v) (nI l) (nI (ow_df (o_ws O v).2.2.1.2.2.1 ((o_ws O v).2.2.2.2 l).1 (((o_ws O v).2.2.2.2 l).1 + k))) (nI k) (ow_b (decide (ow_tm (o_ws O v).2.2.1.2.2.1 ((o_ws O v).2.2.1.2.2.1 (((o_ws O v).2.2.2.2 l).1 + k)) ((o_ws O v).2.2.2.2 l).1 (((o_ws O v).2.2.2.2 l).1 + i) = 0))) (nI i) M := by
        refine ow_loop k ?_ ?_
        · refine rX12_distinctOf_23 (ow_y (nI_le (Nat.le_refl _) (by omega)) (ow_if0 (fun hz => ?_) (fun hz => ?_)))
          · rw [if_neg (of_decide_eq_false hz)] at ih
            rw [nI_1, ow_add0]; exact ih
          · rw [if_pos (of_decide_eq_true hz)] at ih
            rw [nI_1, nI_1]; exact ih
        · intro i hi ih2
          rw [← Nat.add_assoc, ow_tm_s] at ih2
          refine rX12_distinctOf_23 (ow_n (nI_ge hi (by omega)) (ow_if0 (fun hz => ?_) (fun hz => ⟨D.ob, m_wordIn D W hO hv hl (by omega) ⟨_, rfl, D.ob, m_wordIn D W hO hv hl (by omega) ⟨_, rfl, fun he => ?_, fun he => ?_⟩⟩⟩)))
          · have hz := of_decide_eq_false hz
            rw [decide_eq_false (by omega)] at ih2
            rw [nI_1]; exact ih2
          · have hz := of_decide_eq_true hz
            rw [if_pos he, decide_eq_false (by omega)] at ih2
            rw [nI_1]; exact ih2
          · have hz := of_decide_eq_true hz
            rw [if_neg he, decide_eq_true (by omega)] at ih2
            rw [nI_1]; exact ih2
      have h0 := inner 0 (Nat.zero_le _)
      rw [show ow_tm (o_ws O v).2.2.1.2.2.1 ((o_ws O v).2.2.1.2.2.1 (((o_ws O v).2.2.2.2 l).1 + k)) ((o_ws O v).2.2.2.2 l).1 (((o_ws O v).2.2.2.2 l).1 + 0) = 0 from ow_tm0 _ _ _] at h0
      exact h0
  have h0 := key 0 (Nat.zero_le _)
  rw [show ow_df (o_ws O v).2.2.1.2.2.1 ((o_ws O v).2.2.2.2 l).1 (((o_ws O v).2.2.2.2 l).1 + 0) = 0 from ow_cn_0 fun i hi => by simp; omega] at h0
  exact rX12_distinctOf_0 h0
theorem mu_u1_le (w : ow_W) (x : Int64) (n : Nat) : mu_u1 w x n ≤ n := ow_cn_le _ _
theorem m_usesOf {v e : Nat} {x : Int64} (D : mo_D M s rb f g) (W : mo_W O f g 0 0) (hO : ow_Ok1 O) (hv : v < 2 ^ 31) (he : e ≤ o_wk O) (q : Qr (some (.int (nI (mu_uses O x v e)))) M) : kz_C G (d + 4) 0 0 mX12_usesOf [.ref 99, .long x, .int (nI v), .int (nI e)] M Qr Qx := by
  have hwk := hO.1.2.2.2.1
  refine rX12_usesOf_0 (ow_loop (P := fun i => zX12_usesOf_6 G d Qr Qx 99 x (nI v) (nI e) (nI (mu_uses O x v i)) (nI i) M) e ?_ ?_ 0 (Nat.zero_le _))
  · exact rX12_usesOf_6 (ow_y (nI_le (Nat.le_refl _) (by omega)) q)
  · intro i hi ih
    have hV := hO.2.2.2 i (by omega)
    have v60 := hV.2.1
    unfold mu_uses at ih ⊢
    rw [ow_sn] at ih
    refine rX12_usesOf_6 (ow_n (nI_ge hi (by omega)) ⟨D.ob, m_isBy D W hO (by omega) hv ⟨_, rfl, ow_ifn (fun hz => ?_) (fun hz => ?_)⟩⟩)
    · rw [if_pos (of_decide_eq_true hz)] at ih
      refine ow_loop (P := fun l => zX12_usesOf_29 G d Qr Qx 99 x (nI v) (nI e) (nI (ow_sn (fun i => if (o_ws O i).1 = v then mu_u1 (o_ws O i) x (o_ws O i).2.2.2.1 else 0) i + mu_u1 (o_ws O i) x l)) (nI i) (nI l) M) (o_ws O i).2.2.2.1 ?_ ?_ 0 (Nat.zero_le _)
      · refine rX12_usesOf_29 ⟨D.ob, m_of (k := 4) D (by omega) (by omega) (W.ww (by omega)).2.2.2.2.1 ⟨_, rfl, ow_y (nI_le (Nat.le_refl _) (by omega)) ?_⟩⟩
        rw [nI_1]; exact ih
      · intro l hl ih2
        rw [show mu_u1 (o_ws O i) x (l + 1) = mu_u1 (o_ws O i) x l + (if (ow_cts ((o_ws O i).2.2.2.2 l) && ow_has (o_ws O i).2.2.1 ((o_ws O i).2.2.2.2 l) x) then 1 else 0) from rfl, ← Nat.add_assoc] at ih2
        refine rX12_usesOf_29 ⟨D.ob, m_of (k := 4) D (by omega) (by omega) (W.ww (by omega)).2.2.2.2.1 ⟨_, rfl, ow_n (nI_ge hl (by omega)) ⟨D.ob, m_counts D W hO (by omega) hl ⟨_, rfl, ow_if0 (fun h1 => ?_) (fun h1 => ⟨D.ob, m_stands D W hO (by omega) hl ⟨_, rfl, ow_if0 (fun h2 => ?_) (fun h2 => ?_)⟩⟩)⟩⟩⟩⟩
        · rw [h1] at ih2
          rw [nI_1, ow_add0]; exact ih2
        · rw [h1, h2] at ih2
          rw [nI_1, ow_add0]; exact ih2
        · rw [h1, h2] at ih2
          rw [nI_1, nI_1]; exact ih2
    · rw [if_neg (of_decide_eq_false hz), Nat.add_zero] at ih
      rw [nI_1]; exact ih
end MOA
