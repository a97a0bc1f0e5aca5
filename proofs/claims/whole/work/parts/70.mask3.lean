/-! Part 70: the reference: questions about lines and words -/
def mu_hope (O : ow_O) (w : ow_W) (n : Nat) : Nat := ow_cn (fun l => decide (o_obj O w (w.2.2.2.2 l) = 0) && sp_gr O w (w.2.2.2.2 l)) n
theorem mu_hope_eq (O : ow_O) (v : Nat) : sp_hopes O v = ow_sn (fun i => if (o_ws O i).1 = v then mu_hope O (o_ws O i) (o_ws O i).2.2.2.1 else 0) (o_wk O) := by
  unfold sp_hopes
  have obj : ∀ (w : ow_W) (l : ow_L), o_obj O w l = 0 ↔ l.2.2.2.2.2 = 1 ∧ o_late O w = false ∧ o_lost O w.1 = false := fun w l => by
    unfold o_obj
    by_cases h1 : l.2.2.2.2.2 = 1
    · rw [if_pos h1]
      cases h2 : o_late O w
      · cases h3 : o_lost O w.1
        · simp [h1]
        · simp
      · simp
    · rw [if_neg h1]
      simp [h1]
  cases hl : o_lost O v with
  | true =>
    rw [if_pos rfl]
    refine (Nat.le_zero.mp ?_).symm
    have := ow_sn_le (f := fun i => if (o_ws O i).1 = v then mu_hope O (o_ws O i) (o_ws O i).2.2.2.1 else 0) (b := 0) (n := o_wk O) fun i _ => by
      show (if (o_ws O i).1 = v then mu_hope O (o_ws O i) (o_ws O i).2.2.2.1 else 0) ≤ 0
      split
      · rename_i hv
        unfold mu_hope
        rw [ow_cn_0 fun l _ => ?_]
        · exact Nat.le_refl _
        · rw [decide_eq_false fun z => ?_]
          · rfl
          · have := ((obj _ _).mp z).2.2
            rw [hv, hl] at this
            cases this
      · exact Nat.le_refl _
    simpa using this
  | false =>
    rw [if_neg (by decide)]
    refine ow_sn_ext fun i _ => ?_
    by_cases hv : (o_ws O i).1 = v
    · rw [if_pos hv]
      cases h2 : o_late O (o_ws O i) with
      | true =>
        rw [if_neg (by simp)]
        unfold mu_hope
        rw [ow_cn_0 fun l _ => ?_]
        rw [decide_eq_false fun z => ?_]
        · rfl
        · have := ((obj _ _).mp z).2.1
          rw [h2] at this
          cases this
      | false =>
        rw [if_pos ⟨hv, rfl⟩]
        unfold mu_hope ow_wc
        refine ow_cn_ext fun l _ => ?_
        have e : decide (o_obj O (o_ws O i) ((o_ws O i).2.2.2.2 l) = 0) = decide (((o_ws O i).2.2.2.2 l).2.2.2.2.2 = 1) := decide_eq_decide.mpr ⟨fun z => ((obj _ _).mp z).1, fun z => (obj _ _).mpr ⟨z, h2, by rw [hv]; exact hl⟩⟩
        rw [e]
        rfl
    · rw [if_neg hv, if_neg fun z => hv z.1]
theorem mo_mx (a b : Nat) (hb : b < 2 ^ 31) (ha : a < 2 ^ 31) : (if nI a < nI b then nI b else nI a) = nI (max a b) := by
  by_cases h : a < b
  · rw [if_pos (nI_lt h hb), Nat.max_eq_right (by omega)]
  · rw [if_neg (nI_nlt (by omega) ha), Nat.max_eq_left (by omega)]
section MOB
variable {G : kz_G} {d : Nat} {Qr : Option Value → kz_M → Prop} {Qx : String → kz_M → Prop} {M : kz_M} {O : ow_O} {s : Nat → Int32} {rb : Int64} {f : Nat → Int32} {g : Nat → Int64}
theorem m_against {v l : Nat} (D : mo_D M s rb f g) (W : mo_W O f g 0 0) (hO : ow_Ok1 O) (hv : v < o_wk O) (hl : l < (o_ws O v).2.2.2.1) (q : Qr (some (.int (nI (o_obj O (o_ws O v) ((o_ws O v).2.2.2.2 l))))) M) : kz_C G (d + 3) 0 0 mX12_against [.ref 99, .int (nI v), .int (nI l)] M Qr Qx := by
  have hwk := hO.1.2.2.2.1
  have hdy := hO.1.1
  have hV := hO.2.2.2 v hv
  have h60 := hV.2.1
  have hL := (hV.2.2.2.2 l hl).2.2.2
  have hw6 := hV.2.2.1
  have hwd := hV.2.2.2.1
  have h4 := hO.2.1 4 (by omega)
  refine rX12_against_0 ⟨D.ob, m_ofL (k := 2) D (by omega) (by omega) (by omega) (W.ln hv hl).2.2.1 ⟨_, rfl, pk_eq ((o_ws O v).2.2.2.2 l).2.2.2.2.2 1 (fun h1 => ⟨_, _, D.1, rfl, _, _, D.2.1, mo_in2, ?_⟩) (fun h1 => ?_) rfl rfl⟩⟩
  · rw [W.at2]
    refine ⟨D.ob, m_of (k := 2) D (by omega) (by omega) (W.ww hv).2.2.1 ⟨_, rfl, D.ob, m_its (k := 4) D (by omega) (W.ru (by omega)) ⟨_, rfl, ?_⟩⟩⟩
    rw [nI_add]
    refine pk_le (o_dy O) ((o_ws O v).2.1 + o_ru O 4) (fun h2 => ⟨D.ob, m_of (k := 0) D (by omega) (by omega) (W.ww hv).1 ⟨_, rfl, D.ob, m_inState (st := 3) D W hO (by omega) (by omega) ⟨_, rfl, ?_⟩⟩⟩) (fun h2 => ?_) rfl rfl
    · rw [mu_sts_3]
      have h720 := o_ln_le hO (fun w => decide (w = (o_ws O v).1)) 4
      have hlate : o_late O (o_ws O v) = false := decide_eq_false (by omega)
      refine pk_lt (o_ln O (fun w => decide (w = (o_ws O v).1)) 4) 3 (fun h3 => ?_) (fun h3 => ?_) rfl rfl
      · rw [o_obj, if_pos h1, if_neg (by rw [hlate]; decide), if_neg (by unfold o_lost; rw [decide_eq_false (by omega)]; decide)] at q
        exact q
      · rw [o_obj, if_pos h1, if_neg (by rw [hlate]; decide), if_pos (by unfold o_lost; exact decide_eq_true h3)] at q
        exact q
    · rw [o_obj, if_pos h1, if_pos (show o_late O (o_ws O v) = true from decide_eq_true (by omega))] at q
      exact q
  · rw [o_obj, if_neg h1] at q
    exact q
theorem m_isVaried {v l : Nat} (D : mo_D M s rb f g) (W : mo_W O f g 0 0) (hO : ow_Ok1 O) (hv : v < o_wk O) (hl : l < (o_ws O v).2.2.2.1) (q : Qr (some (.int (ow_b (sp_gr O (o_ws O v) ((o_ws O v).2.2.2.2 l))))) M) : kz_C G (d + 4) 0 0 mX12_isVaried [.ref 99, .int (nI v), .int (nI l)] M Qr Qx := by
  have hV := hO.2.2.2 v hv
  have hn := hV.1.2.2.1
  have h2 := (hV.2.2.2.2 l hl).2.1
  have hdf := ow_df_le (o_ws O v).2.2.1.2.2.1 ((o_ws O v).2.2.2.2 l).1 ((o_ws O v).2.2.2.2 l).2.1
  have h5 := hO.2.1 5 (by omega)
  refine rX12_isVaried_0 ⟨D.ob, m_distinctOf D W hO hv hl ⟨_, rfl, D.ob, m_its (k := 5) D (by omega) (W.ru (by omega)) ⟨_, rfl, pk_lt (ow_df (o_ws O v).2.2.1.2.2.1 ((o_ws O v).2.2.2.2 l).1 ((o_ws O v).2.2.2.2 l).2.1) (o_ru O 5) (fun hz => ?_) (fun hz => ?_) rfl rfl⟩⟩⟩
  · rw [ow_bf (by unfold sp_gr; exact decide_eq_false (by omega))] at q; exact q
  · rw [ow_bt (by unfold sp_gr; exact decide_eq_true hz)] at q; exact q
theorem m_hasLike {v l u : Nat} (D : mo_D M s rb f g) (W : mo_W O f g 0 0) (hO : ow_Ok1 O) (hv : v < o_wk O) (hl : l < (o_ws O v).2.2.2.1) (hu : u < o_wk O) (q : Qr (some (.int (ow_b (ow_wf (o_ws O u) (o_ws O v).2.2.1 ((o_ws O v).2.2.2.2 l)).isSome))) M) : kz_C G (d + 4) 0 0 mX12_hasLike [.ref 99, .int (nI v), .int (nI l), .int (nI u)] M Qr Qx := by
  have hwk := hO.1.2.2.2.1
  have h60 := (hO.2.2.2 u hu).2.1
  have v60 := (hO.2.2.2 v hv).2.1
  refine rX12_hasLike_0 ?_
  have key : ∀ m, m ≤ (o_ws O u).2.2.2.1 → (∀ j, j < m → ow_lk (o_ws O u).2.2.1 ((o_ws O u).2.2.2.2 j) (o_ws O v).2.2.1 ((o_ws O v).2.2.2.2 l) = false) → zX12_hasLike_3 G d Qr Qx 99 (nI v) (nI l) (nI u) (nI m) M := by
    refine ow_loop (o_ws O u).2.2.2.1 ?_ ?_
    · intro hno
      rw [show ow_wf (o_ws O u) (o_ws O v).2.2.1 ((o_ws O v).2.2.2.2 l) = none from ow_fs_none hno] at q
      exact rX12_hasLike_3 ⟨D.ob, m_of (k := 4) D (by omega) (by omega) (W.ww hu).2.2.2.2.1 ⟨_, rfl, ow_y (nI_le (Nat.le_refl _) (by omega)) q⟩⟩
    · intro m hm ih hno
      refine rX12_hasLike_3 ⟨D.ob, m_of (k := 4) D (by omega) (by omega) (W.ww hu).2.2.2.2.1 ⟨_, rfl, ow_n (nI_ge hm (by omega)) ⟨D.ob, m_alike D W hO hv hl hu hm ⟨_, rfl, ow_if0 (fun hz => ?_) (fun hz => ?_)⟩⟩⟩⟩
      · rw [nI_1]
        refine ih fun j hj => ?_
        rcases Nat.lt_or_ge j m with hjm | hjm
        · exact hno j hjm
        · have : j = m := by omega
          subst this
          rw [ow_lk_comm]; exact hz
      · rw [show ow_wf (o_ws O u) (o_ws O v).2.2.1 ((o_ws O v).2.2.2.2 l) = some m from ow_fs_some (by rw [ow_lk_comm]; exact hz) hno hm] at q
        exact q
  exact key 0 (Nat.zero_le _) fun j hj => absurd hj (Nat.not_lt_zero j)
end MOB
section MOA
variable {G : kz_G} {d : Nat} {Qr : Option Value → kz_M → Prop} {Qx : String → kz_M → Prop} {M : kz_M} {O : ow_O} {s : Nat → Int32} {rb : Int64} {hn : Nat} {h : Nat → ow_O} {sv : ow_O} {isS : Bool} {er : Nat} {ea : Int32} {n : Nat} {b : Nat → Nat} {l : List Nat}
theorem m_whyNot {x y : Int32} (I : mo_I M O hn h sv isS er ea n b l s rb) (hO : ow_Ok2 O) (q0 : (∀ j k, j < o_wk O → k < (o_ws O j).2.2.2.1 → x = nI j → y = nI k → False) → mo_K M O hn h sv isS er ea n b l 1 (Qr (some (.int 0)))) (q1 : ∀ j k, j < o_wk O → x = nI j → k < (o_ws O j).2.2.2.1 → y = nI k → mo_K M O hn h sv isS er ea n b l 0 (Qr (some (.int (nI (o_obj O (o_ws O j) ((o_ws O j).2.2.2.2 k))))))) : kz_C G (d + 4) 0 0 mX12_whyNot [.ref 99, .int x, .int y] M Qr Qx := by
  have I0 := I.th' 0
  have C0 := I.cf 0
  have h9 : upd s 9 0 9 = nI 0 := rfl
  refine rX12_whyNot_0 ⟨_, I.1, ow_l rfl, ?_⟩
  generalize kz_up M 99 (.inl (11, (mo_fs s rb).set 9 (.int 0))) = M0 at I0 C0 ⊢
  generalize upd s 9 0 = s0 at I0 h9
  obtain ⟨f, g, D, W⟩ := I0.D
  refine ⟨D.ob, m_noLine D W hO.1 (fun hx => ⟨_, rfl, fun z => absurd z (by decide), fun _ => (q0 hx).fl C0 I0 rfl⟩) fun j k hj e hk ek => ⟨_, rfl, fun _ => ?_, fun z => absurd rfl z⟩⟩
  subst e
  subst ek
  exact ⟨D.ob, m_against D W hO.1 hj hk ⟨_, rfl, (q1 j k hj rfl hk rfl).go C0 I0 h9⟩⟩

theorem m_hopes {x : Int32} (I : mo_I M O hn h sv isS er ea n b l s rb) (hO : ow_Ok2 O) (q0 : (∀ j, j < o_nw O → x ≠ nI j) → mo_K M O hn h sv isS er ea n b l 1 (Qr (some (.int 0)))) (q1 : ∀ j, j < o_nw O → x = nI j → mo_K M O hn h sv isS er ea n b l 0 (Qr (some (.int (nI (sp_hopes O j)))))) : kz_C G (d + 5) 0 0 mX12_hopes [.ref 99, .int x] M Qr Qx := by
  have I0 := I.th' 0
  have C0 := I.cf 0
  have h9 : upd s 9 0 9 = nI 0 := rfl
  refine rX12_hopes_0 ⟨_, I.1, ow_l rfl, ?_⟩
  generalize kz_up M 99 (.inl (11, (mo_fs s rb).set 9 (.int 0))) = M0 at I0 C0 ⊢
  generalize upd s 9 0 = s0 at I0 h9
  obtain ⟨f, g, D, W⟩ := I0.D
  have hwk := hO.1.1.2.2.2.1
  have hnw := hO.1.1.2.2.1
  have ix : ∀ a j : Nat, (OfNat.ofNat a : Int32) + nI j = nI (a + j) := fun a j => nI_add a j
  refine ⟨D.ob, m_noWriter D W hO.1 (fun hx => ⟨_, rfl, fun z => absurd z (by decide), fun _ => (q0 hx).fl C0 I0 rfl⟩) fun j hj e => ⟨_, rfl, fun _ => ?_, fun z => absurd rfl z⟩⟩
  have Q1 := q1 j hj e
  subst e
  rw [mu_hope_eq] at Q1
  refine ow_loop (P := fun i => zX12_hopes_19 G d Qr Qx 99 (nI j) (nI (ow_sn (fun i => if (o_ws O i).1 = j then mu_hope O (o_ws O i) (o_ws O i).2.2.2.1 else 0) i)) (nI i) M0) (o_wk O) ?_ ?_ 0 (Nat.zero_le _)
  · refine rX12_hopes_19 ⟨_, _, D.1, rfl, _, _, D.2.1, mo_in1, ?_⟩
    rw [W.at1]
    exact ow_y (nI_le (Nat.le_refl _) (by omega)) (Q1.go C0 I0 h9)
  · intro i hi ih
    have h60 := (hO.1.2.2.2 i hi).2.1
    rw [ow_sn] at ih
    refine rX12_hopes_19 ⟨_, _, D.1, rfl, _, _, D.2.1, mo_in1, ?_⟩
    rw [W.at1]
    refine ow_n (nI_ge hi (by omega)) ⟨D.ob, m_isBy D W hO.1 hi (by omega) ⟨_, rfl, ow_ifn (fun hz => ?_) (fun hz => ?_)⟩⟩
    · rw [if_pos (of_decide_eq_true hz)] at ih
      refine ow_loop (P := fun k => zX12_hopes_44 G d Qr Qx 99 (nI j) (nI (ow_sn (fun i => if (o_ws O i).1 = j then mu_hope O (o_ws O i) (o_ws O i).2.2.2.1 else 0) i + mu_hope O (o_ws O i) k)) (nI i) (nI k) M0) (o_ws O i).2.2.2.1 ?_ ?_ 0 (Nat.zero_le _)
      · refine rX12_hopes_44 ⟨D.ob, m_of (k := 4) D (by omega) (by omega) (W.ww hi).2.2.2.2.1 ⟨_, rfl, ow_y (nI_le (Nat.le_refl _) (by omega)) ?_⟩⟩
        rw [nI_1]; exact ih
      · intro k hk ih2
        have hob3 : o_obj O (o_ws O i) ((o_ws O i).2.2.2.2 k) ≤ 3 := by
          unfold o_obj
          repeat' split
          all_goals decide
        rw [show mu_hope O (o_ws O i) (k + 1) = mu_hope O (o_ws O i) k + (if (decide (o_obj O (o_ws O i) ((o_ws O i).2.2.2.2 k) = 0) && sp_gr O (o_ws O i) ((o_ws O i).2.2.2.2 k)) then 1 else 0) from rfl, ← Nat.add_assoc] at ih2
        refine rX12_hopes_44 ⟨D.ob, m_of (k := 4) D (by omega) (by omega) (W.ww hi).2.2.2.2.1 ⟨_, rfl, ow_n (nI_ge hk (by omega)) ⟨D.ob, m_against D W hO.1 hi hk ⟨_, rfl, (pk_eq (o_obj O (o_ws O i) ((o_ws O i).2.2.2.2 k)) 0 (fun h1 => ⟨D.ob, m_isVaried D W hO.1 hi hk ⟨_, rfl, ow_if0 (fun h2 => ?_) (fun h2 => ?_)⟩⟩) (fun h1 => ?_) rfl rfl).symm⟩⟩⟩⟩
        · rw [decide_eq_false h1] at ih2
          rw [nI_1, ow_add0]; exact ih2
        · rw [h2, Bool.and_false] at ih2
          rw [nI_1, ow_add0]; exact ih2
        · rw [h2, decide_eq_true h1] at ih2
          rw [nI_1, nI_1]; exact ih2
    · rw [if_neg (of_decide_eq_false hz), Nat.add_zero] at ih
      rw [nI_1]; exact ih

theorem m_longestRun {x : Int32} (I : mo_I M O hn h sv isS er ea n b l s rb) (hO : ow_Ok2 O) (q0 : (∀ j, j < o_wk O → x ≠ nI j) → mo_K M O hn h sv isS er ea n b l 1 (Qr (some (.int 0)))) (q1 : ∀ j, j < o_wk O → x = nI j → mo_K M O hn h sv isS er ea n b l 0 (Qr (some (.int (nI (sp_run (o_ws O j) (o_ws O j).2.2.2.1).1))))) : kz_C G (d + 3) 0 0 mX12_longestRun [.ref 99, .int x] M Qr Qx := by
  have I0 := I.th' 0
  have C0 := I.cf 0
  have h9 : upd s 9 0 9 = nI 0 := rfl
  refine rX12_longestRun_0 ⟨_, I.1, ow_l rfl, ?_⟩
  generalize kz_up M 99 (.inl (11, (mo_fs s rb).set 9 (.int 0))) = M0 at I0 C0 ⊢
  generalize upd s 9 0 = s0 at I0 h9
  obtain ⟨f, g, D, W⟩ := I0.D
  have hwk := hO.1.1.2.2.2.1
  have hnw := hO.1.1.2.2.1
  have ix : ∀ a j : Nat, (OfNat.ofNat a : Int32) + nI j = nI (a + j) := fun a j => nI_add a j
  refine ⟨D.ob, m_noWork D W hO.1 (fun hx => ⟨_, rfl, fun z => absurd z (by decide), fun _ => (q0 hx).fl C0 I0 rfl⟩) fun j hj e => ⟨_, rfl, fun _ => ?_, fun z => absurd rfl z⟩⟩
  subst e
  have h60 := (hO.1.2.2.2 j hj).2.1
  refine ow_loop (P := fun i => zX12_longestRun_22 G d Qr Qx 99 (nI j) (nI (sp_run (o_ws O j) i).1) (nI (sp_run (o_ws O j) i).2) (nI i) M0) (o_ws O j).2.2.2.1 ?_ ?_ 0 (Nat.zero_le _)
  · exact rX12_longestRun_22 ⟨D.ob, m_of (k := 4) D (by omega) (by omega) (W.ww hj).2.2.2.2.1 ⟨_, rfl, ow_y (nI_le (Nat.le_refl _) (by omega)) ((q1 j hj rfl).go C0 I0 h9)⟩⟩
  · intro i hi ih
    obtain ⟨b1, b2⟩ := sp_run_le (o_ws O j) i
    rw [sp_run] at ih
    refine rX12_longestRun_22 ⟨D.ob, m_of (k := 4) D (by omega) (by omega) (W.ww hj).2.2.2.2.1 ⟨_, rfl, ow_n (nI_ge hi (by omega)) ⟨D.ob, m_counts D W hO.1 hj hi ⟨_, rfl, ow_if0 (fun hz => ?_) (fun hz => ?_)⟩⟩⟩⟩
    · rw [if_neg (by rw [hz]; decide)] at ih
      rw [nI_1, if_neg (nI_pos (by omega))]
      exact ih
    · rw [if_pos hz] at ih
      rw [nI_1, nI_1, mo_mx _ _ (by omega) (by omega)]
      exact ih

theorem m_common {x y : Int32} (I : mo_I M O hn h sv isS er ea n b l s rb) (hO : ow_Ok2 O) (q0 : (∀ j, j < o_wk O → x ≠ nI j) → mo_K M O hn h sv isS er ea n b l 1 (Qr (some (.int 0)))) (q1 : (∀ j, j < o_wk O → y ≠ nI j) → mo_K M O hn h sv isS er ea n b l 1 (Qr (some (.int 0)))) (q2 : ∀ j k, j < o_wk O → x = nI j → k < o_wk O → y = nI k → mo_K M O hn h sv isS er ea n b l 0 (Qr (some (.int (nI (sp_common (o_ws O j).2.2.1 (o_ws O k).2.2.1)))))) : kz_C G (d + 2) 0 0 mX12_common [.ref 99, .int x, .int y] M Qr Qx := by
  have I0 := I.th' 0
  have C0 := I.cf 0
  have h9 : upd s 9 0 9 = nI 0 := rfl
  refine rX12_common_0 ⟨_, I.1, ow_l rfl, ?_⟩
  generalize kz_up M 99 (.inl (11, (mo_fs s rb).set 9 (.int 0))) = M0 at I0 C0 ⊢
  generalize upd s 9 0 = s0 at I0 h9
  obtain ⟨f, g, D, W⟩ := I0.D
  have hwk := hO.1.1.2.2.2.1
  have hnw := hO.1.1.2.2.1
  have ix : ∀ a j : Nat, (OfNat.ofNat a : Int32) + nI j = nI (a + j) := fun a j => nI_add a j
  refine ⟨D.ob, m_noWork D W hO.1 (fun hx => ⟨_, rfl, fun _ => (q0 hx).fl C0 I0 rfl, fun z => absurd z (by decide)⟩) fun j hj e => ⟨_, rfl, fun z => absurd rfl z, fun _ => ?_⟩⟩
  refine ⟨D.ob, m_noWork D W hO.1 (fun hx => ⟨_, rfl, fun z => absurd z (by decide), fun _ => (q1 hx).fl C0 I0 rfl⟩) fun k hk ek => ⟨_, rfl, fun _ => ?_, fun z => absurd rfl z⟩⟩
  subst e
  subst ek
  have jn := (hO.1.2.2.2 j hj).1.2.2.1
  have kn := (hO.1.2.2.2 k hk).1.2.2.1
  refine ow_loop (P := fun i => zX12_common_28 G d Qr Qx 99 (nI j) (nI k) (nI (ow_cn (fun i => decide (ow_tm (o_ws O j).2.2.1.2.2.1 ((o_ws O j).2.2.1.2.2.1 i) 0 i = 0) && decide (0 < ow_tm (o_ws O k).2.2.1.2.2.1 ((o_ws O j).2.2.1.2.2.1 i) 0 (o_ws O k).2.2.1.2.1)) i)) (nI i) M0) (o_ws O j).2.2.1.2.1 ?_ ?_ 0 (Nat.zero_le _)
  · exact rX12_common_28 ⟨D.ob, m_of (k := 3) D (by omega) (by omega) (W.ww hj).2.2.2.1 ⟨_, rfl, ow_y (nI_le (Nat.le_refl _) (by omega)) ((q2 j k hj rfl hk rfl).go C0 I0 h9)⟩⟩
  · intro i hi ih
    rw [ow_cn] at ih
    refine rX12_common_28 ⟨D.ob, m_of (k := 3) D (by omega) (by omega) (W.ww hj).2.2.2.1 ⟨_, rfl, ow_n (nI_ge hi (by omega)) ⟨D.ob, m_word D (by omega) (by omega) (W.wd hj hi) ⟨_, rfl, D.ob, m_placeIn D W hO.1 hj ⟨_, rfl, mo_pl_eq hi (by omega) (fun h1 => ⟨D.ob, m_word D (by omega) (by omega) (W.wd hj hi) ⟨_, rfl, D.ob, m_placeIn D W hO.1 hk ⟨_, rfl, mo_oi mo_pl_lt (by omega) (fun h2 => ?_) (fun h2 => ?_)⟩⟩⟩) (fun h1 => ?_)⟩⟩⟩⟩⟩
    · rw [decide_eq_true h1, Bool.true_and, ← mo_pl_some, h2] at ih
      rw [nI_1, ow_add0]; exact ih
    · rw [decide_eq_true h1, Bool.true_and, ← mo_pl_some, h2] at ih
      rw [nI_1, nI_1]; exact ih
    · rw [decide_eq_false h1, Bool.false_and] at ih
      rw [nI_1, ow_add0]; exact ih

theorem m_newWords {x : Int32} (I : mo_I M O hn h sv isS er ea n b l s rb) (hO : ow_Ok2 O) (q0 : (∀ j, j < o_wk O → x ≠ nI j) → mo_K M O hn h sv isS er ea n b l 1 (Qr (some (.int 0)))) (q1 : ∀ j, j < o_wk O → x = nI j → mo_K M O hn h sv isS er ea n b l 0 (Qr (some (.int (nI (sp_new O j)))))) : kz_C G (d + 3) 0 0 mX12_newWords [.ref 99, .int x] M Qr Qx := by
  have I0 := I.th' 0
  have C0 := I.cf 0
  have h9 : upd s 9 0 9 = nI 0 := rfl
  refine rX12_newWords_0 ⟨_, I.1, ow_l rfl, ?_⟩
  generalize kz_up M 99 (.inl (11, (mo_fs s rb).set 9 (.int 0))) = M0 at I0 C0 ⊢
  generalize upd s 9 0 = s0 at I0 h9
  obtain ⟨f, g, D, W⟩ := I0.D
  have hwk := hO.1.1.2.2.2.1
  have hnw := hO.1.1.2.2.1
  have ix : ∀ a j : Nat, (OfNat.ofNat a : Int32) + nI j = nI (a + j) := fun a j => nI_add a j
  refine ⟨D.ob, m_noWork D W hO.1 (fun hx => ⟨_, rfl, fun z => absurd z (by decide), fun _ => (q0 hx).fl C0 I0 rfl⟩) fun j hj e => ⟨_, rfl, fun _ => ?_, fun z => absurd rfl z⟩⟩
  subst e
  have jn := (hO.1.2.2.2 j hj).1.2.2.1
  have jw := (hO.1.2.2.2 j hj).2.2.1
  refine ow_loop (P := fun i => zX12_newWords_19 G d Qr Qx 99 (nI j) (nI (ow_cn (fun i => decide (ow_tm (o_ws O j).2.2.1.2.2.1 ((o_ws O j).2.2.1.2.2.1 i) 0 i = 0) && !sp_ub O ((o_ws O j).2.2.1.2.2.1 i) (o_ws O j).1 j) i)) (nI i) M0) (o_ws O j).2.2.1.2.1 ?_ ?_ 0 (Nat.zero_le _)
  · exact rX12_newWords_19 ⟨D.ob, m_of (k := 3) D (by omega) (by omega) (W.ww hj).2.2.2.1 ⟨_, rfl, ow_y (nI_le (Nat.le_refl _) (by omega)) ((q1 j hj rfl).go C0 I0 h9)⟩⟩
  · intro i hi ih
    rw [ow_cn] at ih
    refine rX12_newWords_19 ⟨D.ob, m_of (k := 3) D (by omega) (by omega) (W.ww hj).2.2.2.1 ⟨_, rfl, ow_n (nI_ge hi (by omega)) ⟨D.ob, m_of (k := 0) D (by omega) (by omega) (W.ww hj).1 ⟨_, rfl, D.ob, m_stoodAhead D W hO.1 (by omega) hj hi ⟨_, rfl, ow_if0 (fun h1 => ?_) (fun h1 => ?_)⟩⟩⟩⟩⟩
    · rw [Bool.not_eq_false'] at h1
      rw [if_pos h1] at ih
      rw [nI_1, nI_1]; exact ih
    · rw [Bool.not_eq_true'] at h1
      rw [if_neg (by rw [h1]; decide)] at ih
      rw [nI_1, ow_add0]; exact ih

theorem m_favourite {x : Int32} (I : mo_I M O hn h sv isS er ea n b l s rb) (hO : ow_Ok2 O) (q0 : (∀ j, j < o_nw O → x ≠ nI j) → mo_K M O hn h sv isS er ea n b l 1 (Qr (some (.int 0)))) (q1 : ∀ j, j < o_nw O → x = nI j → mo_K M O hn h sv isS er ea n b l 0 (Qr (some (.int (sp_fav O j (o_wk O)).2)))) : kz_C G (d + 5) 0 0 mX12_favourite [.ref 99, .int x] M Qr Qx := by
  have I0 := I.th' 0
  have C0 := I.cf 0
  have h9 : upd s 9 0 9 = nI 0 := rfl
  refine rX12_favourite_0 ⟨_, I.1, ow_l rfl, ?_⟩
  generalize kz_up M 99 (.inl (11, (mo_fs s rb).set 9 (.int 0))) = M0 at I0 C0 ⊢
  generalize upd s 9 0 = s0 at I0 h9
  obtain ⟨f, g, D, W⟩ := I0.D
  have hwk := hO.1.1.2.2.2.1
  have hnw := hO.1.1.2.2.1
  have ix : ∀ a j : Nat, (OfNat.ofNat a : Int32) + nI j = nI (a + j) := fun a j => nI_add a j
  refine ⟨D.ob, m_noWriter D W hO.1 (fun hx => ⟨_, rfl, fun z => absurd z (by decide), fun _ => (q0 hx).fl C0 I0 rfl⟩) fun j hj e => ⟨_, rfl, fun _ => ?_, fun z => absurd rfl z⟩⟩
  subst e
  have fvb : ∀ i z, z.1 ≤ 720 → ∀ k, (sp_fv O j i z k).1 ≤ 720 := fun i z hz k => by
    induction k with
    | zero => exact hz
    | succ k ih =>
      rw [sp_fv]
      split
      · exact ih
      · exact sp_lines_le hO.1 j _
  have fab : ∀ i, (sp_fav O j i).1 ≤ 720 := fun i => by
    induction i with
    | zero => exact Nat.zero_le _
    | succ i ih =>
      rw [sp_fav]
      split
      · exact fvb _ _ ih _
      · exact ih
  refine ow_loop (P := fun i => zX12_favourite_22 G d Qr Qx 99 (nI j) (sp_fav O j i).2 (nI (sp_fav O j i).1) (nI i) M0) (o_wk O) ?_ ?_ 0 (Nat.zero_le _)
  · refine rX12_favourite_22 ⟨_, _, D.1, rfl, _, _, D.2.1, mo_in1, ?_⟩
    rw [W.at1]
    exact ow_y (nI_le (Nat.le_refl _) (by omega)) ((q1 j hj rfl).go C0 I0 h9)
  · intro i hi ih
    have jn := (hO.1.2.2.2 i hi).1.2.2.1
    rw [sp_fav] at ih
    refine rX12_favourite_22 ⟨_, _, D.1, rfl, _, _, D.2.1, mo_in1, ?_⟩
    rw [W.at1]
    refine ow_n (nI_ge hi (by omega)) ⟨D.ob, m_isBy D W hO.1 hi (by omega) ⟨_, rfl, ow_ifn (fun hz => ?_) (fun hz => ?_)⟩⟩
    · rw [if_pos (of_decide_eq_true hz)] at ih
      refine ow_loop (P := fun k => zX12_favourite_49 G d Qr Qx 99 (nI j) (sp_fv O j i (sp_fav O j i) k).2 (nI (sp_fv O j i (sp_fav O j i) k).1) (nI i) (nI k) M0) (o_ws O i).2.2.1.2.1 ?_ ?_ 0 (Nat.zero_le _)
      · refine rX12_favourite_49 ⟨D.ob, m_of (k := 3) D (by omega) (by omega) (W.ww hi).2.2.2.1 ⟨_, rfl, ow_y (nI_le (Nat.le_refl _) (by omega)) ?_⟩⟩
        rw [nI_1]; exact ih
      · intro k hk ih2
        rw [sp_fv] at ih2
        have hb := fvb i (sp_fav O j i) (fab i) k
        have hu := mu_uses_lines O ((o_ws O i).2.2.1.2.2.1 k) j
        have hu2 := sp_lines_le hO.1 j ((o_ws O i).2.2.1.2.2.1 k)
        refine rX12_favourite_49 ⟨D.ob, m_of (k := 3) D (by omega) (by omega) (W.ww hi).2.2.2.1 ⟨_, rfl, ow_n (nI_ge hk (by omega)) ⟨D.ob, m_word D (by omega) (by omega) (W.wd hi hk) ⟨_, rfl, _, _, D.1, rfl, _, _, D.2.1, mo_in1, ?_⟩⟩⟩⟩
        rw [W.at1]
        refine ⟨D.ob, m_usesOf D W hO.1 (by omega) (Nat.le_refl _) ⟨_, rfl, ?_⟩⟩
        rw [hu]
        refine pk_lt (sp_fv O j i (sp_fav O j i) k).1 (sp_lines O j ((o_ws O i).2.2.1.2.2.1 k)) (fun h1 => ?_) (fun h1 => ?_) rfl rfl
        · rw [if_neg (by omega)] at ih2
          rw [nI_1]; exact ih2
        · rw [if_pos h1] at ih2
          rw [nI_1]; exact ih2
    · rw [if_neg (of_decide_eq_false hz)] at ih
      rw [nI_1]; exact ih

theorem m_widest {x : Int32} (I : mo_I M O hn h sv isS er ea n b l s rb) (hO : ow_Ok2 O) (q0 : (∀ j, j < o_wk O → x ≠ nI j) → mo_K M O hn h sv isS er ea n b l 1 (Qr (some (.int 0)))) (q1 : ∀ j, j < o_wk O → x = nI j → mo_K M O hn h sv isS er ea n b l 0 (Qr (some (.int (nI (sp_mx (fun i => ((o_ws O j).2.2.2.2 i).2.2.1) (o_ws O j).2.2.2.1)))))) : kz_C G (d + 4) 0 0 mX12_widest [.ref 99, .int x] M Qr Qx := by
  have I0 := I.th' 0
  have C0 := I.cf 0
  have h9 : upd s 9 0 9 = nI 0 := rfl
  refine rX12_widest_0 ⟨_, I.1, ow_l rfl, ?_⟩
  generalize kz_up M 99 (.inl (11, (mo_fs s rb).set 9 (.int 0))) = M0 at I0 C0 ⊢
  generalize upd s 9 0 = s0 at I0 h9
  obtain ⟨f, g, D, W⟩ := I0.D
  have hwk := hO.1.1.2.2.2.1
  have hnw := hO.1.1.2.2.1
  have ix : ∀ a j : Nat, (OfNat.ofNat a : Int32) + nI j = nI (a + j) := fun a j => nI_add a j
  refine ⟨D.ob, m_noWork D W hO.1 (fun hx => ⟨_, rfl, fun z => absurd z (by decide), fun _ => (q0 hx).fl C0 I0 rfl⟩) fun j hj e => ⟨_, rfl, fun _ => ?_, fun z => absurd rfl z⟩⟩
  subst e
  have h60 := (hO.1.2.2.2 j hj).2.1
  obtain ⟨w1, w2⟩ := hO.2.2.2 j hj
  have key : ∀ i, i ≤ (o_ws O j).2.2.2.1 → 1 ≤ i → zX12_widest_19 G d Qr Qx 99 (nI j) (nI (sp_mx (fun i => ((o_ws O j).2.2.2.2 i).2.2.1) i)) (nI i) M0 := by
    refine ow_loop (o_ws O j).2.2.2.1 ?_ ?_
    · intro _
      exact rX12_widest_19 ⟨D.ob, m_of (k := 4) D (by omega) (by omega) (W.ww hj).2.2.2.2.1 ⟨_, rfl, ow_y (nI_le (Nat.le_refl _) (by omega)) ((q1 j hj rfl).go C0 I0 h9)⟩⟩
    · intro i hi ih h1
      have ih := ih (by omega)
      have hm := sp_mx_lt (fun i => ((o_ws O j).2.2.2.2 i).2.2.1) i (by omega)
      rw [sp_mx] at ih
      refine rX12_widest_19 ⟨D.ob, m_of (k := 4) D (by omega) (by omega) (W.ww hj).2.2.2.2.1 ⟨_, rfl, ow_n (nI_ge hi (by omega)) ⟨D.ob, m_widthOf D W hO.1 hj hi (w2 i hi).1.2.2 ⟨_, rfl, D.ob, m_widthOf D W hO.1 hj (by omega) (w2 _ (by omega)).1.2.2 ⟨_, rfl, ?_⟩⟩⟩⟩⟩
      rw [← (w2 i hi).1.1, ← (w2 (sp_mx (fun i => ((o_ws O j).2.2.2.2 i).2.2.1) i) (by omega)).1.1]
      refine ⟨fun hz => ?_, fun hz => ?_⟩
      · rw [if_pos hz] at ih
        rw [nI_1]; exact ih
      · rw [if_neg hz] at ih
        rw [nI_1]; exact ih
  have := key 1 w1 (Nat.le_refl _)
  rw [sp_mx_1] at this
  exact this

theorem m_copiedFrom {x : Int32} (I : mo_I M O hn h sv isS er ea n b l s rb) (hO : ow_Ok2 O) (q0 : (∀ j, j < o_wk O → x ≠ nI j) → mo_K M O hn h sv isS er ea n b l 1 (Qr (some (.int 0)))) (q1 : ∀ j, j < o_wk O → x = nI j → mo_K M O hn h sv isS er ea n b l 0 (Qr (some (.int (sp_cp O j (o_wk O)).2)))) : kz_C G (d + 5) 0 0 mX12_copiedFrom [.ref 99, .int x] M Qr Qx := by
  have I0 := I.th' 0
  have C0 := I.cf 0
  have h9 : upd s 9 0 9 = nI 0 := rfl
  refine rX12_copiedFrom_0 ⟨_, I.1, ow_l rfl, ?_⟩
  generalize kz_up M 99 (.inl (11, (mo_fs s rb).set 9 (.int 0))) = M0 at I0 C0 ⊢
  generalize upd s 9 0 = s0 at I0 h9
  obtain ⟨f, g, D, W⟩ := I0.D
  have hwk := hO.1.1.2.2.2.1
  have hnw := hO.1.1.2.2.1
  have ix : ∀ a j : Nat, (OfNat.ofNat a : Int32) + nI j = nI (a + j) := fun a j => nI_add a j
  refine ⟨D.ob, m_noWork D W hO.1 (fun hx => ⟨_, rfl, fun z => absurd z (by decide), fun _ => (q0 hx).fl C0 I0 rfl⟩) fun j hj e => ⟨_, rfl, fun _ => ?_, fun z => absurd rfl z⟩⟩
  subst e
  have h60 := (hO.1.2.2.2 j hj).2.1
  have hw6 := (hO.1.2.2.2 j hj).2.2.1
  refine ow_loop (P := fun i => zX12_copiedFrom_22 G d Qr Qx 99 (nI j) (sp_cp O j i).2 (nI (sp_cp O j i).1) (nI i) M0) (o_wk O) ?_ ?_ 0 (Nat.zero_le _)
  · refine rX12_copiedFrom_22 ⟨_, _, D.1, rfl, _, _, D.2.1, mo_in1, ?_⟩
    rw [W.at1]
    exact ow_y (nI_le (Nat.le_refl _) (by omega)) ((q1 j hj rfl).go C0 I0 h9)
  · intro i hi ih
    have hb := sp_cp_le O j i
    have hb2 := ow_ws_le (o_ws O j) (o_ws O i)
    rw [sp_cp] at ih
    refine rX12_copiedFrom_22 ⟨_, _, D.1, rfl, _, _, D.2.1, mo_in1, ?_⟩
    rw [W.at1]
    refine ow_n (nI_ge hi (by omega)) ⟨D.ob, m_of (k := 0) D (by omega) (by omega) (W.ww hj).1 ⟨_, rfl, D.ob, m_isBy D W hO.1 hi (by omega) ⟨_, rfl, ow_if0 (fun hz => ?_) (fun hz => ?_)⟩⟩⟩
    · rw [if_neg (of_decide_eq_false hz)] at ih
      refine ow_loop (P := fun k => zX12_copiedFrom_57 G d Qr Qx 99 (nI j) (sp_cp O j i).2 (nI (sp_cp O j i).1) (nI i) (nI (ow_cn (fun k => (ow_wf (o_ws O i) (o_ws O j).2.2.1 ((o_ws O j).2.2.2.2 k)).isSome) k)) (nI k) M0) (o_ws O j).2.2.2.1 ?_ ?_ 0 (Nat.zero_le _)
      · refine rX12_copiedFrom_57 ⟨D.ob, m_of (k := 4) D (by omega) (by omega) (W.ww hj).2.2.2.2.1 ⟨_, rfl, ow_y (nI_le (Nat.le_refl _) (by omega)) (pk_lt (sp_cp O j i).1 (ow_ws (o_ws O j) (o_ws O i)) (fun h1 => ?_) (fun h1 => ?_) rfl rfl)⟩⟩
        · rw [if_neg (by omega)] at ih
          rw [nI_1]; exact ih
        · rw [if_pos h1] at ih
          rw [nI_1]; exact ih
      · intro k hk ih2
        rw [ow_cn] at ih2
        refine rX12_copiedFrom_57 ⟨D.ob, m_of (k := 4) D (by omega) (by omega) (W.ww hj).2.2.2.2.1 ⟨_, rfl, ow_n (nI_ge hk (by omega)) ⟨D.ob, m_hasLike D W hO.1 hj hk hi ⟨_, rfl, ow_if0 (fun h1 => ?_) (fun h1 => ?_)⟩⟩⟩⟩
        · rw [if_neg (by rw [h1]; decide)] at ih2
          rw [nI_1, ow_add0]; exact ih2
        · rw [if_pos h1] at ih2
          rw [nI_1, nI_1]; exact ih2
    · rw [if_pos (of_decide_eq_true hz)] at ih
      rw [nI_1]; exact ih

theorem m_likeLine {x y : Int32} (I : mo_I M O hn h sv isS er ea n b l s rb) (hO : ow_Ok2 O) (q0 : (∀ j k, j < o_wk O → k < (o_ws O j).2.2.2.1 → x = nI j → y = nI k → False) → mo_K M O hn h sv isS er ea n b l 1 (Qr (some (.int 0)))) (q1 : ∀ j k, j < o_wk O → x = nI j → k < (o_ws O j).2.2.2.1 → y = nI k → mo_K M O hn h sv isS er ea n b l 0 (Qr (some (.int (sp_like O j k))))) : kz_C G (d + 4) 0 0 mX12_likeLine [.ref 99, .int x, .int y] M Qr Qx := by
  have I0 := I.th' 0
  have C0 := I.cf 0
  have h9 : upd s 9 0 9 = nI 0 := rfl
  refine rX12_likeLine_0 ⟨_, I.1, ow_l rfl, ?_⟩
  generalize kz_up M 99 (.inl (11, (mo_fs s rb).set 9 (.int 0))) = M0 at I0 C0 ⊢
  generalize upd s 9 0 = s0 at I0 h9
  obtain ⟨f, g, D, W⟩ := I0.D
  have hwk := hO.1.1.2.2.2.1
  have hnw := hO.1.1.2.2.1
  have ix : ∀ a j : Nat, (OfNat.ofNat a : Int32) + nI j = nI (a + j) := fun a j => nI_add a j
  refine ⟨D.ob, m_noLine D W hO.1 (fun hx => ⟨_, rfl, fun z => absurd z (by decide), fun _ => (q0 hx).fl C0 I0 rfl⟩) fun j k hj e hk ek => ⟨_, rfl, fun _ => ?_, fun z => absurd rfl z⟩⟩
  have Q1 := q1 j k hj e hk ek
  subst e
  subst ek
  have h60 := (hO.1.2.2.2 j hj).2.1
  have hw6 := (hO.1.2.2.2 j hj).2.2.1
  have key : ∀ i, i ≤ j → (∀ i', i' < i → (decide ((o_ws O i').1 = (o_ws O j).1) && (ow_wf (o_ws O i') (o_ws O j).2.2.1 ((o_ws O j).2.2.2.2 k)).isSome) = false) → zX12_likeLine_18 G d Qr Qx 99 (nI j) (nI k) (nI i) M0 := by
    refine ow_loop j ?_ ?_
    · intro hno
      rw [sp_like, show ow_fs (fun i => decide ((o_ws O i).1 = (o_ws O j).1) && (ow_wf (o_ws O i) (o_ws O j).2.2.1 ((o_ws O j).2.2.2.2 k)).isSome) j = none from ow_fs_none hno] at Q1
      refine rX12_likeLine_18 (ow_n (nI_nlt (Nat.le_refl _) (by omega)) ⟨D.ob, m_of (k := 0) D (by omega) (by omega) (W.ww hj).1 ⟨_, rfl, D.ob, m_isBy D W hO.1 hj (by omega) ⟨_, rfl, ?_⟩⟩⟩)
      rw [decide_eq_true rfl]
      refine ow_yn (by decide) ?_
      have inner : ∀ m, m ≤ k → (∀ m', m' < m → ow_lk (o_ws O j).2.2.1 ((o_ws O j).2.2.2.2 m') (o_ws O j).2.2.1 ((o_ws O j).2.2.2.2 k) = false) → zX12_likeLine_43 G d Qr Qx 99 (nI j) (nI k) (nI j) (nI m) M0 := by
        refine ow_loop k ?_ ?_
        · intro hn2
          have hself : ow_lk (o_ws O j).2.2.1 ((o_ws O j).2.2.2.2 k) (o_ws O j).2.2.1 ((o_ws O j).2.2.2.2 k) = true := by
            unfold ow_lk
            rw [decide_eq_true rfl, ow_ex_f.mpr fun i _ => decide_eq_false fun z => z rfl]
            rfl
          have hwf : ow_wf (o_ws O j) (o_ws O j).2.2.1 ((o_ws O j).2.2.2.2 k) = some k := ow_fs_some hself hn2 hk
          rw [hwf] at Q1
          have Q2 : mo_K M O hn h sv isS er ea n b l 0 (Qr (some (.int (if nI k = nI k then -1 else 100 * nI j + nI k)))) := Q1
          rw [if_pos rfl] at Q2
          exact rX12_likeLine_43 ⟨D.ob, m_of (k := 4) D (by omega) (by omega) (W.ww hj).2.2.2.2.1 ⟨_, rfl, ow_n (nI_ge hk (by omega)) (ow_nn rfl (ow_nn rfl (Q2.go C0 I0 h9)))⟩⟩
        · intro m hm ih2 hn2
          have hmk : ¬ nI m = nI k := fun z => by
            have := (nI_eq (by omega) (by omega)).mp z
            omega
          refine rX12_likeLine_43 ⟨D.ob, m_of (k := 4) D (by omega) (by omega) (W.ww hj).2.2.2.2.1 ⟨_, rfl, ow_n (nI_ge (by omega) (by omega)) (ow_nn rfl (ow_yn hmk ⟨D.ob, m_alike D W hO.1 hj hk hj (by omega) ⟨_, rfl, ow_if0 (fun hz => ?_) (fun hz => ?_)⟩⟩))⟩⟩
          · rw [nI_1]
            refine ih2 fun m' hm' => ?_
            rcases Nat.lt_or_ge m' m with h5 | h5
            · exact hn2 m' h5
            · have : m' = m := by omega
              subst this
              rw [ow_lk_comm]; exact hz
          · have hwf : ow_wf (o_ws O j) (o_ws O j).2.2.1 ((o_ws O j).2.2.2.2 k) = some m := ow_fs_some (by rw [ow_lk_comm]; exact hz) hn2 (by omega)
            rw [hwf] at Q1
            have Q2 : mo_K M O hn h sv isS er ea n b l 0 (Qr (some (.int (if nI m = nI k then -1 else 100 * nI j + nI m)))) := Q1
            rw [if_neg hmk] at Q2
            exact Q2.go C0 I0 h9
      exact inner 0 (Nat.zero_le _) fun m hm => absurd hm (Nat.not_lt_zero m)
    · intro i hi ih hno
      have i60 := (hO.1.2.2.2 i (by omega)).2.1
      have hij : ¬ nI i = nI j := fun z => by
        have := (nI_eq (by omega) (by omega)).mp z
        omega
      have next : (decide ((o_ws O i).1 = (o_ws O j).1) && (ow_wf (o_ws O i) (o_ws O j).2.2.1 ((o_ws O j).2.2.2.2 k)).isSome) = false → zX12_likeLine_18 G d Qr Qx 99 (nI j) (nI k) (nI (i + 1)) M0 := fun hp => ih fun i' hi' => by
        rcases Nat.lt_or_ge i' i with h5 | h5
        · exact hno i' h5
        · have : i' = i := by omega
          subst this
          exact hp
      refine rX12_likeLine_18 (ow_n (nI_nlt (by omega) (by omega)) ⟨D.ob, m_of (k := 0) D (by omega) (by omega) (W.ww hj).1 ⟨_, rfl, D.ob, m_isBy D W hO.1 (by omega) (by omega) ⟨_, rfl, ow_ifn (fun hz => ?_) (fun hz => ?_)⟩⟩⟩)
      · have inner : ∀ m, m ≤ (o_ws O i).2.2.2.1 → (∀ m', m' < m → ow_lk (o_ws O i).2.2.1 ((o_ws O i).2.2.2.2 m') (o_ws O j).2.2.1 ((o_ws O j).2.2.2.2 k) = false) → zX12_likeLine_43 G d Qr Qx 99 (nI j) (nI k) (nI i) (nI m) M0 := by
          refine ow_loop (o_ws O i).2.2.2.1 ?_ ?_
          · intro hn2
            refine rX12_likeLine_43 ⟨D.ob, m_of (k := 4) D (by omega) (by omega) (W.ww (by omega)).2.2.2.2.1 ⟨_, rfl, ow_y (nI_le (Nat.le_refl _) (by omega)) ?_⟩⟩
            rw [nI_1]
            refine next ?_
            rw [show ow_wf (o_ws O i) (o_ws O j).2.2.1 ((o_ws O j).2.2.2.2 k) = none from ow_fs_none hn2]
            simp
          · intro m hm ih2 hn2
            refine rX12_likeLine_43 ⟨D.ob, m_of (k := 4) D (by omega) (by omega) (W.ww (by omega)).2.2.2.2.1 ⟨_, rfl, ow_n (nI_ge hm (by omega)) (ow_yn hij ⟨D.ob, m_alike D W hO.1 hj hk (by omega) hm ⟨_, rfl, ow_if0 (fun hz2 => ?_) (fun hz2 => ?_)⟩⟩)⟩⟩
            · rw [nI_1]
              refine ih2 fun m' hm' => ?_
              rcases Nat.lt_or_ge m' m with h5 | h5
              · exact hn2 m' h5
              · have : m' = m := by omega
                subst this
                rw [ow_lk_comm]; exact hz2
            · have hwf : ow_wf (o_ws O i) (o_ws O j).2.2.1 ((o_ws O j).2.2.2.2 k) = some m := ow_fs_some (by rw [ow_lk_comm]; exact hz2) hn2 hm
              rw [sp_like, show ow_fs (fun i => decide ((o_ws O i).1 = (o_ws O j).1) && (ow_wf (o_ws O i) (o_ws O j).2.2.1 ((o_ws O j).2.2.2.2 k)).isSome) j = some i from ow_fs_some (by rw [hz, hwf]; rfl) hno hi] at Q1
              have Q2 : mo_K M O hn h sv isS er ea n b l 0 (Qr (some (.int (100 * nI i + ow_oi (ow_wf (o_ws O i) (o_ws O j).2.2.1 ((o_ws O j).2.2.2.2 k)))))) := Q1
              rw [hwf] at Q2
              exact Q2.go C0 I0 h9
        exact inner 0 (Nat.zero_le _) fun m hm => absurd hm (Nat.not_lt_zero m)
      · rw [nI_1]
        refine next ?_
        rw [hz]; rfl
  exact key 0 (Nat.zero_le _) fun i hi => absurd hi (Nat.not_lt_zero i)

end MOA
