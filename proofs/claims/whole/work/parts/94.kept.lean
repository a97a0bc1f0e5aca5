/-! Part 94: what every change keeps -/
/-- what holds of every office that calls lead to; balances up to c -/
def mo_ok (O : ow_O) (c : Nat) : Prop := ow_Ok2 O ∧ ow_Nms O ∧ ow_Bd O c ∧ o_ru O 0 ≤ 30
theorem bd_add {a b : Int32} {c k : Nat} (h1 : a.toInt.natAbs ≤ c) (h2 : b.toInt.natAbs ≤ k) (h3 : c + k < 2 ^ 31) : (a + b).toInt.natAbs ≤ c + k := by
  rw [Int32.toInt_add, Int.bmod_eq_of_le (by omega) (by omega)]
  omega
theorem bd_neg {a : Int32} {k : Nat} (h : a.toInt.natAbs ≤ k) (hk : k < 2 ^ 31) : (-a).toInt.natAbs ≤ k := by
  rw [Int32.toInt_neg, Int.bmod_eq_of_le (by omega) (by omega)]
  omega
theorem bd_nI {p k : Nat} (h : p ≤ k) (hk : k < 2 ^ 31) : (nI p).toInt.natAbs ≤ k := by
  rw [nI_toInt (by omega)]
  omega
theorem ow_Bd.mono {O : ow_O} {c k : Nat} (h : ow_Bd O c) (hk : c ≤ k) : ow_Bd O k := fun i hi => Nat.le_trans (h i hi) hk
theorem ow_Bd.book {O : ow_O} {c k v : Nat} {kd am : Int32} (h : ow_Bd O c) (hv : v < o_nw O) (ha : am.toInt.natAbs ≤ k) (hc : c + k < 2 ^ 31) : ow_Bd (o_book O v kd am) (c + k) := fun i hi => by
  rw [o_book_nw] at hi
  unfold o_book
  split
  · exact Nat.le_trans (h i hi) (by omega)
  · show (if i = v then o_ba O v + am else o_ba O i).toInt.natAbs ≤ c + k
    split
    · exact bd_add (h v hv) ha hc
    · exact Nat.le_trans (h i hi) (by omega)
theorem o_book_ws {O : ow_O} {v : Nat} {kd am : Int32} : o_ws (o_book O v kd am) = o_ws O := by unfold o_book; split <;> rfl
theorem o_book_nm {O : ow_O} {v : Nat} {kd am : Int32} : o_nm (o_book O v kd am) = o_nm O := by unfold o_book; split <;> rfl
theorem ow_Ok2.book {O : ow_O} {v : Nat} {kd am : Int32} (h : ow_Ok2 O) : ow_Ok2 (o_book O v kd am) := by
  refine ⟨h.1.book, fun i hi => ?_, by rw [o_book_nw]; exact h.2.2.1, fun i hi => ?_⟩
  · rw [o_book_wk] at hi
    rw [o_book_ws, o_book_nw]
    exact h.2.1 i hi
  · rw [o_book_wk] at hi
    rw [o_book_ws]
    exact h.2.2.2 i hi
theorem ow_Nms.book {O : ow_O} {v : Nat} {kd am : Int32} (h : ow_Nms O) : ow_Nms (o_book O v kd am) := fun i hi => by
  rw [o_book_nw] at hi
  rw [o_book_nm]
  exact h i hi
theorem mo_ok.book {O : ow_O} {c k v : Nat} {kd am : Int32} (h : mo_ok O c) (hv : v < o_nw O) (ha : am.toInt.natAbs ≤ k) (hc : c + k < 2 ^ 31) : mo_ok (o_book O v kd am) (c + k) := ⟨h.1.book, h.2.1.book, h.2.2.1.book hv ha hc, by rw [o_book_ru]; exact h.2.2.2⟩
theorem mo_ok.mono {O : ow_O} {c k : Nat} (h : mo_ok O c) (hk : c ≤ k) : mo_ok O k := ⟨h.1, h.2.1, h.2.2.1.mono hk, h.2.2.2⟩
theorem mo_ok.pass {O : ow_O} {c m : Nat} (h : mo_ok O c) (hm : o_dy O + m ≤ 9999) : mo_ok (o_pass O m) c := ⟨⟨⟨⟨hm, h.1.1.1.2⟩, h.1.1.2⟩, h.1.2⟩, h.2⟩
theorem mo_ok.money {O : ow_O} {c m : Nat} (h : mo_ok O c) (hm : m ≤ 99999) : mo_ok (o_money O m) c := ⟨⟨h.1.1.money hm, h.1.2⟩, h.2⟩
theorem mo_ok.endow {O : ow_O} {c m : Nat} (h : mo_ok O c) : mo_ok (o_endow O m) c := h.money (by
  split
  · omega
  · exact Nat.le_refl _)
theorem mo_ok.rule {O : ow_O} {c j m : Nat} (h : mo_ok O c) (hj : j < 10) (hm : m ≤ ow_hi j) : mo_ok (o_rule O j m) c := by
  have h99 := ow_hi_le j hj
  refine ⟨⟨h.1.1.rule (by omega), h.1.2⟩, h.2.1, h.2.2.1, ?_⟩
  show (if 0 = j then m else o_ru O 0) ≤ 30
  split
  · rename_i h0
    subst h0
    exact hm
  · exact h.2.2.2
theorem mo_ok.enrol {O : ow_O} {c x : Nat} (h : mo_ok O c) (hn : o_nw O < 6) (hx : ow_Nm x) : mo_ok (o_enrol O x) c := by
  refine ⟨⟨h.1.1.enrol hn hx.ok, fun i hi => Nat.lt_succ_of_lt (h.1.2.1 i hi), Nat.succ_pos _, h.1.2.2.2⟩, h.2.1.enrol hx, fun i hi => ?_, h.2.2.2⟩
  have hi : i < o_nw O + 1 := hi
  show (if i = o_nw O then (0 : Int32) else o_ba O i).toInt.natAbs ≤ c
  split
  · have : (0 : Int32).toInt = 0 := by decide
    omega
  · exact h.2.2.1 i (by omega)
theorem mo_ok.hd {O : ow_O} {c v am : Nat} (h : mo_ok O c) : mo_ok (o_hd O v am) c := ⟨⟨o_hd_ok h.1.1, h.1.2⟩, h.2⟩
theorem mo_ok.hand {O : ow_O} {c v am : Nat} {kd : Int32} (h : mo_ok O c) (hv : v < o_nw O) (ha : am ≤ 99999) (hc : c + 99999 < 2 ^ 31) : mo_ok (o_hand O v kd am) (c + am) := by
  have h1 := (h.hd (v := v) (am := am)).book (k := am) (v := v) (kd := kd) (am := -(nI am)) hv (bd_neg (bd_nI (Nat.le_refl am) (by omega)) (by omega)) (by omega)
  exact h1
theorem bd_pay {b : Int32} {p c : Nat} (hb : 0 < b) (hp : p ≤ b.toNatClampNeg) (h : b.toInt.natAbs ≤ c) : (b + -(nI p)).toInt.natAbs ≤ c := by
  have hn : ¬ b < 0 := by
    rw [Int32.lt_iff_toInt_lt] at hb ⊢
    omega
  obtain ⟨m, hm, rfl⟩ := nI_of hn
  rw [nI_clamp hm] at hp
  rw [nI_toInt hm] at h
  have e : nI m + -(nI p) = nI (m - p) := by
    rw [← Int32.sub_eq_add_neg]
    exact pk_sub hp
  rw [e]
  have h1 := bd_nI (Nat.le_refl (m - p)) (by omega)
  omega
theorem mo_ok.payOut {O : ow_O} {c v : Nat} {kd : Int32} (h : mo_ok O c) (hv : v < o_nw O) (hc : c < 2 ^ 31) : mo_ok (o_hand O v kd (sp_po O v)) c := by
  refine ⟨(h.hd (v := v) (am := sp_po O v)).1.book, (h.hd (v := v) (am := sp_po O v)).2.1.book, fun i hi => ?_, by
    show o_ru (o_book (o_hd O v (sp_po O v)) v kd (-(nI (sp_po O v)))) 0 ≤ 30
    rw [o_book_ru]; exact h.2.2.2⟩
  rw [o_hand_nw] at hi
  show (o_ba (o_book (o_hd O v (sp_po O v)) v kd (-(nI (sp_po O v)))) i).toInt.natAbs ≤ c
  unfold o_book
  split
  · exact h.2.2.1 i hi
  · rename_i hne
    show (if i = v then o_ba O v + -(nI (sp_po O v)) else o_ba O i).toInt.natAbs ≤ c
    split
    · have hpos : 0 < o_ba O v := by
        refine Classical.byContradiction fun hz => hne ?_
        have : sp_po O v = 0 := if_neg hz
        rw [this]
        rfl
      refine bd_pay hpos ?_ (h.2.2.1 v hv)
      have : sp_po O v = min (o_mo O) (o_ba O v).toNatClampNeg := if_pos hpos
      rw [this]
      exact Nat.min_le_right _ _
    · exact h.2.2.1 i hi
theorem ow_leF_wd (s : ow_S) (me x W : Nat) : ∀ f k width, x < k → width = ow_wd s.2.2.1 x k → width ≤ W → me ≤ W → ow_wd s.2.2.1 x (ow_leF s me f k width) ≤ W
  | 0, k, width, _, e, h, _ => by
    show ow_wd s.2.2.1 x k ≤ W
    omega
  | f + 1, k, width, hx, e, h, hm => by
    unfold ow_leF
    split
    · rename_i hg
      simp only [ow_go, Bool.and_eq_true, decide_eq_true_eq] at hg
      refine ow_leF_wd s me x W f (k + 1) _ (by omega) ?_ (by omega) hm
      rw [ow_wd_s hx]
      omega
    · omega
theorem ow_le_wd {s : ow_S} {me a W : Nat} (hW : 12 ≤ W) (hm : me ≤ W) : ow_wd s.2.2.1 a (ow_le s me a) ≤ W := by
  have hl := ow_lw_le (s.2.2.1 a)
  unfold ow_le
  split
  · rw [ow_wd_1]; omega
  · exact ow_leF_wd s me a W _ _ _ (by omega) (ow_wd_1 _ _).symm (by omega) hm
theorem ow_nl_pos {s : ow_S} {me : Nat} (h : 1 ≤ s.2.1) : 1 ≤ ow_nl s me := by
  unfold ow_nl
  obtain ⟨m, hm⟩ : ∃ m, s.2.1 = m + 1 := ⟨s.2.1 - 1, by omega⟩
  rw [hm, ow_nlF, if_pos (by omega)]
  omega
theorem ow_jl_lin {s : ow_S} {me r st wo i : Nat} {z : Nat × ow_P} (hm : me ≤ 30) (hr : r ≤ 99) : ow_Lin s (ow_jl s me (nI r) st wo z i) := by
  refine ⟨⟨rfl, ?_, ?_⟩, ?_, ?_⟩
  · show ow_wd s.2.2.1 (ow_it s me i 0) (ow_it s me (i + 1) 0) ≤ 30
    rw [ow_it_s]
    exact ow_le_wd (by omega) hm
  · show ow_it s me i 0 < ow_it s me (i + 1) 0
    rw [ow_it_s]
    exact ow_le_gt s me _
  · show (if _ then 0 else 1) = 0 ↔ _
    split
    · rename_i h
      exact ⟨fun _ => h, fun _ => rfl⟩
    · rename_i h
      exact ⟨fun z => by omega, fun z => absurd z h⟩
  · exact ow_pf_le hr
theorem mo_ok.more {O : ow_O} {c j : Nat} {S : ow_S} (h : mo_ok O c) (hwk : o_wk O < 12) (hj : j < o_nw O) (hS : ow_Sok S) : mo_ok (o_more O (ow_jw O j S (o_ru O) (o_wk O))) c := by
  have hnw := h.1.1.1.2.2.1
  have hk := hS.1
  refine ⟨⟨h.1.1.more hwk (ow_jw_ok hS (by omega) h.1.1.1.1), fun i hi => ?_, h.1.2.2.1, fun i hi => ?_⟩, h.2⟩
  · have hi : i < o_wk O + 1 := hi
    show (if i = o_wk O then ow_jw O j S (o_ru O) (o_wk O) else o_ws O i).1 < o_nw O
    split
    · exact hj
    · exact h.1.2.1 i (by omega)
  · have hi : i < o_wk O + 1 := hi
    show 1 ≤ (if i = o_wk O then ow_jw O j S (o_ru O) (o_wk O) else o_ws O i).2.2.2.1 ∧ ∀ l, l < (if i = o_wk O then ow_jw O j S (o_ru O) (o_wk O) else o_ws O i).2.2.2.1 → ow_Lin (if i = o_wk O then ow_jw O j S (o_ru O) (o_wk O) else o_ws O i).2.2.1 ((if i = o_wk O then ow_jw O j S (o_ru O) (o_wk O) else o_ws O i).2.2.2.2 l)
    split
    · exact ⟨ow_nl_pos hS.2.1, fun l hl => ow_jl_lin h.2.2.2 (h.1.1.2.1 _ (by omega))⟩
    · exact h.1.2.2.2 i (by omega)
theorem mo_ok.sub {O : ow_O} {c j : Nat} {S : ow_S} (h : mo_ok O c) (hwk : o_wk O < 12) (hj : j < o_nw O) (hS : ow_Sok S) (hc : c + 12000 < 2 ^ 31) : mo_ok (o_in O (ow_jw O j S (o_ru O) (o_wk O))) (c + 12000) := by
  have hk := hS.1
  have h60 := Nat.le_trans (ow_nl_le S (o_ru O 0)) hS.2.2.1
  have h3 : o_ru O 3 ≤ 99 := h.1.1.2.1 3 (by omega)
  have m := h.more hwk hj hS
  have hp : (ow_wp (ow_jw O j S (o_ru O) (o_wk O))).toInt.natAbs ≤ 5940 := by
    obtain ⟨p, h1, h2⟩ := ow_sm_nat (F := fun i => if ow_cts ((ow_jw O j S (o_ru O) (o_wk O)).2.2.2.2 i) then ((ow_jw O j S (o_ru O) (o_wk O)).2.2.2.2 i).2.2.2.1 else 0) (c := 99) (ow_nl S (o_ru O 0)) fun i hi => by
      show ∃ p, p ≤ 99 ∧ (if ow_cts ((ow_jw O j S (o_ru O) (o_wk O)).2.2.2.2 i) then ((ow_jw O j S (o_ru O) (o_wk O)).2.2.2.2 i).2.2.2.1 else 0) = nI p
      split
      · exact ow_pf_le (h.1.1.2.1 (7 + S.1) (by omega))
      · exact ⟨0, by omega, rfl⟩
    have h4 : 99 * ow_nl S (o_ru O 0) ≤ 99 * 60 := Nat.mul_le_mul_left 99 h60
    have e : ow_wp (ow_jw O j S (o_ru O) (o_wk O)) = nI p := h2
    rw [e]
    exact bd_nI (by omega) (by omega)
  have hf : (-(o_fine O (ow_jw O j S (o_ru O) (o_wk O)))).toInt.natAbs ≤ 5940 := by
    refine bd_neg ?_ (by omega)
    unfold o_fine
    have hw : ow_wl 2 (ow_jw O j S (o_ru O) (o_wk O)) ≤ 60 := ow_wl_le h60
    rw [show nI (o_ru O 3) * nI (ow_wl 2 (ow_jw O j S (o_ru O) (o_wk O))) = nI (o_ru O 3 * ow_wl 2 (ow_jw O j S (o_ru O) (o_wk O))) from pk_mul _ _]
    have h4 : o_ru O 3 * ow_wl 2 (ow_jw O j S (o_ru O) (o_wk O)) ≤ 99 * 60 := Nat.mul_le_mul h3 hw
    exact bd_nI (by omega) (by omega)
  have b1 := m.book (v := j) (kd := 0) (k := 5940) hj hp (by omega)
  have b2 := b1.book (v := j) (kd := 1) (k := 5940) (by rw [o_book_nw]; exact hj) hf (by omega)
  exact b2.mono (by omega)
theorem mo_ok.repl {O : ow_O} {c j k x : Nat} (h : mo_ok O c) (hj : j < o_wk O) (hk : k < (o_ws O j).2.2.2.1) (hs : ((o_ws O j).2.2.2.2 k).2.2.2.2.2 = 1) (hx : x = 2 ∨ x = 3) : mo_ok (o_repl O j (ow_wst (o_ws O j) k x)) c := by
  have hl := (h.1.2.2.2 j hj).2 k hk
  refine ⟨⟨h.1.1.repl ((h.1.1.2.2.2 j hj).wst hk (by omega)), fun i hi => ?_, h.1.2.2.1, fun i hi => ?_⟩, h.2⟩
  · have hi : i < o_wk O := hi
    show (if i = j then ow_wst (o_ws O j) k x else o_ws O i).1 < o_nw O
    split
    · exact h.1.2.1 j hj
    · exact h.1.2.1 i hi
  · have hi : i < o_wk O := hi
    show 1 ≤ (if i = j then ow_wst (o_ws O j) k x else o_ws O i).2.2.2.1 ∧ ∀ l, l < (if i = j then ow_wst (o_ws O j) k x else o_ws O i).2.2.2.1 → ow_Lin (if i = j then ow_wst (o_ws O j) k x else o_ws O i).2.2.1 ((if i = j then ow_wst (o_ws O j) k x else o_ws O i).2.2.2.2 l)
    split
    · refine ⟨(h.1.2.2.2 j hj).1, fun l hl' => ?_⟩
      by_cases hlk : l = k
      · subst hlk
        have e : (ow_wst (o_ws O j) l x).2.2.2.2 l = (((o_ws O j).2.2.2.2 l).1, ((o_ws O j).2.2.2.2 l).2.1, ((o_ws O j).2.2.2.2 l).2.2.1, ((o_ws O j).2.2.2.2 l).2.2.2.1, ((o_ws O j).2.2.2.2 l).2.2.2.2.1, x) := if_pos rfl
        rw [e]
        refine ⟨hl.1, ?_, hl.2.2⟩
        have h2 := hl.2.1
        exact ⟨fun z => by
          have z : x = 0 := z
          omega, fun z => by
          have := h2.mpr z
          omega⟩
      · have e : (ow_wst (o_ws O j) k x).2.2.2.2 l = (o_ws O j).2.2.2.2 l := if_neg hlk
        rw [e]
        exact (h.1.2.2.2 j hj).2 l hl'
    · exact h.1.2.2.2 i hi
theorem o_obj_st {O : ow_O} {w : ow_W} {l : ow_L} (h : o_obj O w l = 0) : l.2.2.2.2.2 = 1 := by
  unfold o_obj at h
  split at h
  · assumption
  · omega
theorem mo_ok.lose {O : ow_O} {c j k : Nat} (h : mo_ok O c) (hj : j < o_wk O) (hk : k < (o_ws O j).2.2.2.1) (ho : o_obj O (o_ws O j) ((o_ws O j).2.2.2.2 k) = 0) (hc : c + 12000 < 2 ^ 31) : mo_ok (o_lose O j k) (c + 12000) := by
  have h6 : o_ru O 6 ≤ 99 := h.1.1.2.1 6 (by omega)
  exact ((h.repl hj hk (o_obj_st ho) (Or.inr rfl)).book (k := 99) (h.1.2.1 j hj) (bd_neg (bd_nI h6 (by omega)) (by omega)) (by omega)).mono (by omega)
theorem mo_ok.gain {O : ow_O} {c j k : Nat} (h : mo_ok O c) (hj : j < o_wk O) (hk : k < (o_ws O j).2.2.2.1) (ho : o_obj O (o_ws O j) ((o_ws O j).2.2.2.2 k) = 0) (hc : c + 12000 < 2 ^ 31) : mo_ok (o_gain O j k) (c + 12000) := by
  have h3 : o_ru O 3 ≤ 99 := h.1.1.2.1 3 (by omega)
  obtain ⟨p, p1, p2⟩ := ((h.1.2.2.2 j hj).2 k hk).2.2
  refine ((h.repl hj hk (o_obj_st ho) (Or.inl rfl)).book (k := 198) (h.1.2.1 j hj) ?_ (by omega)).mono (by omega)
  rw [p2, nI_add]
  exact bd_nI (by omega) (by omega)
/-- what a setup text leads to keeps the measure -/
def sp_m30 (r : sp_R) : Prop := match r with
  | .inl _ => True
  | .inr z => o_ru z.2.1 0 ≤ 30
theorem sp_sc_m30 {n : Nat} {b : Nat → Nat} {i : Nat} {O : ow_O} {t : Nat → Bool} (h : o_ru O 0 ≤ 30) : sp_m30 (sp_sc n b i O t) := by
  unfold sp_sc
  split
  · exact h
  · trivial
theorem sp_nu_hi {n : Nat} {b : Nat → Nat} {lo hi i m : Nat} (h : sp_nu n b lo hi i = .inr m) : m ≤ hi := by
  unfold sp_nu at h
  split at h
  · split at h
    · rename_i h2
      cases h
      exact h2.2
    · cases h
  · cases h
theorem sp_of_m30 {n : Nat} {b : Nat → Nat} {i : Nat} {O : ow_O} {t : Nat → Bool} (h : o_ru O 0 ≤ 30) : sp_m30 (sp_of n b i O t) := by
  unfold sp_of
  split
  · split
    · trivial
    · exact sp_sc_m30 h
  · trivial
theorem sp_wr_m30 {n : Nat} {b : Nat → Nat} {st i : Nat} {O : ow_O} {t : Nat → Bool} (h : o_ru O 0 ≤ 30) : sp_m30 (sp_wr n b st i O t) := by
  unfold sp_wr
  split
  · split
    · split
      · trivial
      · exact sp_sc_m30 h
    · trivial
  · trivial
theorem sp_se_m30 {n : Nat} {b : Nat → Nat} {st k w i : Nat} {O : ow_O} {t : Nat → Bool} (h : o_ru O 0 ≤ 30) : sp_m30 (sp_se n b st k w i O t) := by
  unfold sp_se
  split
  · trivial
  · split
    · trivial
    · split
      · trivial
      · rename_i j _ _ _ m hm
        refine sp_sc_m30 ?_
        show (if 0 = j then m else o_ru O 0) ≤ 30
        split
        · rename_i h0
          subst h0
          exact sp_nu_hi hm
        · exact h
theorem sp_lp_m30 {n : Nat} {b : Nat → Nat} : ∀ f i O t, o_ru O 0 ≤ 30 → sp_m30 (sp_lp n b f i O t)
  | 0, _, _, _, _ => trivial
  | f + 1, i, O, t, h => by
    unfold sp_lp
    split
    · split
      · exact h
      · trivial
    · have hm : sp_m30 (if sp_tk n b i = 1 ∧ sp_wd n b i = kz_cd 1034 then sp_wr n b (sp_st n b i) (sp_en n b i) O t else sp_se n b (sp_st n b i) (sp_tk n b i) (sp_wd n b i) (sp_en n b i) O t) := by
        split
        · exact sp_wr_m30 h
        · exact sp_se_m30 h
      split
      · trivial
      · rename_i z hz
        rw [hz] at hm
        exact sp_lp_m30 f _ _ _ hm
theorem sp_read_m30 {n : Nat} {b : Nat → Nat} {p : Nat} {O : ow_O} {t : Nat → Bool} (h : sp_read n b = .inr (p, O, t)) : o_ru O 0 ≤ 30 := by
  have h0 : o_ru o_0 0 ≤ 30 := by decide
  have hm : sp_m30 (sp_read n b) := by
    unfold sp_read
    have h1 := sp_of_m30 (n := n) (b := b) (i := 0) (t := fun _ => false) h0
    split
    · trivial
    · rename_i z hz
      rw [hz] at h1
      exact sp_lp_m30 _ _ _ _ h1
  rw [h] at hm
  exact hm
theorem mo_ok.read {O : ow_O} {n : Nat} {b : Nat → Nat} {p : Nat} {t : Nat → Bool} (h : sp_read n b = .inr (p, O, t)) (iv : mo_inv O) (hpos : 0 < o_nw O) (c : Nat) : mo_ok O c := by
  obtain ⟨i1, i2, i3, i4⟩ := iv
  refine ⟨⟨i1, fun i hi => by omega, hpos, fun i hi => by omega⟩, i2, fun i hi => ?_, sp_read_m30 h⟩
  rw [i4 i hi]
  have : (0 : Int32).toInt = 0 := by decide
  omega
theorem mo_ok_1 (c : Nat) : mo_ok o_1 c := by
  obtain ⟨i1, i2, i3, i4⟩ := mo_inv_1
  refine ⟨⟨i1, fun i hi => by omega, by decide, fun i hi => by omega⟩, i2, fun i hi => ?_, by decide⟩
  rw [i4 i hi]
  have : (0 : Int32).toInt = 0 := by decide
  omega
