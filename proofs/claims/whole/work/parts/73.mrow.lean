/-! Part 73: the reference: a row is taken, looked at, summed -/
theorem ow_pb_sm (S : ow_S) (me : Nat) (rate : Int32) : ow_pb S me rate = ow_sm (fun i => (ow_l0 S me rate i).2.2.2.1) (ow_nl S me) := by
  have key : ∀ fuel i, ow_pbF S me rate fuel (ow_it S me i 0) (ow_sm (fun i => (ow_l0 S me rate i).2.2.2.1) i) = ow_sm (fun i => (ow_l0 S me rate i).2.2.2.1) (i + ow_nlF S me fuel (ow_it S me i 0)) := by
    intro fuel
    induction fuel with
    | zero => intro i; rfl
    | succ fuel ih =>
      intro i
      rw [ow_pbF, ow_nlF]
      split
      · have h := ih (i + 1)
        rw [ow_it_s] at h
        rw [show i + (ow_nlF S me fuel (ow_le S me (ow_it S me i 0)) + 1) = i + 1 + ow_nlF S me fuel (ow_le S me (ow_it S me i 0)) by omega, ← h]
        congr 1
        rw [ow_sm]
        show _ = _ + ow_pf (ow_wd S.2.2.1 (ow_it S me i 0) (ow_it S me (i + 1) 0)) me rate
        rw [ow_it_s]
      · rfl
  have h := key S.2.1 0
  rw [Nat.zero_add] at h
  exact h
theorem mu_jl_ok {S : ow_S} {me : Nat} {rate : Int32} {st wo i : Nat} {z : Nat × ow_P} (hi : i < ow_nl S me) : ow_Lok S (mu_jl S me rate st wo z i) := ow_jl_ok hi
/-- lines below i are judged, those from i on are as they are made -/
def mu_mx (S : ow_S) (me : Nat) (rate : Int32) (st wo : Nat) (z : Nat × ow_P) (i j : Nat) : ow_L := if j < i then mu_jl S me rate st wo z j else ow_l0 S me rate j
theorem mu_mx_lt {S : ow_S} {me : Nat} {rate : Int32} {st wo : Nat} {z : Nat × ow_P} {i j : Nat} (h : j < i) : mu_mx S me rate st wo z i j = mu_jl S me rate st wo z j := if_pos h
theorem mu_mx_ge {S : ow_S} {me : Nat} {rate : Int32} {st wo : Nat} {z : Nat × ow_P} {i j : Nat} (h : i ≤ j) : mu_mx S me rate st wo z i j = ow_l0 S me rate j := if_neg (Nat.not_lt.mpr h)
def mo_cp (f g : Nat → Int32) (x y n : Nat) : Nat → Int32 := fun k => if y ≤ k ∧ k < y + n then f (x + (k - y)) else g k
def mo_cpL (f g : Nat → Int64) (x y n : Nat) : Nat → Int64 := fun k => if y ≤ k ∧ k < y + n then f (x + (k - y)) else g k
theorem mo_cp_0 (f g : Nat → Int32) (x y : Nat) : mo_cp f g x y 0 = g := funext fun k => if_neg (by omega)
theorem mo_cpL_0 (f g : Nat → Int64) (x y : Nat) : mo_cpL f g x y 0 = g := funext fun k => if_neg (by omega)
theorem mo_cp_s (f g : Nat → Int32) (x y n : Nat) : upd (mo_cp f g x y n) (y + n) (f (x + n)) = mo_cp f g x y (n + 1) := by
  funext k
  unfold upd mo_cp
  by_cases h : k = y + n
  · rw [if_pos h, if_pos (by omega), show x + (k - y) = x + n by omega]
  · rw [if_neg h]
    by_cases h2 : y ≤ k ∧ k < y + n
    · rw [if_pos h2, if_pos (by omega)]
    · rw [if_neg h2, if_neg (by omega)]
theorem mo_cpL_s (f g : Nat → Int64) (x y n : Nat) : vp_updL (mo_cpL f g x y n) (y + n) (f (x + n)) = mo_cpL f g x y (n + 1) := by
  funext k
  unfold vp_updL mo_cpL
  by_cases h : k = y + n
  · rw [if_pos h, if_pos (by omega), show x + (k - y) = x + n by omega]
  · rw [if_neg h]
    by_cases h2 : y ≤ k ∧ k < y + n
    · rw [if_pos h2, if_pos (by omega)]
    · rw [if_neg h2, if_neg (by omega)]
section MOA
variable {G : kz_G} {d : Nat} {Qr : Option Value → kz_M → Prop} {Qx : String → kz_M → Prop} {M : kz_M} {O : ow_O} {s : Nat → Int32} {rb : Int64} {f : Nat → Int32} {g : Nat → Int64} {S : ow_S} {n : Nat} {L : Nat → ow_L}
/-- numbers are copied, from another row or to the left in their own -/
theorem m_copies {a b x y n Na Nb : Nat} {F H : Nat → Int32} (h1 : M.1 a = some (.inr (.int, Na, .inl F))) (h2 : M.1 b = some (.inr (.int, Nb, .inl H))) (hab : a ≠ b ∨ y ≤ x) (hx : x + n ≤ Na) (hy : y + n ≤ Nb) (ha : Na < 2 ^ 31) (hb : Nb < 2 ^ 31) (q : ∀ M1, ow_Sm (· = b) M M1 → M1.2 = M.2 → M1.1 b = some (.inr (.int, Nb, .inl (mo_cp F H x y n))) → Qr none M1) : kz_C G d 0 0 mX12_copies [.ref a, .int (nI x), .ref b, .int (nI y), .int (nI n)] M Qr Qx := by
  refine rX12_copies_0 ?_
  have key : ∀ i, i ≤ n → ∀ M1, ow_Sm (· = b) M M1 → M1.2 = M.2 → M1.1 b = some (.inr (.int, Nb, .inl (mo_cp F H x y i))) → zX12_copies_3 G d Qr Qx a (nI x) b (nI y) (nI n) (nI i) M1 := by
    refine ow_loop n ?_ ?_
    · intro M1 g1 g2 g3
      exact rX12_copies_3 (ow_y (nI_le (Nat.le_refl _) (by omega)) (q M1 g1 g2 g3))
    · intro i hi ih M1 g1 g2 g3
      have src : ∃ F', M1.1 a = some (.inr (.int, Na, .inl F')) ∧ F' (x + i) = F (x + i) := by
        by_cases he : a = b
        · subst he
          rw [h1] at h2
          cases h2
          refine ⟨_, g3, ?_⟩
          exact if_neg (by omega)
        · exact ⟨F, (g1 a he).trans h1, rfl⟩
      obtain ⟨F', s1, s2⟩ := src
      refine rX12_copies_3 (ow_n (nI_ge hi (by omega)) ⟨_, _, s1, ?_⟩)
      rw [nI_add, nI_clamp (by omega), s2]
      refine ⟨vp_in_nI (by omega) (by omega), _, _, g3, ?_⟩
      rw [nI_add, nI_clamp (by omega), mo_cp_s, nI_1]
      refine ⟨vp_in_nI (by omega) (by omega), ih _ (fun k hk => ?_) g2 (kz_up_same _ _ _)⟩
      rw [kz_up_ne hk]
      exact g1 k hk
  have := key 0 (Nat.zero_le _) M (fun _ _ => rfl) rfl (by rw [mo_cp_0]; exact h2)
  exact this
theorem m_copiesW {a b x y n Na Nb : Nat} {F H : Nat → Int64} (h1 : M.1 a = some (.inr (.long, Na, .inr (.inl F)))) (h2 : M.1 b = some (.inr (.long, Nb, .inr (.inl H)))) (hab : a ≠ b ∨ y ≤ x) (hx : x + n ≤ Na) (hy : y + n ≤ Nb) (ha : Na < 2 ^ 31) (hb : Nb < 2 ^ 31) (q : ∀ M1, ow_Sm (· = b) M M1 → M1.2 = M.2 → M1.1 b = some (.inr (.long, Nb, .inr (.inl (mo_cpL F H x y n)))) → Qr none M1) : kz_C G d 0 0 mX12_copiesWords [.ref a, .int (nI x), .ref b, .int (nI y), .int (nI n)] M Qr Qx := by
  refine rX12_copiesWords_0 ?_
  have key : ∀ i, i ≤ n → ∀ M1, ow_Sm (· = b) M M1 → M1.2 = M.2 → M1.1 b = some (.inr (.long, Nb, .inr (.inl (mo_cpL F H x y i)))) → zX12_copiesWords_3 G d Qr Qx a (nI x) b (nI y) (nI n) (nI i) M1 := by
    refine ow_loop n ?_ ?_
    · intro M1 g1 g2 g3
      exact rX12_copiesWords_3 (ow_y (nI_le (Nat.le_refl _) (by omega)) (q M1 g1 g2 g3))
    · intro i hi ih M1 g1 g2 g3
      have src : ∃ F', M1.1 a = some (.inr (.long, Na, .inr (.inl F'))) ∧ F' (x + i) = F (x + i) := by
        by_cases he : a = b
        · subst he
          rw [h1] at h2
          cases h2
          refine ⟨_, g3, ?_⟩
          exact if_neg (by omega)
        · exact ⟨F, (g1 a he).trans h1, rfl⟩
      obtain ⟨F', s1, s2⟩ := src
      refine rX12_copiesWords_3 (ow_n (nI_ge hi (by omega)) ⟨_, _, s1, ?_⟩)
      rw [nI_add, nI_clamp (by omega), s2]
      refine ⟨vp_in_nI (by omega) (by omega), _, _, g3, ?_⟩
      rw [nI_add, nI_clamp (by omega), mo_cpL_s, nI_1]
      refine ⟨vp_in_nI (by omega) (by omega), ih _ (fun k hk => ?_) g2 (kz_up_same _ _ _)⟩
      rw [kz_up_ne hk]
      exact g1 k hk
  have := key 0 (Nat.zero_le _) M (fun _ _ => rfl) rfl (by rw [mo_cpL_0]; exact h2)
  exact this
theorem m_takes {v : Nat} (D : mo_D M s rb f g) (W : mo_W O f g 0 0) (hO : ow_Ok1 O) (hv : v < o_wk O) (A : mo_rows M) (q : ∀ M1 s1 rb1, ow_Sm mo_inR M M1 → M1.2 = M.2 → (∀ j, j ≠ 12 → s1 j = s j) → mo_D M1 s1 rb1 f g → mo_row M1 (o_ws O v).2.2.1 s1 rb1 → mo_rows M1 → Qr none M1) : kz_C G (d + 1) 0 0 mX12_takes [.ref 99, .int (nI v)] M Qr Qx := by
  have hwk := hO.1.2.2.2.1
  have hn := (hO.2.2.2 v hv).1.2.2.1
  obtain ⟨⟨gr, a7⟩, ⟨f8, a8⟩, ⟨f9, a9⟩, ⟨f10, a10⟩, f11, a11⟩ := A
  refine rX12_takes_0 ⟨D.ob, m_of (k := 3) D (by omega) (by omega) (W.ww hv).2.2.2.1 ⟨_, rfl, _, D.1, ow_l rfl, _, _, kz_up_same _ _ _, rfl, _, _, (kz_up_ne (by omega)).trans D.2.2, ?_⟩⟩
  rw [show (720 : Int32) + nI v = nI (720 + v) from nI_add 720 v, nI_clamp (by omega)]
  refine ⟨vp_in_nI (by omega) (by omega), _, kz_up_same _ _ _, ow_l rfl, _, _, kz_up_same _ _ _, rfl, _, _, kz_up_same _ _ _, rfl, ?_⟩
  rw [show (60 : Int32) * nI v = nI (60 * v) from pk_mul 60 v]
  have h99 := kz_up_same (kz_up M 99 (.inl (11, (mo_fs s rb).set 12 (.int (nI (o_ws O v).2.2.1.2.1))))) 99 (.inl (11, ((mo_fs s rb).set 12 (.int (nI (o_ws O v).2.2.1.2.1))).set 11 (.long (g (720 + v)))))
  have hu : ∀ k, k ≠ 99 → (kz_up (kz_up M 99 (.inl (11, (mo_fs s rb).set 12 (.int (nI (o_ws O v).2.2.1.2.1))))) 99 (.inl (11, ((mo_fs s rb).set 12 (.int (nI (o_ws O v).2.2.1.2.1))).set 11 (.long (g (720 + v)))))).1 k = M.1 k := fun k hk => by rw [kz_up_ne hk, kz_up_ne hk]
  have h2 : (kz_up (kz_up M 99 (.inl (11, (mo_fs s rb).set 12 (.int (nI (o_ws O v).2.2.1.2.1))))) 99 (.inl (11, ((mo_fs s rb).set 12 (.int (nI (o_ws O v).2.2.1.2.1))).set 11 (.long (g (720 + v)))))).2 = M.2 := rfl
  generalize kz_up (kz_up M 99 (.inl (11, (mo_fs s rb).set 12 (.int (nI (o_ws O v).2.2.1.2.1))))) 99 (.inl (11, ((mo_fs s rb).set 12 (.int (nI (o_ws O v).2.2.1.2.1))).set 11 (.long (g (720 + v))))) = M2 at h99 hu h2 ⊢
  have h99' : M2.1 99 = some (.inl (11, mo_fs (upd s 12 (nI (o_ws O v).2.2.1.2.1)) (g (720 + v)))) := h99
  refine m_copiesW (x := 60 * v) (y := 0) (n := 60) ((hu 104 (by omega)).trans D.2.2) ((hu 107 (by omega)).trans a7) (Or.inl (by omega)) (by omega) (by omega) (by omega) (by omega) fun M3 g1 g2 g3 => ⟨rfl, ?_⟩
  have u3 : ∀ k, k ≠ 99 → k ≠ 107 → M3.1 k = M.1 k := fun k h1 h3 => (g1 k h3).trans (hu k h1)
  refine q M3 _ _ (fun k hk => u3 k (by omega) (by omega)) (g2.trans h2) (fun j hj => if_neg hj) ⟨(g1 99 (by omega)).trans h99', (u3 100 (by omega) (by omega)).trans D.2.1, (u3 104 (by omega) (by omega)).trans D.2.2⟩ ⟨rfl, (W.ww hv).2.2.2.2.2.2.2, _, g3, fun k hk => ?_⟩ ⟨⟨_, g3⟩, ⟨f8, (u3 108 (by omega) (by omega)).trans a8⟩, ⟨f9, (u3 109 (by omega) (by omega)).trans a9⟩, ⟨f10, (u3 110 (by omega) (by omega)).trans a10⟩, f11, (u3 111 (by omega) (by omega)).trans a11⟩
  show (if 0 ≤ k ∧ k < 0 + 60 then g (60 * v + (k - 0)) else gr k) = _
  rw [if_pos (by omega), show k - 0 = k from rfl]
  exact W.wd hv hk
theorem mo_L.rows (R : mo_row M S s rb) (hL : mo_L M s rb n L) : mo_rows M := by
  obtain ⟨r1, r2, gr, r3, r4⟩ := R
  obtain ⟨l1, l2, l3, ⟨f8, a8, b8⟩, ⟨f9, a9, b9⟩, ⟨f10, a10, b10⟩, f11, a11, b11⟩ := hL
  exact ⟨⟨_, r3⟩, ⟨_, a8⟩, ⟨_, a9⟩, ⟨_, a10⟩, _, a11⟩
theorem m_looks {v e : Nat} (D : mo_D M s rb f g) (W : mo_W O f g 0 0) (hO : ow_Ok1 O) (hS : ow_Sok S) (R : mo_row M S s rb) (A : mo_rows M) (hv : v < 2 ^ 31) (he : e ≤ o_wk O) (q : ∀ M1 s1, ow_Sm mo_inR M M1 → M1.2 = M.2 → (∀ j, j ≠ 13 → s1 j = s j) → mo_row M1 S s1 rb → mo_L M1 s1 rb (ow_nl S (o_ru O 0)) (mu_jl S (o_ru O 0) (nI (o_ru O (7 + S.1))) (o_ru O 1) (o_ru O 2) (ow_co O v e)) → Qr none M1) : kz_C G (d + 6) 0 0 mX12_looks [.ref 99, .int (nI S.1), .int (nI v), .int (nI e)] M Qr Qx := by
  have hru0 := hO.2.1 0 (by omega)
  refine rX12_looks_0 ⟨D.ob, m_its (k := 0) D (by omega) (W.ru (by omega)) ⟨_, rfl, D.ob, m_makes D W hO hS R A (by omega) fun M1 s1 g1 g2 g3 g4 g5 => ⟨rfl, ?_⟩⟩⟩
  obtain ⟨me, hme⟩ : ∃ me, me = o_ru O 0 := ⟨_, rfl⟩
  obtain ⟨rate, hrate⟩ : ∃ rate, rate = nI (o_ru O (7 + S.1)) := ⟨_, rfl⟩
  obtain ⟨st, hst⟩ : ∃ st, st = o_ru O 1 := ⟨_, rfl⟩
  obtain ⟨wo, hwo⟩ : ∃ wo, wo = o_ru O 2 := ⟨_, rfl⟩
  rw [← hme, ← hrate] at g5
  rw [← hme, ← hrate, ← hst, ← hwo] at q
  have hlok : ∀ i j, j < ow_nl S me → ow_Lok S (mu_mx S me rate st wo (ow_co O v e) i j) := fun i j hj => by
    unfold mu_mx
    split
    · exact mu_jl_ok hj
    · exact (ow_l0_ok hj).1
  have key : ∀ i, i ≤ ow_nl S me → ∀ M2, ow_Sm mo_inR M M2 → M2.2 = M.2 → mo_row M2 S s1 rb → mo_L M2 s1 rb (ow_nl S me) (mu_mx S me rate st wo (ow_co O v e) i) → zX12_looks_13 G d Qr Qx 99 (nI v) (nI e) (nI i) M2 := by
    refine ow_loop (ow_nl S me) ?_ ?_
    · intro M2 k1 k2 k3 k4
      have n60 := k4.2.2.1
      refine rX12_looks_13 ⟨_, _, k4.1, rfl, ?_⟩
      rw [k4.2.1]
      refine ow_y (nI_le (Nat.le_refl _) (by omega)) (q M2 s1 k1 k2 g3 k3 ?_)
      obtain ⟨l1, l2, l3, ⟨f8, a8, b8⟩, ⟨f9, a9, b9⟩, ⟨f10, a10, b10⟩, f11, a11, b11⟩ := k4
      exact ⟨l1, l2, l3, ⟨f8, a8, fun i hi => by have := b8 i hi; rw [mu_mx_lt hi] at this; exact this⟩, ⟨f9, a9, fun i hi => by have := b9 i hi; rw [mu_mx_lt hi] at this; exact this⟩, ⟨f10, a10, fun i hi => by have := b10 i hi; rw [mu_mx_lt hi] at this; exact this⟩, f11, a11, fun i hi => by have := b11 i hi; rw [mu_mx_lt hi] at this; exact this⟩
    · intro i hi ih M2 k1 k2 k3 k4
      have k40 := k4
      obtain ⟨l1, l2, l3, ⟨f8, a8, b8⟩, ⟨f9, a9, b9⟩, ⟨f10, a10, b10⟩, f11, a11, b11⟩ := k4
      have D2 : mo_D M2 s1 rb f g := ⟨l1, (k1 100 (by omega)).trans D.2.1, (k1 104 (by omega)).trans D.2.2⟩
      have Li : mu_mx S me rate st wo (ow_co O v e) i i = ow_l0 S me rate i := mu_mx_ge (Nat.le_refl i)
      -- the reason is what the class gives
      have ehl : (mu_old O v e S (ow_l0 S me rate i) || mu_own S (mu_mx S me rate st wo (ow_co O v e) i) i (ow_l0 S me rate i)) = ow_hl (ow_jd S me rate st wo (ow_co O v e) i).1 (ow_jd S me rate st wo (ow_co O v e) i).2 S (ow_l0 S me rate i) := by
        rw [ow_hl_jd, ow_hl_co]
        congr 1
        refine ow_ex_congr fun j hj => ?_
        rw [mu_mx_lt hj]
      have ewn : (!ow_ex (fun k => decide ((ow_l0 S me rate i).1 ≤ k) && decide (mu_uses O (S.2.2.1 k) v e + mu_ownw S (mu_mx S me rate st wo (ow_co O v e) i) i (S.2.2.1 k) < wo)) (ow_l0 S me rate i).2.1) = ow_wn (ow_jd S me rate st wo (ow_co O v e) i).1 (ow_jd S me rate st wo (ow_co O v e) i).2 S (ow_l0 S me rate i) wo := by
        unfold ow_wn
        congr 1
        refine ow_ex_congr fun k hk => ?_
        rw [ow_lw_jd, mu_uses_eq]
        unfold mu_ownw
        rw [ow_cn_ext (q := fun j => decide ((mu_jl S me rate st wo (ow_co O v e) j).2.2.2.2.1 = 0) && ow_has S (mu_jl S me rate st wo (ow_co O v e) j) (S.2.2.1 k)) fun j hj => by rw [mu_mx_lt hj]]
      have fin : ∀ r : Nat, r = ow_rs (ow_jd S me rate st wo (ow_co O v e) i).1 (ow_jd S me rate st wo (ow_co O v e) i).2 S (ow_l0 S me rate i) st wo → zX12_looks_13 G d Qr Qx 99 (nI v) (nI e) (nI (i + 1)) (kz_up M2 110 (.inr (.int, 60, .inl (upd f10 i (nI r))))) := by
        intro r hr
        refine ih _ (fun k hk => (kz_up_ne (by omega)).trans (k1 k hk)) k2 ?_ ?_
        · obtain ⟨r1, r2, gr, r3, r4⟩ := k3
          exact ⟨r1, r2, gr, (kz_up_ne (by omega)).trans r3, r4⟩
        · have ep : ∀ (p : ow_L → Int32), (p (mu_jl S me rate st wo (ow_co O v e) i) = p (ow_l0 S me rate i)) → ∀ j, p (mu_mx S me rate st wo (ow_co O v e) (i + 1) j) = p (mu_mx S me rate st wo (ow_co O v e) i j) := fun p hp j => by
            by_cases h1 : j = i
            · subst h1
              rw [mu_mx_lt (Nat.lt_succ_self j), mu_mx_ge (Nat.le_refl j)]
              exact hp
            · by_cases h2 : j < i
              · rw [mu_mx_lt h2, mu_mx_lt (by omega)]
              · rw [mu_mx_ge (by omega), mu_mx_ge (by omega)]
          refine ⟨(kz_up_ne (by omega)).trans l1, l2, l3, ⟨f8, (kz_up_ne (by omega)).trans a8, fun j hj => ?_⟩, ⟨f9, (kz_up_ne (by omega)).trans a9, fun j hj => ?_⟩, ⟨_, kz_up_same _ _ _, fun j hj => ?_⟩, f11, (kz_up_ne (by omega)).trans a11, fun j hj => ?_⟩
          · rw [b8 j hj]
            exact (ep (fun l => nI l.1) rfl j).symm
          · rw [b9 j hj]
            exact (ep (fun l => nI (l.2.1 - l.1)) rfl j).symm
          · unfold upd
            by_cases h1 : j = i
            · subst h1
              rw [if_pos rfl, mu_mx_lt (Nat.lt_succ_self j), hr]
              rfl
            · rw [if_neg h1, b10 j hj]
              by_cases h2 : j < i
              · rw [mu_mx_lt h2, mu_mx_lt (by omega)]
              · rw [mu_mx_ge (by omega), mu_mx_ge (by omega)]
          · rw [b11 j hj]
            exact (ep (fun l => l.2.2.2.1) rfl j).symm
      refine rX12_looks_13 ⟨_, _, l1, rfl, ?_⟩
      rw [l2]
      refine ow_n (nI_ge hi (by omega)) ⟨_, _, l1, rfl, D2.ob, ?_⟩
      refine m_isStale D2 W hO hS k3 k40 hi (hlok i) hv he ⟨_, rfl, ?_⟩
      rw [Li]
      rw [ehl]
      refine ow_if0 (fun h1 => ⟨D2.ob, m_isStuffed D2 W hO hS k3 k40 hi (hlok i i hi) ⟨_, rfl, ?_⟩⟩) (fun h1 => ?_)
      · rw [Li]
        rw [← hst]
        refine ow_if0 (fun h2 => ⟨D2.ob, m_isWorn D2 W hO hS k3 k40 hi (hlok i) hv he ⟨_, rfl, ?_⟩⟩) (fun h2 => ?_)
        · rw [Li]
          rw [← hwo, ewn]
          refine ow_if0 (fun h3 => ?_) (fun h3 => ?_)
          · refine ⟨_, _, a10, vp_in_nI (by omega) (by omega), ?_⟩
            rw [nI_clamp (by omega), nI_1]
            exact fin 0 (by simp [ow_rs, h1, h2, h3])
          · refine ⟨_, _, a10, vp_in_nI (by omega) (by omega), ?_⟩
            rw [nI_clamp (by omega), nI_1]
            exact fin 3 (by simp [ow_rs, h1, h2, h3])
        · refine ⟨_, _, a10, vp_in_nI (by omega) (by omega), ?_⟩
          rw [nI_clamp (by omega), nI_1]
          exact fin 2 (by simp [ow_rs, h1, h2])
      · refine ⟨_, _, a10, vp_in_nI (by omega) (by omega), ?_⟩
        rw [nI_clamp (by omega), nI_1]
        exact fin 1 (by simp [ow_rs, h1])
  refine key 0 (Nat.zero_le _) M1 g1 g2 g4 ?_
  rw [show mu_mx S me rate st wo (ow_co O v e) 0 = ow_l0 S me rate from funext fun j => mu_mx_ge (Nat.zero_le j)]
  exact g5
theorem m_paidByAll (hL : mo_L M s rb n L) (q : Qr (some (.int (ow_sm (fun i => (L i).2.2.2.1) n))) M) : kz_C G d 0 0 mX12_paidByAll [.ref 99] M Qr Qx := by
  obtain ⟨l1, l2, l3, -, -, -, f11, a11, b11⟩ := hL
  refine rX12_paidByAll_0 (ow_loop (P := fun i => zX12_paidByAll_4 G d Qr Qx 99 (ow_sm (fun i => (L i).2.2.2.1) i) (nI i) M) n ?_ ?_ 0 (Nat.zero_le _))
  · refine rX12_paidByAll_4 ⟨_, _, l1, rfl, ?_⟩
    rw [l2]
    exact ow_y (nI_le (Nat.le_refl _) (by omega)) q
  · intro i hi ih
    refine rX12_paidByAll_4 ⟨_, _, l1, rfl, ?_⟩
    rw [l2]
    refine ow_n (nI_ge hi (by omega)) ⟨_, _, l1, rfl, _, _, a11, vp_in_nI (by omega) (by omega), ?_⟩
    rw [nI_clamp (by omega), b11 i hi, nI_1]
    exact ih
theorem m_rowCounting (hL : mo_L M s rb n L) (hr : ∀ i, i < n → (L i).2.2.2.2.1 ≤ 3) (q : Qr (some (.int (nI (ow_cn (fun i => decide ((L i).2.2.2.2.1 = 0)) n)))) M) : kz_C G d 0 0 mX12_rowCounting [.ref 99] M Qr Qx := by
  obtain ⟨l1, l2, l3, -, -, ⟨f10, a10, b10⟩, -⟩ := hL
  refine rX12_rowCounting_0 (ow_loop (P := fun i => zX12_rowCounting_4 G d Qr Qx 99 (nI (ow_cn (fun i => decide ((L i).2.2.2.2.1 = 0)) i)) (nI i) M) n ?_ ?_ 0 (Nat.zero_le _))
  · refine rX12_rowCounting_4 ⟨_, _, l1, rfl, ?_⟩
    rw [l2]
    exact ow_y (nI_le (Nat.le_refl _) (by omega)) q
  · intro i hi ih
    have h3 := hr i hi
    rw [ow_cn] at ih
    refine rX12_rowCounting_4 ⟨_, _, l1, rfl, ?_⟩
    rw [l2]
    refine ow_n (nI_ge hi (by omega)) ⟨_, _, l1, rfl, _, _, a10, vp_in_nI (by omega) (by omega), ?_⟩
    rw [nI_clamp (by omega), b10 i hi]
    refine (pk_eq (L i).2.2.2.2.1 0 (fun h1 => ?_) (fun h1 => ?_) rfl rfl).symm
    · rw [if_pos (decide_eq_true h1)] at ih
      rw [nI_1, nI_1]; exact ih
    · rw [if_neg (by simp [h1])] at ih
      rw [nI_1, ow_add0]; exact ih
theorem m_rowPays (hL : mo_L M s rb n L) (hr : ∀ i, i < n → (L i).2.2.2.2.1 ≤ 3) (q : Qr (some (.int (ow_sm (fun i => if (L i).2.2.2.2.1 = 0 then (L i).2.2.2.1 else 0) n))) M) : kz_C G d 0 0 mX12_rowPays [.ref 99] M Qr Qx := by
  obtain ⟨l1, l2, l3, -, -, ⟨f10, a10, b10⟩, f11, a11, b11⟩ := hL
  refine rX12_rowPays_0 (ow_loop (P := fun i => zX12_rowPays_4 G d Qr Qx 99 (ow_sm (fun i => if (L i).2.2.2.2.1 = 0 then (L i).2.2.2.1 else 0) i) (nI i) M) n ?_ ?_ 0 (Nat.zero_le _))
  · refine rX12_rowPays_4 ⟨_, _, l1, rfl, ?_⟩
    rw [l2]
    exact ow_y (nI_le (Nat.le_refl _) (by omega)) q
  · intro i hi ih
    have h3 := hr i hi
    rw [ow_sm] at ih
    refine rX12_rowPays_4 ⟨_, _, l1, rfl, ?_⟩
    rw [l2]
    refine ow_n (nI_ge hi (by omega)) ⟨_, _, l1, rfl, _, _, a10, vp_in_nI (by omega) (by omega), ?_⟩
    rw [nI_clamp (by omega), b10 i hi]
    refine (pk_eq (L i).2.2.2.2.1 0 (fun h1 => ⟨_, _, l1, rfl, _, _, a11, vp_in_nI (by omega) (by omega), ?_⟩) (fun h1 => ?_) rfl rfl).symm
    · rw [if_neg h1] at ih
      rw [nI_1]; exact ih
    · rw [if_pos h1] at ih
      rw [b11 i hi, nI_1]; exact ih
theorem m_rowFines (D : mo_D M s rb f g) (W : mo_W O f g 0 0) (hL : mo_L M s rb n L) (hr : ∀ i, i < n → (L i).2.2.2.2.1 ≤ 3) (q : Qr (some (.int (nI (o_ru O 3) * nI (ow_cn (fun i => !decide ((L i).2.2.2.2.1 = 0)) n)))) M) : kz_C G (d + 1) 0 0 mX12_rowFines [.ref 99] M Qr Qx := by
  have hc := ow_cn_not (fun i => decide ((L i).2.2.2.2.1 = 0)) n
  refine rX12_rowFines_0 ⟨D.ob, m_its (k := 3) D (by omega) (W.ru (by omega)) ⟨_, rfl, _, _, hL.1, rfl, D.ob, m_rowCounting hL hr ⟨_, rfl, ?_⟩⟩⟩
  rw [hL.2.1, pk_sub (by omega), show n - ow_cn (fun i => decide ((L i).2.2.2.2.1 = 0)) n = ow_cn (fun i => !decide ((L i).2.2.2.2.1 = 0)) n by omega]
  exact q
end MOA
