/-! Part 39g: the ledger is read; the past is collected -/
def o_bkd (O : ow_O) (v : Nat) (a b : Int32) : Int32 := ow_sm (fun i => if o_le O (4 * i + 1) = nI v ∧ ¬ o_le O (4 * i) < a ∧ ¬ b < o_le O (4 * i) then o_le O (4 * i + 3) else 0) (o_ne O)
section OWC
variable {G : kz_G} {d : Nat} {Qr : Option Value → kz_M → Prop} {Qx : String → kz_M → Prop} {M : kz_M} {s : Nat} {O : ow_O}
theorem c_atE {p n i : Nat} {x : Int32} {f : Nat → Int32} (e : x = nI i) (hr : M.1 p = some (.inr (.int, n, .inl f))) (hi : i < n) (hn : n < 2 ^ 31) (q : Qr (some (.int (f i))) M) : kz_C G d 0 0 mX11_at [.ref p, .int x] M Qr Qx := by
  subst e
  exact c_at hr hi hn q
/-- the lines of a work that count, behind what is there -/
def ow_cl (w : ow_W) (z : Nat × ow_P) : Nat → Nat × ow_P
  | 0 => z
  | n + 1 => ((ow_cl w z n).1 + (if ow_cts (w.2.2.2.2 n) then 1 else 0), if ow_cts (w.2.2.2.2 n) then ow_pa (ow_cl w z n).1 (ow_cl w z n).2 w.2.2.1 (w.2.2.2.2 n) else (ow_cl w z n).2)
def ow_co (O : ow_O) (v : Nat) : Nat → Nat × ow_P
  | 0 => (0, fun _ => ((0, 0, (fun _ => 0), fun _ => 0), (0, 0, 0, 0, 0, 0)))
  | i + 1 => if (o_ws O i).1 = v then ow_cl (o_ws O i) (ow_co O v i) (o_ws O i).2.2.2.1 else ow_co O v i
theorem ow_cl_le (w : ow_W) (z : Nat × ow_P) : ∀ n, (ow_cl w z n).1 ≤ z.1 + n
  | 0 => Nat.le_refl _
  | n + 1 => by
    have := ow_cl_le w z n
    show (ow_cl w z n).1 + (if ow_cts (w.2.2.2.2 n) then 1 else 0) ≤ _
    split <;> omega
theorem ow_co_le (hO : ow_Ok1 O) (v : Nat) : ∀ e, e ≤ o_wk O → (ow_co O v e).1 ≤ 60 * e
  | 0, _ => Nat.le_refl _
  | e + 1, h => by
    have ih := ow_co_le hO v e (by omega)
    have h2 := ow_cl_le (o_ws O e) (ow_co O v e) (o_ws O e).2.2.2.1
    have h3 := (hO.2.2.2 e (by omega)).2.1
    unfold ow_co
    split <;> omega
/-- a place for the past -/
def ow_PS (M : kz_M) (k : Nat) (P : ow_P) : Prop := ow_RP M 97 98 k P
abbrev ow_inP (k : Nat) : Prop := k = 97 ∨ k = 98
theorem c_collect {v e k : Nat} {P : ow_P} (h : ow_RO M s O) (hO : ow_Ok1 O) (hs : s + 8 ≤ 97) (hP : ow_RP M 97 98 k P) (hv : v < 2 ^ 31) (he : e ≤ o_wk O) (q : ∀ M1, ow_Sm ow_inP M M1 → M1.2 = M.2 → ow_RP M1 97 98 (ow_co O v e).1 (ow_co O v e).2 → Qr none M1) : kz_C G (d + 2) 0 0 mX9_collect [.ref s, .ref 97, .int (nI v), .int (nI e)] M Qr Qx := by
  have hwk := hO.1.2.2.2.1
  have hK : ow_K = 99 := rfl
  obtain ⟨p1, p2, f, p3, p4⟩ := hP
  have inK : ∀ k, ow_inP k → k < ow_K ∧ (k < s ∨ s + 8 ≤ k) := fun k hk => by
    rcases hk with rfl | rfl <;> omega
  refine rX9_collect_0 ⟨⟨_, p1⟩, c_forget p1 fun M1 g1 g2 g3 => ⟨rfl, ?_⟩⟩
  have S1 : ow_Sm ow_inP M M1 := g1.mono fun k hk => Or.inl hk
  have key : ∀ i, i ≤ e → ∀ M2, ow_Sm ow_inP M M2 → M2.2 = M.2 → ow_RP M2 97 98 (ow_co O v i).1 (ow_co O v i).2 → zX9_collect_7 G d Qr Qx s 97 (nI v) (nI e) (nI i) M2 := by
    refine ow_loop e ?_ ?_
    · intro M2 m1 m2 m3
      exact rX9_collect_7 (ow_y (nI_le (Nat.le_refl _) (by omega)) (q M2 m1 m2 m3))
    · intro i hi ih M2 m1 m2 m3
      have hW := hO.2.2.2 i (by omega)
      have h2 := h.sm m1 inK
      refine rX9_collect_7 (ow_n (nI_ge hi (by omega)) ⟨h2.ob, c_workOf h2 hO (by omega) hv (fun hc => ⟨none, rfl, ?_⟩) (fun b hc hw => ⟨some b, rfl, ?_⟩)⟩)
      · refine rX9_collect_25 ⟨fun _ => ?_, fun y hy => (by cases hy)⟩
        rw [nI_1]
        refine ih M2 m1 m2 ?_
        rw [ow_co, if_neg hc]
        exact m3
      · have hle := ow_co_le hO v i (by omega)
        have inner : ∀ j, j ≤ (o_ws O i).2.2.2.1 → ∀ M3, ow_Sm ow_inP M M3 → M3.2 = M.2 → ow_RP M3 97 98 (ow_cl (o_ws O i) (ow_co O v i) j).1 (ow_cl (o_ws O i) (ow_co O v i) j).2 → zX9_collect_25 G d Qr Qx s 97 (nI v) (nI e) (nI i) (some b) (nI j) M3 := by
          refine ow_loop (o_ws O i).2.2.2.1 ?_ ?_
          · intro M3 n1 n2 n3
            have hw3 : ow_RW M3 b (o_ws O i) := by
              have := hw.keep (M1 := M3) (fun k e hk he => by rw [n1 k (fun z => by have := (inK k z).1; omega), ← m1 k (fun z => by have := (inK k z).1; omega)]; exact he)
              exact this
            refine rX9_collect_25 ⟨fun hz => (by cases hz), fun y hy => ?_⟩
            cases hy
            refine ⟨hw3.ob, c_wsize hw3 ⟨_, rfl, ow_y (nI_le (Nat.le_refl _) (by have := hW.2.1; omega)) ?_⟩⟩
            rw [nI_1]
            refine ih M3 n1 n2 ?_
            rw [ow_co, if_pos hc]
            exact n3
          · intro j hj ihj M3 n1 n2 n3
            have hw3 : ow_RW M3 b (o_ws O i) := by
              have := hw.keep (M1 := M3) (fun k e hk he => by rw [n1 k (fun z => by have := (inK k z).1; omega), ← m1 k (fun z => by have := (inK k z).1; omega)]; exact he)
              exact this
            have hle2 := ow_cl_le (o_ws O i) (ow_co O v i) j
            have hm := hW.2.1
            refine rX9_collect_25 ⟨fun hz => (by cases hz), fun y hy => ?_⟩
            cases hy
            refine ⟨hw3.ob, c_wsize hw3 ⟨_, rfl, ow_n (nI_ge hj (by omega)) ⟨hw3.ob, c_lineAt hw3 hm (fun hno => absurd rfl (hno j hj)) fun j' b' sc hj' e' hl hs' => ?_⟩⟩⟩
            have : j = j' := (nI_eq (by omega) (by omega)).mp e'
            subst this
            refine ⟨_, rfl, fun hz => (by cases hz), fun y hy => ?_⟩
            cases hy
            refine ⟨⟨_, n3.1⟩, c_addIf n3 (by omega) (by decide) (by decide) ⟨sc, hl, hs'⟩ hW.1 (hW.2.2.2.2 j hj) fun M4 k1 k2 k3 => ⟨rfl, ?_⟩⟩
            rw [nI_1]
            exact ihj M4 (n1.trans k1) (k2.trans n2) k3
        exact inner 0 (Nat.zero_le _) M2 m1 m2 m3
  exact key 0 (Nat.zero_le _) M1 S1 g2 ⟨g3, Nat.zero_le _, f, (g1 98 (by omega)).trans p3, fun i hi => absurd hi (Nat.not_lt_zero i)⟩
end OWC
