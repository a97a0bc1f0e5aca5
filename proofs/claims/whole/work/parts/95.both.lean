/-! Part 95: the class and the reference side by side -/
def lw_ok (O : ow_O) (hn : Nat) (h : Nat → ow_O) (sv : ow_O) (isS : Bool) (c : Nat) : Prop := mo_ok O c ∧ (∀ i, i < hn → mo_ok (h i) c) ∧ ow_Ok1 sv ∧ (isS = true → mo_ok sv c)
theorem lw_ok.mono {O : ow_O} {hn : Nat} {h : Nat → ow_O} {sv : ow_O} {isS : Bool} {c k : Nat} (H : lw_ok O hn h sv isS c) (hk : c ≤ k) : lw_ok O hn h sv isS k := ⟨H.1.mono hk, fun i hi => (H.2.1 i hi).mono hk, H.2.2.1, fun z => (H.2.2.2 z).mono hk⟩
theorem lw_ok.keep {O O' : ow_O} {hn : Nat} {h : Nat → ow_O} {sv : ow_O} {isS : Bool} {c k : Nat} (H : lw_ok O hn h sv isS c) (h8 : hn ≤ 8) (hk : c ≤ k) (h' : mo_ok O' k) : lw_ok O' (o_keep hn h O).1 (o_keep hn h O).2 sv isS k := by
  refine ⟨h', fun i hi => ?_, H.2.2.1, fun z => (H.2.2.2 z).mono hk⟩
  unfold o_keep at hi ⊢
  split at hi
  · rename_i hlt
    rw [if_pos hlt]
    have hi : i < hn + 1 := hi
    show mo_ok (if i = hn then O else h i) k
    split
    · exact H.1.mono hk
    · exact (H.2.1 i (by omega)).mono hk
  · rename_i hlt
    rw [if_neg hlt]
    have hi : i < 8 := hi
    show mo_ok (if i = 7 then O else h (i + 1)) k
    split
    · exact H.1.mono hk
    · exact (H.2.1 (i + 1) (by omega)).mono hk
def lw_out (M : kz_M) : Prop := (∃ F, M.1 114 = some (.inr (.long, 1, .inr (.inl F)))) ∧ ∃ F, M.1 115 = some (.inr (.double, 1, .inr (.inr (.inr (.inl F)))))
/-- both sides hold the same -/
def lw_J (M : kz_M) (k : Nat) : Prop := ∃ O hn h sv isS er ea n b l s rb, ow_CI M O hn h sv isS er ea n b l ∧ mo_I M O hn h sv isS er ea n b l s rb ∧ lw_ok O hn h sv isS (12000 * k) ∧ lw_out M
section LWJ
variable {G : kz_G} {d : Nat} {Qr : Option Value → kz_M → Prop} {Qx : String → kz_M → Prop} {M M1 : kz_M} {O : ow_O} {s : Nat → Int32} {rb : Int64} {hn : Nat} {h : Nat → ow_O} {sv : ow_O} {isS : Bool} {er : Nat} {ea : Int32} {n : Nat} {b : Nat → Nat} {l : List Nat}
theorem mo_I.cl (I : mo_I M O hn h sv isS er ea n b l s rb) (e : ∀ k, 99 ≤ k → k < 114 → M1.1 k = M.1 k) : mo_I M1 O hn h sv isS er ea n b l s rb := by
  obtain ⟨i1, i2, ⟨f1, g1, a1, a2, a3⟩, ⟨f2, a4⟩, ⟨f3, g3, a5, a6, a7⟩, ⟨f4, g4, a8, a9, a10⟩, ⟨⟨g5, b1⟩, ⟨f6, b2⟩, ⟨f7, b3⟩, ⟨f8, b4⟩, f9, b5⟩, ⟨f10, c1, c2⟩, f11, c3, c4⟩ := I
  have u : ∀ k x, 99 ≤ k → k < 114 → M.1 k = some x → M1.1 k = some x := fun k x h1 h2 hx => (e k h1 h2).trans hx
  exact ⟨u _ _ (by omega) (by omega) i1, i2, ⟨f1, g1, u _ _ (by omega) (by omega) a1, u _ _ (by omega) (by omega) a2, a3⟩, ⟨f2, u _ _ (by omega) (by omega) a4⟩, ⟨f3, g3, u _ _ (by omega) (by omega) a5, u _ _ (by omega) (by omega) a6, a7⟩, ⟨f4, g4, u _ _ (by omega) (by omega) a8, u _ _ (by omega) (by omega) a9, a10⟩, ⟨⟨g5, u _ _ (by omega) (by omega) b1⟩, ⟨f6, u _ _ (by omega) (by omega) b2⟩, ⟨f7, u _ _ (by omega) (by omega) b3⟩, ⟨f8, u _ _ (by omega) (by omega) b4⟩, f9, u _ _ (by omega) (by omega) b5⟩, ⟨f10, u _ _ (by omega) (by omega) c1, c2⟩, f11, u _ _ (by omega) (by omega) c3, c4⟩
theorem ow_CI.md (I : ow_CI M O hn h sv isS er ea n b l) (e : ∀ k, k < 99 ∨ 116 ≤ k → M1.1 k = M.1 k) (e2 : M.2 ≤ M1.2) : ow_CI M1 O hn h sv isS er ea n b l := by
  have h116 : ow_K = 116 := rfl
  have K : ow_Kp M M1 := fun k x hk hx => (e k (by omega)).trans hx
  obtain ⟨i1, i2, i3, i4, i5, i6, ⟨en, er', ea', O', t', i7⟩, ⟨k, P, i8⟩, i9⟩ := I
  exact ⟨(e 0 (by omega)).trans i1, i2.mv (e 1 (by omega)) (e 2 (by omega)), i3.mv (e 3 (by omega)) (e 4 (by omega)), i4.mv K fun k h1 h2 => e k (by omega), i5.mv K fun k h1 h2 => e k (by omega), i6.mv K fun k hk => e k (by have := hk.2; omega), ⟨en, er', ea', O', t', i7.mv K fun k hk => e k (by have := hk.2; omega)⟩, ⟨k, P, i8.mv K (e 97 (by omega)) (e 98 (by omega))⟩, Nat.le_trans i9 e2⟩
theorem mo_I.h8 (I : mo_I M O hn h sv isS er ea n b l s rb) : hn ≤ 8 := by
  obtain ⟨-, -, -, -, -, ⟨f4, g4, a8, a9, a10⟩, -⟩ := I
  exact a10.1
theorem mo_I.hl (I : mo_I M O hn h sv isS er ea n b l s rb) : l.length ≤ 256 := by
  obtain ⟨-, -, -, -, -, -, -, -, f, c3, c4, -⟩ := I
  exact c4
theorem mo_I.h0 (I : mo_I M O 0 h sv isS er ea n b l s rb) (h' : Nat → ow_O) : mo_I M O 0 h' sv isS er ea n b l s rb := by
  obtain ⟨i1, i2, a1, a2, a3, ⟨f4, g4, a8, a9, a10⟩, a5⟩ := I
  exact ⟨i1, i2, a1, a2, a3, ⟨f4, g4, a8, a9, a10.1, fun i hi => absurd hi (Nat.not_lt_zero i)⟩, a5⟩
theorem ow_Nm_ww {n : Nat} {b : Nat → Nat} (h : sp_name (ow_ww n b) = true) : ow_Nm (ow_ww n b) := by
  rw [mo_isn_ww] at h
  unfold mo_isn at h
  simp only [Bool.and_eq_true, decide_eq_true_eq] at h
  obtain ⟨h1, h6, hal, -⟩ := h
  refine ⟨b, n, h1, h6, mo_al.mp hal, ?_⟩
  unfold ow_ww
  rw [if_pos (by omega), if_pos hal]
/-- behind both calls -/
theorem lw_go {M4 : kz_M} {s4 : Nat → Int32} {rb4 : Int64} {k : Nat} (I : ow_CI M1 O hn h sv isS er ea n b l) (C : mo_Cf M1 M4) (I4 : mo_I M4 O hn h sv isS er ea n b l s4 rb4) (hk : lw_ok O hn h sv isS (12000 * k)) (ho : lw_out M1) : lw_J M4 k := by
  refine ⟨O, hn, h, sv, isS, er, ea, n, b, l, s4, rb4, I.md (fun k hk => C.1 k (by omega)) (by rw [C.2]; exact Nat.le_refl _), I4, hk, ?_⟩
  obtain ⟨⟨F, h1⟩, H, h2⟩ := ho
  exact ⟨⟨F, (C.1 114 (by omega)).trans h1⟩, H, (C.1 115 (by omega)).trans h2⟩
theorem lw_out.cf (ho : lw_out M) (C : ow_Cf M M1) : lw_out M1 := by
  obtain ⟨⟨F, h1⟩, H, h2⟩ := ho
  exact ⟨⟨F, (C.2.1 114 (by omega) (by omega)).trans h1⟩, H, (C.2.1 115 (by omega) (by omega)).trans h2⟩
theorem lw_out.up4 (ho : lw_out M) (F : Nat → Int64) : lw_out (kz_up M 114 (.inr (.long, 1, .inr (.inl F)))) := ⟨⟨F, kz_up_same _ _ _⟩, by
  obtain ⟨-, H, h2⟩ := ho
  exact ⟨H, (kz_up_ne (by omega)).trans h2⟩⟩
theorem lw_out.up5 (ho : lw_out M) (F : Nat → UInt64) : lw_out (kz_up M 115 (.inr (.double, 1, .inr (.inr (.inr (.inl F)))))) := ⟨by
  obtain ⟨⟨H, h1⟩, -⟩ := ho
  exact ⟨H, (kz_up_ne (by omega)).trans h1⟩, F, kz_up_same _ _ _⟩
theorem mo_I.cf' (I : mo_I M O hn h sv isS er ea n b l s rb) (C : ow_Cf M M1) : mo_I M1 O hn h sv isS er ea n b l s rb := I.cl fun k h1 h2 => C.2.1 k h1 (by omega)
theorem mo_I.gr (I : mo_I M O hn h sv isS er ea n b l s rb) (g : Nat) : mo_I (M.1, M.2 + g) O hn h sv isS er ea n b l s rb := I.cl fun _ _ _ => rfl
theorem ow_CI.gr (I : ow_CI M O hn h sv isS er ea n b l) (g : Nat) : ow_CI (M.1, M.2 + g) O hn h sv isS er ea n b l := I.md (fun _ _ => rfl) (Nat.le_add_right _ _)
theorem lw_out.gr (ho : lw_out M) (g : Nat) : lw_out (M.1, M.2 + g) := ho
/-- the checks behind a call whose answer is a number -/
theorem lw_chk {zz : kz_M → Prop} {r2 r5 : Int32} {c : Nat} (I : mo_I M O hn h sv isS er ea n b l s rb) (e : s 9 = nI c) (h2 : r2 = nI c) (hc : c < 4) (out : c = 0 → ∃ F, M.1 114 = some (.inr (.long, 1, .inr (.inl F))) ∧ F 0 = r5.toInt64) (z : zz M) : (∃ fs12, M.1 99 = some (.inl (11, fs12))) ∧ kz_C G (d + 10) 0 0 mX12_thrown [.ref 99] M (fun v M7 => ∃ r8 : Int32, v = some (.int r8) ∧ ((r8 = r2 → (¬ r2 = 0 → zz M7) ∧ (r2 = 0 → ∃ n10 f11, (M7).1 114 = some (.inr (.long, n10, .inr (.inl f11))) ∧ vp_in (0 : Int32) n10 ∧ (((f11 (0 : Int32).toNatClampNeg) = ((r5 : Int32).toInt64) → zz M7) ∧ (¬ (f11 (0 : Int32).toNatClampNeg) = ((r5 : Int32).toInt64) → Qr (some (.int 0)) M7)))) ∧ (¬ r8 = r2 → Qr (some (.int 0)) M7))) Qx := by
  subst h2
  refine ⟨I.ob, m_thrown I e ⟨_, rfl, fun _ => ⟨fun _ => z, fun z0 => ?_⟩, fun z0 => absurd rfl z0⟩⟩
  have hc0 : c = 0 := (nI_eq (b := 0) (by omega) (by omega)).mp z0
  obtain ⟨F, f1, f2⟩ := out hc0
  exact ⟨_, _, f1, vp_in_nI (n := 0) (N := 1) (by omega) (by omega), fun _ => z, fun hne => absurd f2 hne⟩
end LWJ
