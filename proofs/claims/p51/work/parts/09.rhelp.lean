/-! The rules of 09.rhelp: printed by program (wip/whole/rules.py) -/
theorem dX11_at_0 : decode cX11_at 0 = .ok (.iload_n 1, 1) := by decide +kernel
theorem dX11_at_1 : decode cX11_at 1 = .ok (.ifCond .lt 15, 3) := by decide +kernel
theorem dX11_at_4 : decode cX11_at 4 = .ok (.iload_n 1, 1) := by decide +kernel
theorem dX11_at_5 : decode cX11_at 5 = .ok (.aload_n 0, 1) := by decide +kernel
theorem dX11_at_6 : decode cX11_at 6 = .ok (.arraylength, 1) := by decide +kernel
theorem dX11_at_7 : decode cX11_at 7 = .ok (.if_icmp .ge 9, 3) := by decide +kernel
theorem dX11_at_10 : decode cX11_at 10 = .ok (.aload_n 0, 1) := by decide +kernel
theorem dX11_at_11 : decode cX11_at 11 = .ok (.iload_n 1, 1) := by decide +kernel
theorem dX11_at_12 : decode cX11_at 12 = .ok (.iaload, 1) := by decide +kernel
theorem dX11_at_13 : decode cX11_at 13 = .ok (.goto 4, 3) := by decide +kernel
theorem dX11_at_16 : decode cX11_at 16 = .ok (.iconst 0, 1) := by decide +kernel
theorem dX11_at_17 : decode cX11_at 17 = .ok (.ireturn, 1) := by decide +kernel
theorem rX11_at_0 {G : kz_G} {d : Nat} {Qr : Option Value → kz_M → Prop} {Qx : String → kz_M → Prop} {p0 : Nat} {p1 : Int32}  {M : kz_M} (h : (p1 < 0 → Qr (some (.int 0)) M) ∧ (¬ p1 < 0 → ∃ ty1 A2, (M).1 p0 = some (.inr (ty1, A2)) ∧ (((Int32.ofNat A2.1) ≤ p1 → Qr (some (.int 0)) M) ∧ (¬ (Int32.ofNat A2.1) ≤ p1 → ∃ n3 f4, (M).1 p0 = some (.inr (.int, n3, .inl f4)) ∧ vp_in p1 n3 ∧ (Qr (some (.int (f4 p1.toNatClampNeg))) M))))) : kz_C G d 0 0 mX11_at [.ref p0, .int p1] M Qr Qx := by
  refine kz_enter (n := 2) kmX11_at.1 (Nat.le_of_ble_eq_true rfl) (ls := [(0, .ref p0), (1, .int p1)]) rfl ?_
  refine kz_iload_n (pc := 0) 1 (i := 1) rfl rfl dX11_at_0 ?_
  refine kz_if_lt (pc := 1) (tgt := 16) (by decide) dX11_at_1 (fun hb => ?_) (fun hb => ?_)
  · replace h := h.1 hb
    refine kz_iconst (pc := 16) (v := 0) (by decide) dX11_at_16 ?_
    exact kz_iret (pc := 17) rfl (Nat.le_refl _) (Nat.le_refl _) dX11_at_17 h
  · replace h := h.2 hb
    refine kz_iload_n (pc := 4) 1 (i := 1) rfl rfl dX11_at_4 ?_
    refine kz_aload_n (pc := 5) 0 (v := .ref p0) (i := 0) rfl rfl rfl dX11_at_5 ?_
    obtain ⟨ty1, A2, hM, h⟩ := h
    refine kz_alen (pc := 6) hM rfl dX11_at_6 ?_
    refine kz_icmp_ge (pc := 7) (tgt := 16) (by decide) dX11_at_7 (fun hb => ?_) (fun hb => ?_)
    · replace h := h.1 hb
      refine kz_iconst (pc := 16) (v := 0) (by decide) dX11_at_16 ?_
      exact kz_iret (pc := 17) rfl (Nat.le_refl _) (Nat.le_refl _) dX11_at_17 h
    · replace h := h.2 hb
      refine kz_aload_n (pc := 10) 0 (v := .ref p0) (i := 0) rfl rfl rfl dX11_at_10 ?_
      refine kz_iload_n (pc := 11) 1 (i := 1) rfl rfl dX11_at_11 ?_
      obtain ⟨n3, f4, hM, hi, h⟩ := h
      refine kz_iald (pc := 12) hM hi dX11_at_12 ?_
      refine kz_goto (pc := 13) (tgt := 17) (by decide) dX11_at_13 ?_
      exact kz_iret (pc := 17) rfl (Nat.le_refl _) (Nat.le_refl _) dX11_at_17 h
theorem dX11_isBlank_0 : decode cX11_isBlank 0 = .ok (.iload_n 0, 1) := by decide +kernel
theorem dX11_isBlank_1 : decode cX11_isBlank 1 = .ok (.bipush 32, 2) := by decide +kernel
theorem dX11_isBlank_3 : decode cX11_isBlank 3 = .ok (.if_icmp .eq 9, 3) := by decide +kernel
theorem dX11_isBlank_6 : decode cX11_isBlank 6 = .ok (.iload_n 0, 1) := by decide +kernel
theorem dX11_isBlank_7 : decode cX11_isBlank 7 = .ok (.bipush 10, 2) := by decide +kernel
theorem dX11_isBlank_9 : decode cX11_isBlank 9 = .ok (.if_icmp .ne 7, 3) := by decide +kernel
theorem dX11_isBlank_12 : decode cX11_isBlank 12 = .ok (.iconst 1, 1) := by decide +kernel
theorem dX11_isBlank_13 : decode cX11_isBlank 13 = .ok (.goto 4, 3) := by decide +kernel
theorem dX11_isBlank_16 : decode cX11_isBlank 16 = .ok (.iconst 0, 1) := by decide +kernel
theorem dX11_isBlank_17 : decode cX11_isBlank 17 = .ok (.ireturn, 1) := by decide +kernel
theorem rX11_isBlank_0 {G : kz_G} {d : Nat} {Qr : Option Value → kz_M → Prop} {Qx : String → kz_M → Prop} {p0 : Int32}  {M : kz_M} (h : (p0 = (32 : Int32) → Qr (some (.int 1)) M) ∧ (¬ p0 = (32 : Int32) → (¬ p0 = (10 : Int32) → Qr (some (.int 0)) M) ∧ (p0 = (10 : Int32) → Qr (some (.int 1)) M))) : kz_C G d 0 0 mX11_isBlank [.int p0] M Qr Qx := by
  refine kz_enter (n := 1) kmX11_isBlank.1 (Nat.le_of_ble_eq_true rfl) (ls := [(0, .int p0)]) rfl ?_
  refine kz_iload_n (pc := 0) 0 (i := 0) rfl rfl dX11_isBlank_0 ?_
  refine kz_bipush (pc := 1) (v := 32) (by decide) dX11_isBlank_1 ?_
  refine kz_icmp_eq (pc := 3) (tgt := 12) (by decide) dX11_isBlank_3 (fun hb => ?_) (fun hb => ?_)
  · replace h := h.1 hb
    refine kz_iconst (pc := 12) (v := 1) (by decide) dX11_isBlank_12 ?_
    refine kz_goto (pc := 13) (tgt := 17) (by decide) dX11_isBlank_13 ?_
    exact kz_zret (pc := 17) (ty := .boolean) rfl (by decide) (Nat.le_refl _) (Nat.le_refl _) dX11_isBlank_17 h
  · replace h := h.2 hb
    refine kz_iload_n (pc := 6) 0 (i := 0) rfl rfl dX11_isBlank_6 ?_
    refine kz_bipush (pc := 7) (v := 10) (by decide) dX11_isBlank_7 ?_
    refine kz_icmp_ne (pc := 9) (tgt := 16) (by decide) dX11_isBlank_9 (fun hb => ?_) (fun hb => ?_)
    · replace h := h.1 hb
      refine kz_iconst (pc := 16) (v := 0) (by decide) dX11_isBlank_16 ?_
      exact kz_zret (pc := 17) (ty := .boolean) rfl (by decide) (Nat.le_refl _) (Nat.le_refl _) dX11_isBlank_17 h
    · replace h := h.2 hb
      refine kz_iconst (pc := 12) (v := 1) (by decide) dX11_isBlank_12 ?_
      refine kz_goto (pc := 13) (tgt := 17) (by decide) dX11_isBlank_13 ?_
      exact kz_zret (pc := 17) (ty := .boolean) rfl (by decide) (Nat.le_refl _) (Nat.le_refl _) dX11_isBlank_17 h
theorem dX11_isDigit_0 : decode cX11_isDigit 0 = .ok (.iload_n 0, 1) := by decide +kernel
theorem dX11_isDigit_1 : decode cX11_isDigit 1 = .ok (.bipush 48, 2) := by decide +kernel
theorem dX11_isDigit_3 : decode cX11_isDigit 3 = .ok (.if_icmp .lt 13, 3) := by decide +kernel
theorem dX11_isDigit_6 : decode cX11_isDigit 6 = .ok (.iload_n 0, 1) := by decide +kernel
theorem dX11_isDigit_7 : decode cX11_isDigit 7 = .ok (.bipush 57, 2) := by decide +kernel
theorem dX11_isDigit_9 : decode cX11_isDigit 9 = .ok (.if_icmp .gt 7, 3) := by decide +kernel
theorem dX11_isDigit_12 : decode cX11_isDigit 12 = .ok (.iconst 1, 1) := by decide +kernel
theorem dX11_isDigit_13 : decode cX11_isDigit 13 = .ok (.goto 4, 3) := by decide +kernel
theorem dX11_isDigit_16 : decode cX11_isDigit 16 = .ok (.iconst 0, 1) := by decide +kernel
theorem dX11_isDigit_17 : decode cX11_isDigit 17 = .ok (.ireturn, 1) := by decide +kernel
theorem rX11_isDigit_0 {G : kz_G} {d : Nat} {Qr : Option Value → kz_M → Prop} {Qx : String → kz_M → Prop} {p0 : Int32}  {M : kz_M} (h : (p0 < (48 : Int32) → Qr (some (.int 0)) M) ∧ (¬ p0 < (48 : Int32) → ((57 : Int32) < p0 → Qr (some (.int 0)) M) ∧ (¬ (57 : Int32) < p0 → Qr (some (.int 1)) M))) : kz_C G d 0 0 mX11_isDigit [.int p0] M Qr Qx := by
  refine kz_enter (n := 1) kmX11_isDigit.1 (Nat.le_of_ble_eq_true rfl) (ls := [(0, .int p0)]) rfl ?_
  refine kz_iload_n (pc := 0) 0 (i := 0) rfl rfl dX11_isDigit_0 ?_
  refine kz_bipush (pc := 1) (v := 48) (by decide) dX11_isDigit_1 ?_
  refine kz_icmp_lt (pc := 3) (tgt := 16) (by decide) dX11_isDigit_3 (fun hb => ?_) (fun hb => ?_)
  · replace h := h.1 hb
    refine kz_iconst (pc := 16) (v := 0) (by decide) dX11_isDigit_16 ?_
    exact kz_zret (pc := 17) (ty := .boolean) rfl (by decide) (Nat.le_refl _) (Nat.le_refl _) dX11_isDigit_17 h
  · replace h := h.2 hb
    refine kz_iload_n (pc := 6) 0 (i := 0) rfl rfl dX11_isDigit_6 ?_
    refine kz_bipush (pc := 7) (v := 57) (by decide) dX11_isDigit_7 ?_
    refine kz_icmp_gt (pc := 9) (tgt := 16) (by decide) dX11_isDigit_9 (fun hb => ?_) (fun hb => ?_)
    · replace h := h.1 hb
      refine kz_iconst (pc := 16) (v := 0) (by decide) dX11_isDigit_16 ?_
      exact kz_zret (pc := 17) (ty := .boolean) rfl (by decide) (Nat.le_refl _) (Nat.le_refl _) dX11_isDigit_17 h
    · replace h := h.2 hb
      refine kz_iconst (pc := 12) (v := 1) (by decide) dX11_isDigit_12 ?_
      refine kz_goto (pc := 13) (tgt := 17) (by decide) dX11_isDigit_13 ?_
      exact kz_zret (pc := 17) (ty := .boolean) rfl (by decide) (Nat.le_refl _) (Nat.le_refl _) dX11_isDigit_17 h
theorem dX11_isLetter_0 : decode cX11_isLetter 0 = .ok (.iload_n 0, 1) := by decide +kernel
theorem dX11_isLetter_1 : decode cX11_isLetter 1 = .ok (.bipush 97, 2) := by decide +kernel
theorem dX11_isLetter_3 : decode cX11_isLetter 3 = .ok (.if_icmp .lt 13, 3) := by decide +kernel
theorem dX11_isLetter_6 : decode cX11_isLetter 6 = .ok (.iload_n 0, 1) := by decide +kernel
theorem dX11_isLetter_7 : decode cX11_isLetter 7 = .ok (.bipush 122, 2) := by decide +kernel
theorem dX11_isLetter_9 : decode cX11_isLetter 9 = .ok (.if_icmp .gt 7, 3) := by decide +kernel
theorem dX11_isLetter_12 : decode cX11_isLetter 12 = .ok (.iconst 1, 1) := by decide +kernel
theorem dX11_isLetter_13 : decode cX11_isLetter 13 = .ok (.goto 4, 3) := by decide +kernel
theorem dX11_isLetter_16 : decode cX11_isLetter 16 = .ok (.iconst 0, 1) := by decide +kernel
theorem dX11_isLetter_17 : decode cX11_isLetter 17 = .ok (.ireturn, 1) := by decide +kernel
theorem rX11_isLetter_0 {G : kz_G} {d : Nat} {Qr : Option Value → kz_M → Prop} {Qx : String → kz_M → Prop} {p0 : Int32}  {M : kz_M} (h : (p0 < (97 : Int32) → Qr (some (.int 0)) M) ∧ (¬ p0 < (97 : Int32) → ((122 : Int32) < p0 → Qr (some (.int 0)) M) ∧ (¬ (122 : Int32) < p0 → Qr (some (.int 1)) M))) : kz_C G d 0 0 mX11_isLetter [.int p0] M Qr Qx := by
  refine kz_enter (n := 1) kmX11_isLetter.1 (Nat.le_of_ble_eq_true rfl) (ls := [(0, .int p0)]) rfl ?_
  refine kz_iload_n (pc := 0) 0 (i := 0) rfl rfl dX11_isLetter_0 ?_
  refine kz_bipush (pc := 1) (v := 97) (by decide) dX11_isLetter_1 ?_
  refine kz_icmp_lt (pc := 3) (tgt := 16) (by decide) dX11_isLetter_3 (fun hb => ?_) (fun hb => ?_)
  · replace h := h.1 hb
    refine kz_iconst (pc := 16) (v := 0) (by decide) dX11_isLetter_16 ?_
    exact kz_zret (pc := 17) (ty := .boolean) rfl (by decide) (Nat.le_refl _) (Nat.le_refl _) dX11_isLetter_17 h
  · replace h := h.2 hb
    refine kz_iload_n (pc := 6) 0 (i := 0) rfl rfl dX11_isLetter_6 ?_
    refine kz_bipush (pc := 7) (v := 122) (by decide) dX11_isLetter_7 ?_
    refine kz_icmp_gt (pc := 9) (tgt := 16) (by decide) dX11_isLetter_9 (fun hb => ?_) (fun hb => ?_)
    · replace h := h.1 hb
      refine kz_iconst (pc := 16) (v := 0) (by decide) dX11_isLetter_16 ?_
      exact kz_zret (pc := 17) (ty := .boolean) rfl (by decide) (Nat.le_refl _) (Nat.le_refl _) dX11_isLetter_17 h
    · replace h := h.2 hb
      refine kz_iconst (pc := 12) (v := 1) (by decide) dX11_isLetter_12 ?_
      refine kz_goto (pc := 13) (tgt := 17) (by decide) dX11_isLetter_13 ?_
      exact kz_zret (pc := 17) (ty := .boolean) rfl (by decide) (Nat.le_refl _) (Nat.le_refl _) dX11_isLetter_17 h
theorem dX11_lengthOf_0 : decode cX11_lengthOf 0 = .ok (.iconst 0, 1) := by decide +kernel
theorem dX11_lengthOf_1 : decode cX11_lengthOf 1 = .ok (.istore_n 2, 1) := by decide +kernel
theorem dX11_lengthOf_2 : decode cX11_lengthOf 2 = .ok (.iload_n 2, 1) := by decide +kernel
theorem dX11_lengthOf_3 : decode cX11_lengthOf 3 = .ok (.bipush 12, 2) := by decide +kernel
theorem dX11_lengthOf_5 : decode cX11_lengthOf 5 = .ok (.if_icmp .ge 19, 3) := by decide +kernel
theorem dX11_lengthOf_8 : decode cX11_lengthOf 8 = .ok (.lload_n 0, 1) := by decide +kernel
theorem dX11_lengthOf_9 : decode cX11_lengthOf 9 = .ok (.iconst 5, 1) := by decide +kernel
theorem dX11_lengthOf_10 : decode cX11_lengthOf 10 = .ok (.iload_n 2, 1) := by decide +kernel
theorem dX11_lengthOf_11 : decode cX11_lengthOf 11 = .ok (.imul, 1) := by decide +kernel
theorem dX11_lengthOf_12 : decode cX11_lengthOf 12 = .ok (.lshr, 1) := by decide +kernel
theorem dX11_lengthOf_13 : decode cX11_lengthOf 13 = .ok (.lconst 0, 1) := by decide +kernel
theorem dX11_lengthOf_14 : decode cX11_lengthOf 14 = .ok (.lcmp, 1) := by decide +kernel
theorem dX11_lengthOf_15 : decode cX11_lengthOf 15 = .ok (.ifCond .eq 9, 3) := by decide +kernel
theorem dX11_lengthOf_18 : decode cX11_lengthOf 18 = .ok (.iinc 2 1, 3) := by decide +kernel
theorem dX11_lengthOf_21 : decode cX11_lengthOf 21 = .ok (.goto (-19), 3) := by decide +kernel
theorem dX11_lengthOf_24 : decode cX11_lengthOf 24 = .ok (.iload_n 2, 1) := by decide +kernel
theorem dX11_lengthOf_25 : decode cX11_lengthOf 25 = .ok (.ireturn, 1) := by decide +kernel
def zX11_lengthOf_2 (G : kz_G) (d : Nat) (Qr : Option Value → kz_M → Prop) (Qx : String → kz_M → Prop) (x0 : Int64) (x2 : Int32)  (M : kz_M) : Prop := kz_Z G d 0 0 mX11_lengthOf Qr Qx 2 [(0, .long x0), (2, .int x2)] [] M 0 0
theorem rX11_lengthOf_0 {G : kz_G} {d : Nat} {Qr : Option Value → kz_M → Prop} {Qx : String → kz_M → Prop} {p0 : Int64}  {M : kz_M} (h : zX11_lengthOf_2 G d Qr Qx p0 0 M) : kz_C G d 0 0 mX11_lengthOf [.long p0] M Qr Qx := by
  refine kz_enter (n := 1) kmX11_lengthOf.1 (Nat.le_of_ble_eq_true rfl) (ls := [(0, .long p0)]) rfl ?_
  refine kz_iconst (pc := 0) (v := 0) (by decide) dX11_lengthOf_0 ?_
  refine kz_istore_n (pc := 1) (i := 2) (ls' := [(0, .long p0)]) rfl (by decide) rfl dX11_lengthOf_1 ?_
  refine kz_sub [1, 0] rfl ?_
  exact h
theorem rX11_lengthOf_2 {G : kz_G} {d : Nat} {Qr : Option Value → kz_M → Prop} {Qx : String → kz_M → Prop} {x0 : Int64} {x2 : Int32}  {M : kz_M} (h : ((12 : Int32) ≤ x2 → Qr (some (.int x2)) M) ∧ (¬ (12 : Int32) ≤ x2 → ((x0 >>> ((5 * x2).toInt64 &&& 63)) = 0 → Qr (some (.int x2)) M) ∧ (¬ (x0 >>> ((5 * x2).toInt64 &&& 63)) = 0 → zX11_lengthOf_2 G d Qr Qx x0 (x2 + 1) M))) : zX11_lengthOf_2 G d Qr Qx x0 x2  M := by
  show kz_Z G d 0 0 mX11_lengthOf Qr Qx 2 [(0, .long x0), (2, .int x2)] [] M 0 0
  refine kz_iload_n (pc := 2) 1 (i := 2) rfl rfl dX11_lengthOf_2 ?_
  refine kz_bipush (pc := 3) (v := 12) (by decide) dX11_lengthOf_3 ?_
  refine kz_icmp_ge (pc := 5) (tgt := 24) (by decide) dX11_lengthOf_5 (fun hb => ?_) (fun hb => ?_)
  · replace h := h.1 hb
    refine kz_iload_n (pc := 24) 1 (i := 2) rfl rfl dX11_lengthOf_24 ?_
    exact kz_iret (pc := 25) rfl (Nat.le_refl _) (Nat.le_refl _) dX11_lengthOf_25 h
  · replace h := h.2 hb
    refine kz_lload_n (pc := 8) 0 (i := 0) rfl rfl dX11_lengthOf_8 ?_
    refine kz_iconst (pc := 9) (v := 5) (by decide) dX11_lengthOf_9 ?_
    refine kz_iload_n (pc := 10) 1 (i := 2) rfl rfl dX11_lengthOf_10 ?_
    refine kz_imul (pc := 11) dX11_lengthOf_11 ?_
    refine kz_lshr (pc := 12) dX11_lengthOf_12 ?_
    refine kz_lconst (pc := 13) (v := 0) (by decide) dX11_lengthOf_13 ?_
    refine kz_lcmp_eq (pc := 14) (tgt := 24) (by decide) dX11_lengthOf_14 dX11_lengthOf_15 (fun hb => ?_) (fun hb => ?_)
    · replace h := h.1 hb
      refine kz_iload_n (pc := 24) 1 (i := 2) rfl rfl dX11_lengthOf_24 ?_
      exact kz_iret (pc := 25) rfl (Nat.le_refl _) (Nat.le_refl _) dX11_lengthOf_25 h
    · replace h := h.2 hb
      refine kz_iinc (pc := 18) 1 (i := 2) (v := x2 + 1) (ls' := [(0, .long x0)]) rfl (congrArg (fun z => x2 + z) (by decide)) (by decide) rfl dX11_lengthOf_18 ?_
      refine kz_goto (pc := 21) (tgt := 2) (by decide) dX11_lengthOf_21 ?_
      refine kz_sub [1, 0] rfl ?_
      exact h
theorem dX11_payFor_0 : decode cX11_payFor 0 = .ok (.iconst 2, 1) := by decide +kernel
theorem dX11_payFor_1 : decode cX11_payFor 1 = .ok (.iload_n 0, 1) := by decide +kernel
theorem dX11_payFor_2 : decode cX11_payFor 2 = .ok (.imul, 1) := by decide +kernel
theorem dX11_payFor_3 : decode cX11_payFor 3 = .ok (.iload_n 1, 1) := by decide +kernel
theorem dX11_payFor_4 : decode cX11_payFor 4 = .ok (.if_icmp .ge 9, 3) := by decide +kernel
theorem dX11_payFor_7 : decode cX11_payFor 7 = .ok (.iload_n 2, 1) := by decide +kernel
theorem dX11_payFor_8 : decode cX11_payFor 8 = .ok (.iconst 2, 1) := by decide +kernel
theorem dX11_payFor_9 : decode cX11_payFor 9 = .ok (.idiv, 1) := by decide +kernel
theorem dX11_payFor_10 : decode cX11_payFor 10 = .ok (.goto 4, 3) := by decide +kernel
theorem dX11_payFor_13 : decode cX11_payFor 13 = .ok (.iload_n 2, 1) := by decide +kernel
theorem dX11_payFor_14 : decode cX11_payFor 14 = .ok (.ireturn, 1) := by decide +kernel
theorem rX11_payFor_0 {G : kz_G} {d : Nat} {Qr : Option Value → kz_M → Prop} {Qx : String → kz_M → Prop} {p0 : Int32} {p1 : Int32} {p2 : Int32}  {M : kz_M} (h : (p1 ≤ (2 * p0) → Qr (some (.int p2)) M) ∧ (¬ p1 ≤ (2 * p0) → Qr (some (.int (p2 / 2))) M)) : kz_C G d 0 0 mX11_payFor [.int p0, .int p1, .int p2] M Qr Qx := by
  refine kz_enter (n := 3) kmX11_payFor.1 (Nat.le_of_ble_eq_true rfl) (ls := [(0, .int p0), (1, .int p1), (2, .int p2)]) rfl ?_
  refine kz_iconst (pc := 0) (v := 2) (by decide) dX11_payFor_0 ?_
  refine kz_iload_n (pc := 1) 0 (i := 0) rfl rfl dX11_payFor_1 ?_
  refine kz_imul (pc := 2) dX11_payFor_2 ?_
  refine kz_iload_n (pc := 3) 1 (i := 1) rfl rfl dX11_payFor_3 ?_
  refine kz_icmp_ge (pc := 4) (tgt := 13) (by decide) dX11_payFor_4 (fun hb => ?_) (fun hb => ?_)
  · replace h := h.1 hb
    refine kz_iload_n (pc := 13) 2 (i := 2) rfl rfl dX11_payFor_13 ?_
    exact kz_iret (pc := 14) rfl (Nat.le_refl _) (Nat.le_refl _) dX11_payFor_14 h
  · replace h := h.2 hb
    refine kz_iload_n (pc := 7) 2 (i := 2) rfl rfl dX11_payFor_7 ?_
    refine kz_iconst (pc := 8) (v := 2) (by decide) dX11_payFor_8 ?_
    refine kz_idiv (pc := 9) (by decide) dX11_payFor_9 ?_
    refine kz_goto (pc := 10) (tgt := 14) (by decide) dX11_payFor_10 ?_
    exact kz_iret (pc := 14) rfl (Nat.le_refl _) (Nat.le_refl _) dX11_payFor_14 h
theorem dX11_put_0 : decode cX11_put 0 = .ok (.iload_n 1, 1) := by decide +kernel
theorem dX11_put_1 : decode cX11_put 1 = .ok (.ifCond .lt 13, 3) := by decide +kernel
theorem dX11_put_4 : decode cX11_put 4 = .ok (.iload_n 1, 1) := by decide +kernel
theorem dX11_put_5 : decode cX11_put 5 = .ok (.aload_n 0, 1) := by decide +kernel
theorem dX11_put_6 : decode cX11_put 6 = .ok (.arraylength, 1) := by decide +kernel
theorem dX11_put_7 : decode cX11_put 7 = .ok (.if_icmp .ge 7, 3) := by decide +kernel
theorem dX11_put_10 : decode cX11_put 10 = .ok (.aload_n 0, 1) := by decide +kernel
theorem dX11_put_11 : decode cX11_put 11 = .ok (.iload_n 1, 1) := by decide +kernel
theorem dX11_put_12 : decode cX11_put 12 = .ok (.iload_n 2, 1) := by decide +kernel
theorem dX11_put_13 : decode cX11_put 13 = .ok (.iastore, 1) := by decide +kernel
theorem dX11_put_14 : decode cX11_put 14 = .ok (.return_, 1) := by decide +kernel
theorem rX11_put_0 {G : kz_G} {d : Nat} {Qr : Option Value → kz_M → Prop} {Qx : String → kz_M → Prop} {p0 : Nat} {p1 : Int32} {p2 : Int32}  {M : kz_M} (h : (p1 < 0 → Qr none M) ∧ (¬ p1 < 0 → ∃ ty1 A2, (M).1 p0 = some (.inr (ty1, A2)) ∧ (((Int32.ofNat A2.1) ≤ p1 → Qr none M) ∧ (¬ (Int32.ofNat A2.1) ≤ p1 → ∃ n3 f4, (M).1 p0 = some (.inr (.int, n3, .inl f4)) ∧ vp_in p1 n3 ∧ (Qr none (kz_up M p0 (.inr (.int, n3, .inl (upd f4 (p1 : Int32).toNatClampNeg p2))))))))) : kz_C G d 0 0 mX11_put [.ref p0, .int p1, .int p2] M Qr Qx := by
  refine kz_enter (n := 3) kmX11_put.1 (Nat.le_of_ble_eq_true rfl) (ls := [(0, .ref p0), (1, .int p1), (2, .int p2)]) rfl ?_
  refine kz_iload_n (pc := 0) 1 (i := 1) rfl rfl dX11_put_0 ?_
  refine kz_if_lt (pc := 1) (tgt := 14) (by decide) dX11_put_1 (fun hb => ?_) (fun hb => ?_)
  · replace h := h.1 hb
    exact kz_vret (pc := 14) rfl (Nat.le_refl _) (Nat.le_refl _) dX11_put_14 h
  · replace h := h.2 hb
    refine kz_iload_n (pc := 4) 1 (i := 1) rfl rfl dX11_put_4 ?_
    refine kz_aload_n (pc := 5) 0 (v := .ref p0) (i := 0) rfl rfl rfl dX11_put_5 ?_
    obtain ⟨ty1, A2, hM, h⟩ := h
    refine kz_alen (pc := 6) hM rfl dX11_put_6 ?_
    refine kz_icmp_ge (pc := 7) (tgt := 14) (by decide) dX11_put_7 (fun hb => ?_) (fun hb => ?_)
    · replace h := h.1 hb
      exact kz_vret (pc := 14) rfl (Nat.le_refl _) (Nat.le_refl _) dX11_put_14 h
    · replace h := h.2 hb
      refine kz_aload_n (pc := 10) 0 (v := .ref p0) (i := 0) rfl rfl rfl dX11_put_10 ?_
      refine kz_iload_n (pc := 11) 1 (i := 1) rfl rfl dX11_put_11 ?_
      refine kz_iload_n (pc := 12) 2 (i := 2) rfl rfl dX11_put_12 ?_
      obtain ⟨n3, f4, hM, hi, h⟩ := h
      refine kz_iast (pc := 13) hM hi dX11_put_13 ?_
      exact kz_vret (pc := 14) rfl (Nat.le_refl _) (Nat.le_refl _) dX11_put_14 h
theorem dX11_withLetter_0 : decode cX11_withLetter 0 = .ok (.lload_n 0, 1) := by decide +kernel
theorem dX11_withLetter_1 : decode cX11_withLetter 1 = .ok (.iconst 5, 1) := by decide +kernel
theorem dX11_withLetter_2 : decode cX11_withLetter 2 = .ok (.lshl, 1) := by decide +kernel
theorem dX11_withLetter_3 : decode cX11_withLetter 3 = .ok (.iload_n 2, 1) := by decide +kernel
theorem dX11_withLetter_4 : decode cX11_withLetter 4 = .ok (.bipush 97, 2) := by decide +kernel
theorem dX11_withLetter_6 : decode cX11_withLetter 6 = .ok (.isub, 1) := by decide +kernel
theorem dX11_withLetter_7 : decode cX11_withLetter 7 = .ok (.iconst 1, 1) := by decide +kernel
theorem dX11_withLetter_8 : decode cX11_withLetter 8 = .ok (.iadd, 1) := by decide +kernel
theorem dX11_withLetter_9 : decode cX11_withLetter 9 = .ok (.i2l, 1) := by decide +kernel
theorem dX11_withLetter_10 : decode cX11_withLetter 10 = .ok (.lor, 1) := by decide +kernel
theorem dX11_withLetter_11 : decode cX11_withLetter 11 = .ok (.lreturn, 1) := by decide +kernel
theorem rX11_withLetter_0 {G : kz_G} {d : Nat} {Qr : Option Value → kz_M → Prop} {Qx : String → kz_M → Prop} {p0 : Int64} {p2 : Int32}  {M : kz_M} (h : Qr (some (.long ((p0 <<< (((5 : Int32)).toInt64 &&& 63)) ||| (((p2 - 97) + 1 : Int32).toInt64)))) M) : kz_C G d 0 0 mX11_withLetter [.long p0, .int p2] M Qr Qx := by
  refine kz_enter (n := 2) kmX11_withLetter.1 (Nat.le_of_ble_eq_true rfl) (ls := [(0, .long p0), (2, .int p2)]) rfl ?_
  refine kz_lload_n (pc := 0) 0 (i := 0) rfl rfl dX11_withLetter_0 ?_
  refine kz_iconst (pc := 1) (v := 5) (by decide) dX11_withLetter_1 ?_
  refine kz_lshl (pc := 2) dX11_withLetter_2 ?_
  refine kz_iload_n (pc := 3) 1 (i := 2) rfl rfl dX11_withLetter_3 ?_
  refine kz_bipush (pc := 4) (v := 97) (by decide) dX11_withLetter_4 ?_
  refine kz_isub (pc := 6) dX11_withLetter_6 ?_
  refine kz_iconst (pc := 7) (v := 1) (by decide) dX11_withLetter_7 ?_
  refine kz_iadd (pc := 8) dX11_withLetter_8 ?_
  refine kz_i2l (pc := 9) dX11_withLetter_9 ?_
  refine kz_lor (pc := 10) dX11_withLetter_10 ?_
  exact kz_lret (pc := 11) rfl (Nat.le_refl _) (Nat.le_refl _) dX11_withLetter_11 h
