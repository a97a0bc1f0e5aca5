/-! Part 59l: quotients are numbers; LineOffice: meanWidth, caughtShare -/
theorem fq_asm {w p e t : Nat} (he : e ≤ w) (ht : t < p) : (false.toNat * 0 + e) * p + t < (w + 1) * p := by
  show (0 * 0 + e) * p + t < (w + 1) * p
  have h1 : (0 * 0 + e) * p ≤ w * p := Nat.mul_le_mul_right p (by omega)
  have h2 : (w + 1) * p = w * p + p := Nat.succ_mul w p
  omega
/-- the greatest encoding of a number, or the infinity -/
theorem fq_enc64 (c : Nat) (q : Int) (hc : c < 2 ^ 53) (hq : q ≤ FP.Core.b64.qmax) : FP.Core.encode FP.Core.b64 (.fin false c q) ≤ 9218868437227405312 := by
  have e1 : FP.Core.b64.qmax = 971 := by decide +kernel
  have e2 : FP.Core.b64.qmin = -1074 := by decide +kernel
  have e3 : FP.Core.b64.tails = 4503599627370496 := by decide +kernel
  have e4 : FP.Core.b64.exps = 2048 := by decide +kernel
  rw [e1] at hq
  unfold FP.Core.encode
  simp only [FP.Core.assemble, e2, e3, e4]
  have e5 : (2 : Nat) ^ 53 = 9007199254740992 := by decide
  rw [e5] at hc
  split
  · show (0 * 2048 + 0) * 4503599627370496 + c ≤ _
    omega
  · show (0 * 2048 + ((q - -1074).toNat + 1)) * 4503599627370496 + (c - 4503599627370496) ≤ _
    omega
theorem fq_enc32 (c : Nat) (q : Int) (hc : c < 2 ^ 24) (hq : q ≤ FP.Core.b32.qmax) : FP.Core.encode FP.Core.b32 (.fin false c q) ≤ 2139095040 := by
  have e1 : FP.Core.b32.qmax = 104 := by decide +kernel
  have e2 : FP.Core.b32.qmin = -149 := by decide +kernel
  have e3 : FP.Core.b32.tails = 8388608 := by decide +kernel
  have e4 : FP.Core.b32.exps = 256 := by decide +kernel
  rw [e1] at hq
  unfold FP.Core.encode
  simp only [FP.Core.assemble, e2, e3, e4]
  have e5 : (2 : Nat) ^ 24 = 16777216 := by decide
  rw [e5] at hc
  split
  · show (0 * 256 + 0) * 8388608 + c ≤ _
    omega
  · show (0 * 256 + ((q - -149).toNat + 1)) * 8388608 + (c - 8388608) ≤ _
    omega
theorem fq_bnd64 (c : Nat) (q : Int) (hc : c < 2 ^ 53) : FP.Core.encode FP.Core.b64 (FP.Core.bound FP.Core.b64 false c q) ≤ 9218868437227405312 := by
  unfold FP.Core.bound
  split
  · rename_i hq
    exact fq_enc64 c q hc hq
  · decide +kernel
theorem fq_bnd32 (c : Nat) (q : Int) (hc : c < 2 ^ 24) : FP.Core.encode FP.Core.b32 (FP.Core.bound FP.Core.b32 false c q) ≤ 2139095040 := by
  unfold FP.Core.bound
  split
  · rename_i hq
    exact fq_enc32 c q hc hq
  · decide +kernel
theorem fq_rr64 (n d : Nat) (e : Int) : FP.Core.encode FP.Core.b64 (FP.Core.roundRatio FP.Core.b64 false n d e) ≤ 9218868437227405312 := by
  unfold FP.Core.roundRatio
  split
  · decide +kernel
  · unfold FP.Core.roundAt FP.Core.settle
    split
    · rename_i hc
      exact fq_bnd64 _ _ hc
    · exact fq_bnd64 _ _ (by decide +kernel)
theorem fq_rr32 (n d : Nat) (e : Int) : FP.Core.encode FP.Core.b32 (FP.Core.roundRatio FP.Core.b32 false n d e) ≤ 2139095040 := by
  unfold FP.Core.roundRatio
  split
  · decide +kernel
  · unfold FP.Core.roundAt FP.Core.settle
    split
    · rename_i hc
      exact fq_bnd32 _ _ hc
    · exact fq_bnd32 _ _ (by decide +kernel)
def fq_pos : FP.Core.Datum → Bool
  | .nan => false
  | .inf s => !s
  | .fin s c _ => !s && decide (0 < c)
def fq_nat : FP.Core.Datum → Bool
  | .fin s _ _ => !s
  | _ => false
theorem fq_q64 {x y : FP.Core.Datum} (hx : fq_nat x = true) (hy : fq_nat y = true) (hp : fq_pos y = true) : FP.Core.encode FP.Core.b64 (FP.Core.quotient FP.Core.b64 x y) ≤ 9218868437227405312 := by
  cases x with
  | nan => cases hx
  | inf s => cases hx
  | fin s c q =>
    cases y with
    | nan => cases hy
    | inf s => cases hy
    | fin t d r =>
      cases s with
      | true => cases hx
      | false =>
        cases t with
        | true => cases hy
        | false =>
          have hd : 0 < d := by simpa [fq_pos] using hp
          unfold FP.Core.quotient
          show FP.Core.encode FP.Core.b64 (if d = 0 then _ else _) ≤ _
          rw [if_neg (by omega)]
          exact fq_rr64 _ _ _
theorem fq_q32 {x y : FP.Core.Datum} (hx : fq_nat x = true) (hy : fq_nat y = true) (hp : fq_pos y = true) : FP.Core.encode FP.Core.b32 (FP.Core.quotient FP.Core.b32 x y) ≤ 2139095040 := by
  cases x with
  | nan => cases hx
  | inf s => cases hx
  | fin s c q =>
    cases y with
    | nan => cases hy
    | inf s => cases hy
    | fin t d r =>
      cases s with
      | true => cases hx
      | false =>
        cases t with
        | true => cases hy
        | false =>
          have hd : 0 < d := by simpa [fq_pos] using hp
          unfold FP.Core.quotient
          show FP.Core.encode FP.Core.b32 (if d = 0 then _ else _) ≤ _
          rw [if_neg (by omega)]
          exact fq_rr32 _ _ _
theorem fq_d : ∀ n, n < 2048 → fq_nat (FP.Core.decode FP.Core.b64 (FP.i2d (nI n)).toNat) = true := by decide +kernel
theorem fq_d0 : ∀ n, n < 2048 → 0 < n → fq_pos (FP.Core.decode FP.Core.b64 (FP.i2d (nI n)).toNat) = true := by decide +kernel
theorem fq_f : ∀ n, n < 1024 → fq_nat (FP.Core.decode FP.Core.b32 (FP.i2f (nI n)).toNat) = true := by decide +kernel
theorem fq_f0 : ∀ n, n < 1024 → 0 < n → fq_pos (FP.Core.decode FP.Core.b32 (FP.i2f (nI n)).toNat) = true := by decide +kernel
theorem fq_n64 {r : UInt64} (h : r.toNat ≤ 9218868437227405312) : vf_n64 r := by
  show r &&& 0x7fffffffffffffff ≤ 0x7ff0000000000000
  rw [UInt64.le_iff_toNat_le, UInt64.toNat_and]
  exact Nat.le_trans Nat.and_le_left h
theorem fq_n32 {r : UInt32} (h : r.toNat ≤ 2139095040) : vf_n32 r := by
  show r &&& 0x7fffffff ≤ 0x7f800000
  rw [UInt32.le_iff_toNat_le, UInt32.toNat_and]
  exact Nat.le_trans Nat.and_le_left h
theorem fq_ddiv {m n : Nat} (hm : m < 2048) (hn : n < 2048) (h0 : 0 < n) : (FP.ddiv (FP.i2d (nI m)) (FP.i2d (nI n))).toNat ≤ 9218868437227405312 := by
  have h := fq_q64 (fq_d m hm) (fq_d n hn) (fq_d0 n hn h0)
  show (UInt64.ofNat (FP.Core.encode FP.Core.b64 (FP.Core.quotient FP.Core.b64 (FP.Core.decode FP.Core.b64 (FP.i2d (nI m)).toNat) (FP.Core.decode FP.Core.b64 (FP.i2d (nI n)).toNat)))).toNat ≤ _
  rw [UInt64.toNat_ofNat_of_lt' (Nat.lt_of_le_of_lt h (by decide))]
  exact h
theorem fq_fdiv {m n : Nat} (hm : m < 1024) (hn : n < 1024) (h0 : 0 < n) : (FP.fdiv (FP.i2f (nI m)) (FP.i2f (nI n))).toNat ≤ 2139095040 := by
  have h := fq_q32 (fq_f m hm) (fq_f n hn) (fq_f0 n hn h0)
  show (UInt32.ofNat (FP.Core.encode FP.Core.b32 (FP.Core.quotient FP.Core.b32 (FP.Core.decode FP.Core.b32 (FP.i2f (nI m)).toNat) (FP.Core.decode FP.Core.b32 (FP.i2f (nI n)).toNat)))).toNat ≤ _
  rw [UInt32.toNat_ofNat_of_lt' (Nat.lt_of_le_of_lt h (by decide))]
  exact h
