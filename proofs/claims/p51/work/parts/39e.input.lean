/-! Part 39e: Input: its bytes; letters, digits, blanks; a letter behind a word -/
theorem ow_b8 (z : Int32) : z.toInt8.toInt32 &&& 255 = nI (z.toBitVec.toNat % 256) := by
  have e : z.toInt8.toInt32 &&& 255 = z &&& 255 := by
    apply Int32.toBitVec_inj.mp
    show (z.toBitVec.signExtend 8).signExtend 32 &&& 255#32 = z.toBitVec &&& 255#32
    apply BitVec.eq_of_getLsbD_eq
    intro i hi
    rw [BitVec.getLsbD_and, BitVec.getLsbD_and]
    by_cases h8 : i < 8
    · rw [BitVec.getLsbD_signExtend, BitVec.getLsbD_signExtend]
      simp [h8, hi]
    · have : (255#32).getLsbD i = false := by
        have : ∀ j, j < 32 → ¬ j < 8 → (255#32).getLsbD j = false := by decide
        exact this i hi h8
      rw [this]; simp
  rw [e]
  exact pk_and z 8 (by decide)
/-- the byte at a place; -1 where none is -/
def ow_sg (n : Nat) (b : Nat → Nat) (j : Nat) : Int32 := if j < n then nI (b j) else -1
/-- the input: how many bytes, the bytes -/
def ow_RI (M : kz_M) (n : Nat) (b : Nat → Nat) : Prop := M.1 1 = some (.inl (1, [.ref 2, .int (nI n)])) ∧ n ≤ 600 ∧ ∃ f, M.1 2 = some (.inr (.byte, 600, .inl f)) ∧ ∀ i, i < n → f i &&& 255 = nI (b i) ∧ b i < 256
theorem ow_RI.mv {M M1 : kz_M} {n : Nat} {b : Nat → Nat} (h : ow_RI M n b) (e1 : M1.1 1 = M.1 1) (e2 : M1.1 2 = M.1 2) : ow_RI M1 n b := by
  obtain ⟨h1, h2, f, h3, h4⟩ := h
  exact ⟨e1.trans h1, h2, f, e2.trans h3, h4⟩
def ow_by (x : Int32) (k : Int32) : Nat := (x >>> k).toBitVec.toNat % 256
/-- four bytes more -/
def ow_ap (n : Nat) (b : Nat → Nat) (x : Int32) : Nat → Nat := fun i => if i = n then ow_by x 24 else if i = n + 1 then ow_by x 16 else if i = n + 2 then ow_by x 8 else if i = n + 3 then ow_by x 0 else b i
def ow_isl (x : Int32) : Bool := !decide (x < 97) && !decide (122 < x)
def ow_isd (x : Int32) : Bool := !decide (x < 48) && !decide (57 < x)
def ow_isb (x : Int32) : Bool := decide (x = 32) || decide (x = 10)
theorem ow_isl_1 : ow_isl (-1) = false := by decide
theorem ow_isd_1 : ow_isd (-1) = false := by decide
theorem ow_isb_1 : ow_isb (-1) = false := by decide
theorem ow_islN : ∀ c, c < 256 → ow_isl (nI c) = (decide (97 ≤ c) && decide (c ≤ 122)) := by decide +kernel
theorem ow_isdN : ∀ c, c < 256 → ow_isd (nI c) = (decide (48 ≤ c) && decide (c ≤ 57)) := by decide +kernel
theorem ow_isbN : ∀ c, c < 256 → ow_isb (nI c) = (decide (c = 32) || decide (c = 10)) := by decide +kernel
section OWI
variable {G : kz_G} {d : Nat} {Qr : Option Value → kz_M → Prop} {Qx : String → kz_M → Prop} {M : kz_M} {n : Nat} {b : Nat → Nat}
theorem ow_RI.ob (h : ow_RI M n b) : ∃ fs, M.1 1 = some (.inl (1, fs)) := ⟨_, h.1⟩
theorem c_isLetter {x : Int32} (q : Qr (some (.int (ow_b (ow_isl x)))) M) : kz_C G d 0 0 mX11_isLetter [.int x] M Qr Qx := by
  refine rX11_isLetter_0 ⟨fun h => ?_, fun h => ⟨fun h2 => ?_, fun h2 => ?_⟩⟩
  · rw [ow_bf (by simp [ow_isl, h])] at q; exact q
  · rw [ow_bf (by simp [ow_isl, h2])] at q; exact q
  · rw [ow_bt (by simp only [ow_isl, h, h2]; rfl)] at q; exact q
theorem c_isDigit {x : Int32} (q : Qr (some (.int (ow_b (ow_isd x)))) M) : kz_C G d 0 0 mX11_isDigit [.int x] M Qr Qx := by
  refine rX11_isDigit_0 ⟨fun h => ?_, fun h => ⟨fun h2 => ?_, fun h2 => ?_⟩⟩
  · rw [ow_bf (by simp [ow_isd, h])] at q; exact q
  · rw [ow_bf (by simp [ow_isd, h2])] at q; exact q
  · rw [ow_bt (by simp only [ow_isd, h, h2]; rfl)] at q; exact q
theorem c_isBlank {x : Int32} (q : Qr (some (.int (ow_b (ow_isb x)))) M) : kz_C G d 0 0 mX11_isBlank [.int x] M Qr Qx := by
  refine rX11_isBlank_0 ⟨fun h => ?_, fun h => ⟨fun h2 => ?_, fun h2 => ?_⟩⟩
  · rw [ow_bt (by simp [ow_isb, h])] at q; exact q
  · rw [ow_bf (by simp [ow_isb, h, h2])] at q; exact q
  · rw [ow_bt (by simp [ow_isb, h2])] at q; exact q
theorem ow_or (a : Nat) (k c : Nat) (hc : c < 2 ^ k) : a * 2 ^ k ||| c = a * 2 ^ k + c := by
  rw [Nat.mul_comm, Nat.two_pow_add_eq_or_of_lt hc]
theorem c_withLetter {w c : Nat} (hw : w < 2 ^ 55) (h1 : 97 ≤ c) (h2 : c ≤ 122) (q : Qr (some (.long (lN (32 * w + (c - 96))))) M) : kz_C G d 0 0 mX11_withLetter [.long (lN w), .int (nI c)] M Qr Qx := by
  refine rX11_withLetter_0 ?_
  have e : (lN w <<< (((5 : Int32)).toInt64 &&& 63)) ||| (((nI c - 97) + 1 : Int32).toInt64) = lN (32 * w + (c - 96)) := by
    have e1 : (nI c - 97) + 1 = nI (c - 96) := by
      rw [show nI c - 97 = nI (c - 97) from pk_sub h1, nI_1, show c - 97 + 1 = c - 96 by omega]
    rw [e1, nI_l (by omega), show (((5 : Int32)).toInt64 &&& 63) = (5 : Int64) from by decide]
    apply Int64.toBitVec_inj.mp
    show (BitVec.ofNat 64 w) <<< 5 ||| BitVec.ofNat 64 (c - 96) = BitVec.ofNat 64 (32 * w + (c - 96))
    apply BitVec.eq_of_toNat_eq
    rw [BitVec.toNat_or, BitVec.toNat_shiftLeft, BitVec.toNat_ofNat, BitVec.toNat_ofNat, BitVec.toNat_ofNat, Nat.shiftLeft_eq]
    rw [Nat.mod_eq_of_lt (show w < 2 ^ 64 by omega), Nat.mod_eq_of_lt (show c - 96 < 2 ^ 64 by omega), Nat.mod_eq_of_lt (show w * 2 ^ 5 < 2 ^ 64 by omega), Nat.mod_eq_of_lt (show 32 * w + (c - 96) < 2 ^ 64 by omega), ow_or _ _ _ (by omega)]
    omega
  rw [e]
  exact q
theorem c_signAt {j : Nat} (h : ow_RI M n b) (hj : j < 2 ^ 31) (q : Qr (some (.int (ow_sg n b j))) M) : kz_C G d 0 0 mX1_signAt [.ref 1, .int (nI j)] M Qr Qx := by
  obtain ⟨h1, h2, f, h3, h4⟩ := h
  refine rX1_signAt_0 (ow_n (nI_pos hj) ⟨_, _, h1, rfl, pk_le n j (fun hz => ?_) (fun hz => ⟨_, _, h1, rfl, _, _, h3, ow_n (nI_ge (by omega) (by omega)) ⟨_, _, h1, rfl, _, _, h3, vp_in_nI (by omega) (by omega), ?_⟩⟩) rfl rfl⟩)
  · rw [ow_sg, if_neg (by omega)] at q; exact q
  · rw [ow_sg, if_pos hz] at q
    rw [nI_clamp (by omega), (h4 j hz).1]
    exact q
theorem c_room (h : ow_RI M n b) (q : Qr (some (.int (ow_b (decide (n + 20 ≤ 600))))) M) : kz_C G d 0 0 mX1_hasRoomForTwenty [.ref 1] M Qr Qx := by
  obtain ⟨h1, h2, f, h3, h4⟩ := h
  refine rX1_hasRoomForTwenty_0 ⟨_, _, h1, rfl, _, _, h1, rfl, _, _, h3, pk_lt 600 (n + 20) (fun hz => ?_) (fun hz => ?_) rfl (nI_add n 20)⟩
  · rw [ow_bf (by simp; omega)] at q; exact q
  · rw [ow_bt (by simp; omega)] at q; exact q
theorem c_appendByte {z : Int32} (h : ow_RI M n b) (hn : n < 600) (q : ∀ M1, ow_Sm (fun k => k = 1 ∨ k = 2) M M1 → M1.2 = M.2 → ow_RI M1 (n + 1) (fun i => if i = n then z.toBitVec.toNat % 256 else b i) → Qr none M1) : kz_C G d 0 0 mX1_appendByte [.ref 1, .int z.toInt8.toInt32] M Qr Qx := by
  obtain ⟨h1, h2, f, h3, h4⟩ := h
  refine rX1_appendByte_0 ⟨_, _, h1, rfl, ow_n (nI_pos (by omega)) ⟨_, _, h1, rfl, _, _, h1, rfl, _, _, h3, ow_n (nI_ge hn (by omega)) ⟨_, _, h1, rfl, _, _, h1, rfl, _, _, h3, vp_in_nI hn (by omega), _, _, (kz_up_ne (by omega)).trans h1, rfl, _, (kz_up_ne (by omega)).trans h1, ow_l rfl, ?_⟩⟩⟩
  rw [nI_1, nI_clamp (by omega), pk_vb]
  refine q _ (((ow_Sm.rfl' _ M).up (Or.inr rfl)).up (Or.inl rfl)) rfl ⟨kz_up_same _ _ _, by omega, _, (kz_up_ne (by omega)).trans (kz_up_same _ _ _), fun i hi => ?_⟩
  unfold upd
  by_cases hin : i = n
  · rw [if_pos hin]
    show _ = nI (if i = n then _ else _) ∧ (if i = n then _ else _) < 256
    rw [if_pos hin]
    exact ⟨ow_b8 z, Nat.mod_lt _ (by omega)⟩
  · rw [if_neg hin]
    show _ = nI (if i = n then _ else _) ∧ (if i = n then _ else _) < 256
    rw [if_neg hin]
    exact h4 i (by omega)
theorem c_appendFour {x : Int32} (h : ow_RI M n b) (hn : n + 4 ≤ 600) (q : ∀ M1, ow_Sm (fun k => k = 1 ∨ k = 2) M M1 → M1.2 = M.2 → ow_RI M1 (n + 4) (ow_ap n b x) → Qr none M1) : kz_C G (d + 1) 0 0 mX1_appendFour [.ref 1, .int x] M Qr Qx := by
  have e24 : ((24 : Int32) &&& 31) = 24 := by decide
  have e16 : ((16 : Int32) &&& 31) = 16 := by decide
  have e8 : ((8 : Int32) &&& 31) = 8 := by decide
  refine rX1_appendFour_0 ⟨h.ob, ?_⟩
  rw [e24, e16, e8]
  refine c_appendByte h (by omega) fun M1 s1 t1 h1 => ⟨rfl, h1.ob, c_appendByte h1 (by omega) fun M2 s2 t2 h2 => ⟨rfl, h2.ob, c_appendByte h2 (by omega) fun M3 s3 t3 h3 => ⟨rfl, h3.ob, c_appendByte h3 (by omega) fun M4 s4 t4 h4 => ⟨rfl, q M4 (((s1.trans s2).trans s3).trans s4) (by rw [t4, t3, t2, t1]) ?_⟩⟩⟩⟩
  obtain ⟨k1, k2, f, k3, k4⟩ := h4
  refine ⟨k1, k2, f, k3, fun i hi => ?_⟩
  obtain ⟨m1, m2⟩ := k4 i hi
  have e : ow_ap n b x i = (if i = n + 1 + 1 + 1 then x.toBitVec.toNat % 256 else if i = n + 1 + 1 then (x >>> 8).toBitVec.toNat % 256 else if i = n + 1 then (x >>> 16).toBitVec.toNat % 256 else if i = n then (x >>> 24).toBitVec.toNat % 256 else b i) := by
    have ez : x >>> 0 = x := by
      apply Int32.toInt_inj.mp
      rw [pk_shr x 0 0 (by decide)]
      simp
    unfold ow_ap ow_by
    rw [ez]
    by_cases i0 : i = n
    · rw [if_pos i0, if_neg (by omega), if_neg (by omega), if_neg (by omega), if_pos i0]
    rw [if_neg i0]
    by_cases i1 : i = n + 1
    · rw [if_pos i1, if_neg (by omega), if_neg (by omega), if_pos i1]
    rw [if_neg i1]
    by_cases i2 : i = n + 2
    · rw [if_pos i2, if_neg (by omega), if_pos i2]
    rw [if_neg i2]
    by_cases i3 : i = n + 3
    · rw [if_pos i3, if_pos i3]
    rw [if_neg i3, if_neg i3, if_neg i2, if_neg i1, if_neg i0]
  rw [e]
  exact ⟨m1, m2⟩
/-- the letters from a on, below b, as a number -/
def ow_nm (b : Nat → Nat) (w : Nat) : Nat → Nat
  | 0 => w
  | k + 1 => 32 * ow_nm b w k + (b k - 96)
theorem ow_nm_lt {b : Nat → Nat} : ∀ {k : Nat}, (∀ i, i < k → b i ≤ 122) → ow_nm b 0 k < 2 ^ (5 * k)
  | 0, _ => Nat.one_pos
  | k + 1, h => by
    have h1 := ow_nm_lt (b := b) (k := k) fun i hi => h i (by omega)
    have h2 := h k (by omega)
    rw [ow_nm, show 5 * (k + 1) = 5 * k + 5 by omega, Nat.pow_add]
    omega
/-- are the bytes all letters? -/
def ow_al (b : Nat → Nat) (n : Nat) : Bool := !ow_ex (fun i => !(decide (97 ≤ b i) && decide (b i ≤ 122))) n
/-- the word that the whole content is; 0 if it is none -/
def ow_ww (n : Nat) (b : Nat → Nat) : Nat := if n ≤ 12 then (if ow_al b n then ow_nm b 0 n else 0) else 0
theorem c_initInput {mc ms : Nat} (h : M.1 1 = some (.inl (1, [.null, .int 0]))) (h2 : M.2 = 2) (hmc : 1 ≤ mc) (hms : 600 ≤ ms) (q : ∀ M1, ow_Nw (· = 1) M M1 → M1.2 = 3 → ow_RI M1 0 (fun _ => 0) → Qr none M1) : kz_C G (d + 1) mc ms mX1_init [.ref 1] M Qr Qx := by
  refine rX1_init_0 ⟨600, by decide, by decide, by omega, by omega, by omega, _, (kz_nw_ne (by omega)).trans h, ow_l rfl, ?_⟩
  rw [h2]
  refine q _ ⟨fun k hk hk1 => ?_, ?_⟩ ?_ ⟨kz_up_same _ _ _, by omega, fun _ => 0, ?_, fun i hi => absurd hi (Nat.not_lt_zero i)⟩
  · rw [kz_up_ne hk1, kz_nw_ne (by omega)]
  · rw [kz_up_2, kz_nw_2]; omega
  · rw [kz_up_2, kz_nw_2]; omega
  · refine (kz_up_ne (by omega)).trans ?_
    rw [← h2]
    exact kz_nw_same _ _
end OWI
