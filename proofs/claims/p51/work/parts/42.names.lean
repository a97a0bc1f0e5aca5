/-! Part 42: the words of the language; tokens of a setup text -/
/-- a literal's letters and its number -/
def tx_b (j k : Nat) : Nat := ((kz_txt j).getD k 0).toNatClampNeg
def kz_cd (j : Nat) : Nat := ow_nm (tx_b j) 0 (kz_txt j).length
theorem tx_ok : ∀ j ∈ kz_read, ∀ k, k < (kz_txt j).length → (kz_txt j).getD k 0 = nI (tx_b j k) ∧ 97 ≤ tx_b j k ∧ tx_b j k ≤ 122 := by decide +kernel
theorem tx_len : ∀ j ∈ kz_read, (kz_txt j).length ≤ 8 := by decide +kernel
theorem kz_cd_lt : ∀ j ∈ kz_read, kz_cd j < 2 ^ 60 := by decide +kernel
theorem kz_wd_in : ∀ k, k < 10 → kz_wd k ∈ kz_read := by decide
/-- the setting of a name -/
def sp_set (w : Nat) : Option Nat := ow_fs (fun i => decide (kz_cd (kz_wd i) = w)) 10
/-- can a writer be named so? -/
def sp_name (w : Nat) : Bool := !decide (w = 0) && (decide (ow_ln w ≤ 6) && (!decide (w = kz_cd 1022) && (!decide (w = kz_cd 1023) && (sp_set w).isNone)))
section OWX
variable {G : kz_G} {d : Nat} {Qr : Option Value → kz_M → Prop} {Qx : String → kz_M → Prop} {M : kz_M}
theorem c_coded {j : Nat} (hG : kz_stat G) (hj : j ∈ kz_read) (q : Qr (some (.long (lN (kz_cd j)))) M) : kz_C G (d + 4) 0 0 mX11_coded [.retAddr j] M Qr Qx := by
  have hL := tx_len j hj
  refine rX11_coded_0 (ow_loop (P := fun i => zX11_coded_4 G d Qr Qx j (lN (ow_nm (tx_b j) 0 i)) (nI i) M) (kz_txt j).length ?_ ?_ 0 (Nat.zero_le _))
  · exact rX11_coded_4 hG ⟨hj, ow_y (nI_le (Nat.le_refl _) (by omega)) q⟩
  · intro i hi ih
    obtain ⟨t1, t2, t3⟩ := tx_ok j hj i hi
    have hlt := ow_nm_lt (b := tx_b j) (k := i) fun k hk => (tx_ok j hj k (by omega)).2.2
    have h55 : ow_nm (tx_b j) 0 i < 2 ^ 55 := Nat.lt_of_lt_of_le hlt (Nat.pow_le_pow_right (by omega) (by omega))
    refine rX11_coded_4 hG ⟨hj, ow_n (nI_ge hi (by omega)) ⟨hj, vp_in_nI hi (by omega), ?_⟩⟩
    rw [nI_clamp (by omega), t1]
    refine c_withLetter h55 t2 t3 ⟨_, rfl, ?_⟩
    rw [nI_1]
    exact ih
theorem c_settingNamed {w : Nat} (hG : kz_stat G) (hw : w < 2 ^ 60) (q : Qr (some (.int (ow_oi (sp_set w)))) M) : kz_C G (d + 5) 0 0 mX11_settingNamed [.long (lN w)] M Qr Qx := by
  refine rX11_settingNamed_0 ?_
  have key : ∀ i, i ≤ 10 → (∀ j, j < i → (fun i => decide (kz_cd (kz_wd i) = w)) j = false) → zX11_settingNamed_2 G d Qr Qx (lN w) (nI i) M := by
    refine ow_loop 10 ?_ ?_
    · intro hno
      rw [show sp_set w = none from ow_fs_none hno] at q
      exact rX11_settingNamed_2 hG (ow_y (by decide) q)
    · intro i hi ih hno
      have hr := kz_wd_in i hi
      have hc := kz_cd_lt _ hr
      refine rX11_settingNamed_2 hG (ow_n (nI_ge (b := 10) hi (by omega)) ⟨vp_in_nI hi (by omega), by rw [nI_clamp (by omega)]; exact hi, ?_⟩)
      rw [nI_clamp (by omega)]
      refine c_coded hG hr ⟨_, rfl, ?_⟩
      by_cases he : kz_cd (kz_wd i) = w
      · refine ow_nn (by rw [he]) ?_
        rw [show sp_set w = some i from ow_fs_some (by simp [he]) hno hi] at q
        exact q
      · refine ow_yn (fun e => he ((pk_lEQ (by omega) (by omega)).mp e)) ?_
        rw [nI_1]
        refine ih fun j hj => ?_
        rcases Nat.lt_or_ge j i with hji | hji
        · exact hno j hji
        · have : j = i := by omega
          subst this; simp [he]
  exact key 0 (Nat.zero_le _) fun j hj => absurd hj (Nat.not_lt_zero j)
theorem ow_oi_m1 {o : Option Nat} (h : ∀ i, o = some i → i < 2 ^ 31) : ow_oi o = -1 ↔ o = none := by
  cases o with
  | none => exact ⟨fun _ => rfl, fun _ => rfl⟩
  | some k =>
    refine ⟨fun e => ?_, fun e => by cases e⟩
    have h1 := h k rfl
    have h2 : (nI k).toInt = (-1 : Int32).toInt := congrArg Int32.toInt e
    rw [nI_toInt h1] at h2
    have h3 : ((-1 : Int32)).toInt = -1 := by decide
    omega
theorem ow_fs_lt {p : Nat → Bool} : ∀ {n i : Nat}, ow_fs p n = some i → i < n ∧ p i = true
  | 0, i, h => by cases h
  | n + 1, i, h => by
    rw [ow_fs] at h
    cases hf : ow_fs p n with
    | some k =>
      rw [hf] at h
      cases h
      obtain ⟨h1, h2⟩ := ow_fs_lt hf
      exact ⟨by omega, h2⟩
    | none =>
      rw [hf] at h
      by_cases hp : p n = true
      · simp [hp] at h
        subst h
        exact ⟨by omega, hp⟩
      · simp [hp] at h
theorem sp_set_lt {w i : Nat} (h : sp_set w = some i) : i < 10 := (ow_fs_lt h).1
theorem c_isName {w : Nat} (hG : kz_stat G) (hw : w < 2 ^ 60) (q : Qr (some (.int (ow_b (sp_name w)))) M) : kz_C G (d + 6) 0 0 mX11_isName [.long (lN w)] M Qr Qx := by
  have h12 := ow_ln_le w
  have c1 := kz_cd_lt 1022 (by decide)
  have c2 := kz_cd_lt 1023 (by decide)
  refine rX11_isName_0 ⟨fun h0 => ?_, fun h0 => c_lengthOf hw ⟨_, rfl, pk_lt 6 (ow_ln w) (fun h6 => ?_) (fun h6 => c_coded hG (by decide) ⟨_, rfl, fun ho => ?_, fun ho => c_coded hG (by decide) ⟨_, rfl, fun hr => ?_, fun hr => c_settingNamed hG hw ⟨_, rfl, fun hs => ?_, fun hs => ?_⟩⟩⟩) rfl rfl⟩⟩
  · have : w = 0 := (pk_lEQ (b := 0) (by omega) (by omega)).mp h0
    rw [ow_bf (by simp [sp_name, this])] at q
    exact q
  · rw [ow_bf (by
      have : ¬ ow_ln w ≤ 6 := by omega
      simp [sp_name, this])] at q
    exact q
  · have : w = kz_cd 1022 := (pk_lEQ (by omega) (by omega)).mp ho
    rw [ow_bf (by simp [sp_name, ← this])] at q
    exact q
  · have : w = kz_cd 1023 := (pk_lEQ (by omega) (by omega)).mp hr
    rw [ow_bf (by simp [sp_name, ← this])] at q
    exact q
  · have hne : sp_set w ≠ none := fun e => hs ((ow_oi_m1 fun i hi => by have := sp_set_lt hi; omega).mpr e)
    have : (sp_set w).isNone = false := by
      cases h : sp_set w with
      | none => exact absurd h hne
      | some i => rfl
    rw [ow_bf (by simp [sp_name, this])] at q
    exact q
  · have hn := (ow_oi_m1 fun i hi => by have := sp_set_lt hi; omega).mp hs
    have h0' : ¬ w = 0 := fun e => h0 (by rw [e]; rfl)
    have ho' : ¬ w = kz_cd 1022 := fun e => ho (by rw [← e])
    have hr' : ¬ w = kz_cd 1023 := fun e => hr (by rw [← e])
    rw [ow_bt (by simp [sp_name, h0', ho', hr', hn, h6])] at q
    exact q
end OWX
