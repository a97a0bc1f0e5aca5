/-! Part 65c: a builder is made; a builder's text; a text's letters -/
section JSX
variable {G : kz_G} {d mc ms : Nat} {Qr : Option Value → kz_M → Prop} {Qx : String → kz_M → Prop} {M : kz_M}
theorem c_sbInit {a : Nat} (hG : kz_stat G) (h : M.1 a = some (.inl (15, [.null, .int 0, .int 0, .int 0]))) (hmc : 1 ≤ mc) (hms : 16 ≤ ms) (Q : ∀ M1, ow_Nw (fun k => k = a) M M1 → M1.2 = M.2 + 1 → jS M1 a M.2 16 [] → Qr none M1) : kz_C G (d + 2) mc ms mJ4_init_da8c8 [.ref a] M Qr Qx := by
  refine kz_Cfr fun hf => ?_
  have ha := hf _ _ h
  refine rJ4_init_da8c8_0 ⟨1, 16, by omega, by omega, ?_⟩
  refine rJ5_init_d00df_0 hG ⟨fun hz => absurd hz (by decide), fun _ => ⟨16, by decide, by decide, by decide, by omega, by omega, _, (kz_nw_ne (by omega)).trans h, ow_l rfl, _, kz_up_same _ _ _, ow_l rfl, ⟨rfl, ?_⟩⟩⟩
  refine Q _ ⟨fun k hk hka => ?_, ?_⟩ rfl ⟨kz_up_same _ _ _, ?_, ⟨Nat.zero_le _, by decide, Nat.zero_le _⟩, fun x hx => by cases hx⟩
  · rw [kz_up_ne hka, kz_up_ne hka, kz_nw_ne (by omega)]
  · rw [kz_up_2, kz_up_2, kz_nw_2]; omega
  · rw [kz_up_ne (by omega), kz_up_ne (by omega), kz_nw_same]
    rfl
theorem c_sbLen {a v cap : Nat} {l : List Nat} (h : jS M a v cap l) (Q : Qr (some (.int (nI l.length))) M) : kz_C G (d + 1) 0 0 mJ4_length_8abf5 [.ref a] M Qr Qx :=
  rJ4_length_8abf5_0 ⟨⟨_, h.1⟩, rJ5_length_8abf5_0 ⟨_, _, h.1, rfl, _, rfl, Q⟩⟩
theorem c_copyR {p cap : Nat} {l : List Nat} (h : M.1 p = some (.inr (.byte, cap, .inl (jb l)))) (hl : l.length ≤ cap) (hc : cap ≤ 1000) (hA : jA l) (hmc : 1 ≤ mc) (hms : 1000 ≤ ms) (Q : ∀ M1, ow_Nw (fun _ => False) M M1 → M1.2 = M.2 + 1 → M1.1 M.2 = some (.inr (.byte, l.length, .inl (jb l))) → Qr (some (.ref M.2)) M1) : kz_C G (d + 2) mc ms mJ7_copyOfRange_39247 [.ref p, .int 0, .int (nI l.length)] M Qr Qx := by
  refine kz_Cfr fun hf => ?_
  have hp := hf _ _ h
  refine rJ7_copyOfRange_39247_0 ⟨fun hz => absurd rfl hz, fun _ => ⟨_, _, h, fun hz => ?_, fun hz => ?_⟩⟩
  · have e : l.length = cap := (nI_eq (b := cap) (by omega) (by omega)).mp hz
    refine ⟨_, _, h, fun i _ => jb_fit hA i, by omega, by omega, _, kz_nw_same _ _, ?_⟩
    refine Q _ ⟨fun k hk _ => kz_nw_ne (by omega), by rw [kz_nw_2]; omega⟩ rfl ?_
    rw [e]; exact kz_nw_same _ _
  · have hlt : l.length < cap := by
      rcases Nat.lt_or_ge l.length cap with g | g
      · exact g
      · exact absurd (congrArg nI (by omega : l.length = cap)) hz
    refine ⟨1, 1000, by omega, by omega, ?_⟩
    have e1 : nI l.length - 0 = nI l.length := pk_sub (b := 0) (Nat.zero_le _)
    have e2 : Int32.ofNat cap - 0 = nI cap := pk_sub (b := 0) (Nat.zero_le _)
    have e3 : (if nI l.length < nI cap then nI l.length else nI cap) = nI l.length := if_pos (nI_lt hlt (by omega))
    have h1 : (kz_nw M (.inr (.byte, l.length, .inl (fun _ => 0)))).1 p = some (.inr (.byte, cap, .inl (jb l))) := (kz_nw_ne (by omega)).trans h
    refine rJ7_copyOfRangeByte_39247_0 (rJ7_checkLength_df160_0 ⟨fun _ => ⟨rfl, ?_⟩, fun hz => absurd (nI_pos' (by omega)) hz⟩)
    rw [e1]
    refine ⟨l.length, nI_pos (by omega), nI_clamp (by omega), by omega, by omega, by omega, _, _, h1, _, _, _, _, h1, kz_nw_same _ _, fun i _ => jb_fit hA i, by decide, by decide, ?_⟩
    dsimp only
    rw [e2, e3, nI_clamp (by omega)]
    refine ⟨nI_pos (by omega), by show 0 + l.length ≤ cap; omega, by show 0 + l.length ≤ l.length; omega, fun M1 e9 => ⟨_, rfl, ?_⟩⟩
    refine Q M1 ⟨fun k hk _ => ?_, ?_⟩ ?_ ?_
    · rw [e9, kz_up_ne (by omega), kz_nw_ne (by omega)]
    · rw [e9, kz_up_2, kz_nw_2]; omega
    · rw [e9, kz_up_2, kz_nw_2]
    · rw [e9, kz_up_same]
      show some (Sum.inr (FieldType.byte, l.length, Sum.inl (va_cpy (jb l) (fun _ => 0) 0 0 l.length))) = _
      rw [jb_cpy (Nat.le_refl _)]
theorem c_toStr {a v cap : Nat} {l : List Nat} (hG : kz_stat G) (h : jS M a v cap l) (hmc : 2 ≤ mc) (hms : 1004 ≤ ms) (Q : ∀ M1, ow_Nw (fun _ => False) M M1 → M1.2 = M.2 + 2 → jT M1 M.2 l → Qr (some (.ref M.2)) M1) : kz_C G (d + 5) mc ms mJ4_toString_0e30d [.ref a] M Qr Qx := by
  refine kz_Cfr fun hf => ?_
  obtain ⟨h1, h2, h3, h4⟩ := h
  have ha := hf _ _ h1
  have hv := hf _ _ h2
  refine rJ4_toString_0e30d_0 ⟨by omega, by omega, 1, 1000, by omega, by omega, ?_⟩
  have g1 : (kz_nw M (.inl (14, [.null, .int 0, .int 0, .int 0]))).1 a = _ := (kz_nw_ne (by omega)).trans h1
  have g2 : (kz_nw M (.inl (14, [.null, .int 0, .int 0, .int 0]))).1 v = _ := (kz_nw_ne (by omega)).trans h2
  have gS : jS (kz_nw M (.inl (14, [.null, .int 0, .int 0, .int 0]))) a v cap l := ⟨g1, g2, h3, h4⟩
  refine rJ0_init_81219_0 ⟨1, 1000, by omega, by omega, ?_⟩
  refine rJ0_init_db425_0 hG ⟨⟨_, g1⟩, rJ5_getValue_6d5f1_0 ⟨_, _, g1, rfl, _, rfl, ⟨_, g1⟩, c_sbLen gS ⟨_, rfl, ⟨_, g1⟩, c_isLat hG gS ⟨_, rfl, fun hz => absurd hz (by decide), fun _ => ?_⟩⟩⟩⟩
  refine ⟨_, kz_nw_same _ _, ow_l rfl, by decide, by decide, 1, 1000, by omega, by omega, ?_⟩
  refine c_copyR ((kz_up_ne (by omega)).trans g2) h3.1 h3.2.1 h4 (by omega) (by omega) fun M1 k1 k2 k3 => ⟨_, rfl, ?_⟩
  have n2 : (kz_up (kz_nw M (.inl (14, [.null, .int 0, .int 0, .int 0]))) M.2 (.inl (14, List.set [.null, .int 0, .int 0, .int 0] 1 (.int 0)))).2 = M.2 + 1 := rfl
  rw [n2] at k2 k3 ⊢
  have k4 : M1.1 M.2 = _ := (k1.1 M.2 (by rw [n2]; omega) (fun z => z)).trans (kz_up_same _ _ _)
  refine ⟨_, k4, ow_l rfl, ⟨rfl, ⟨rfl, ?_⟩⟩⟩
  refine Q _ ⟨fun k hk _ => ?_, ?_⟩ ?_ ⟨M.2 + 1, l.length, kz_up_same _ _ _, (kz_up_ne (by omega)).trans k3, rfl, h3.2.2, h4, Nat.le_succ _⟩
  · rw [kz_up_ne (by omega), k1.1 k (by rw [n2]; omega) (fun z => z), kz_up_ne (by omega), kz_nw_ne (by omega)]
  · rw [kz_up_2, k2]; omega
  · rw [kz_up_2, k2]
theorem c_strLen {a : Nat} {l : List Nat} (hG : kz_stat G) (h : jT M a l) (Q : Qr (some (.int (nI l.length))) M) : kz_C G (d + 1) 0 0 mJ0_length_8abf5 [.ref a] M Qr Qx := by
  obtain ⟨v, cap, h1, h2, rfl, h4, h5⟩ := h
  refine rJ0_length_8abf5D_0 ⟨_, _, h1, rfl, _, _, h2, ⟨_, h1⟩, rJ0_coder_7d493D_0 hG ⟨fun hz => absurd hz (by decide), fun _ => ⟨_, _, h1, rfl, by decide, _, rfl, ?_⟩⟩⟩
  rw [sb_shr0]
  exact Q
theorem c_strAt {a i : Nat} {l : List Nat} (hG : kz_stat G) (h : jT M a l) (hi : i < l.length) (Q : Qr (some (.int (nI (l.getD i 0)))) M) : kz_C G (d + 3) 0 0 mJ0_charAt_5068e [.ref a, .int (nI i)] M Qr Qx := by
  obtain ⟨v, cap, h1, h2, rfl, h4, h5⟩ := h
  have hx := jA_get h5.1 i
  have e : (((jb l (nI i).toNatClampNeg &&& 255).toUInt32) % 65536).toInt32 = nI (l.getD i 0) := by
    rw [nI_clamp (by omega)]
    exact jb_255 _ hx
  refine rJ0_charAt_5068eD_0 ⟨⟨_, h1⟩, rJ0_isLatin1_aae02D_0 hG ⟨fun hz => absurd hz (by decide), fun _ => ⟨_, _, h1, rfl, fun hz => absurd rfl hz, fun _ => ⟨_, rfl, fun hz => absurd hz (by decide), fun _ => ⟨_, _, h1, rfl, ?_⟩⟩⟩⟩⟩
  refine rJ1_charAt_3b067D_0 ⟨_, _, h2, kz_ckI0 hG hi (by omega) ⟨rfl, _, _, h2, vp_in_nI hi (by omega), ?_⟩⟩
  rw [e]
  exact ⟨(pk_charN (by omega)).1, _, rfl, (pk_charN (by omega)).1, Q⟩
end JSX
