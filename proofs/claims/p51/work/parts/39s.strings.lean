/-! Part 39s: String.length and String.charAt of a literal -/
theorem kz_n255 : ∀ j ∈ kz_read, ∀ k, k < (kz_txt j).length → ((((kz_txt j).getD k 0 &&& 255).toUInt32 % 65536).toInt32) = (kz_txt j).getD k 0 := by decide +kernel
theorem kz_txtL : ∀ j ∈ kz_read, (kz_txt j).length < 20 := by decide +kernel
theorem dJ0_coder_7d493_0 : decode cJ0_coder_7d493 0 = .ok (.getstatic 38, 3) := by decide +kernel
theorem dJ0_coder_7d493_3 : decode cJ0_coder_7d493 3 = .ok (.ifCond .eq 10, 3) := by decide +kernel
theorem dJ0_coder_7d493_6 : decode cJ0_coder_7d493 6 = .ok (.aload_n 0, 1) := by decide +kernel
theorem dJ0_coder_7d493_7 : decode cJ0_coder_7d493 7 = .ok (.getfield 15, 3) := by decide +kernel
theorem dJ0_coder_7d493_10 : decode cJ0_coder_7d493 10 = .ok (.goto 4, 3) := by decide +kernel
theorem dJ0_coder_7d493_13 : decode cJ0_coder_7d493 13 = .ok (.iconst 1, 1) := by decide +kernel
theorem dJ0_coder_7d493_14 : decode cJ0_coder_7d493 14 = .ok (.ireturn, 1) := by decide +kernel
theorem dJ0_isLatin1_aae02_0 : decode cJ0_isLatin1_aae02 0 = .ok (.getstatic 38, 3) := by decide +kernel
theorem dJ0_isLatin1_aae02_3 : decode cJ0_isLatin1_aae02 3 = .ok (.ifCond .eq 14, 3) := by decide +kernel
theorem dJ0_isLatin1_aae02_6 : decode cJ0_isLatin1_aae02 6 = .ok (.aload_n 0, 1) := by decide +kernel
theorem dJ0_isLatin1_aae02_7 : decode cJ0_isLatin1_aae02 7 = .ok (.getfield 15, 3) := by decide +kernel
theorem dJ0_isLatin1_aae02_10 : decode cJ0_isLatin1_aae02 10 = .ok (.ifCond .ne 7, 3) := by decide +kernel
theorem dJ0_isLatin1_aae02_13 : decode cJ0_isLatin1_aae02 13 = .ok (.iconst 1, 1) := by decide +kernel
theorem dJ0_isLatin1_aae02_14 : decode cJ0_isLatin1_aae02 14 = .ok (.goto 4, 3) := by decide +kernel
theorem dJ0_isLatin1_aae02_17 : decode cJ0_isLatin1_aae02 17 = .ok (.iconst 0, 1) := by decide +kernel
theorem dJ0_isLatin1_aae02_18 : decode cJ0_isLatin1_aae02 18 = .ok (.ireturn, 1) := by decide +kernel
theorem dJ0_length_8abf5_0 : decode cJ0_length_8abf5 0 = .ok (.aload_n 0, 1) := by decide +kernel
theorem dJ0_length_8abf5_1 : decode cJ0_length_8abf5 1 = .ok (.getfield 9, 3) := by decide +kernel
theorem dJ0_length_8abf5_4 : decode cJ0_length_8abf5 4 = .ok (.arraylength, 1) := by decide +kernel
theorem dJ0_length_8abf5_5 : decode cJ0_length_8abf5 5 = .ok (.aload_n 0, 1) := by decide +kernel
theorem dJ0_length_8abf5_6 : decode cJ0_length_8abf5 6 = .ok (.invokevirtual 335, 3) := by decide +kernel
theorem dJ0_length_8abf5_9 : decode cJ0_length_8abf5 9 = .ok (.ishr, 1) := by decide +kernel
theorem dJ0_length_8abf5_10 : decode cJ0_length_8abf5 10 = .ok (.ireturn, 1) := by decide +kernel
theorem dJ3_checkIndex_8e157_0 : decode cJ3_checkIndex_8e157 0 = .ok (.iload_n 0, 1) := by decide +kernel
theorem dJ3_checkIndex_8e157_1 : decode cJ3_checkIndex_8e157 1 = .ok (.ifCond .lt 8, 3) := by decide +kernel
theorem dJ3_checkIndex_8e157_4 : decode cJ3_checkIndex_8e157 4 = .ok (.iload_n 0, 1) := by decide +kernel
theorem dJ3_checkIndex_8e157_5 : decode cJ3_checkIndex_8e157 5 = .ok (.iload_n 1, 1) := by decide +kernel
theorem dJ3_checkIndex_8e157_6 : decode cJ3_checkIndex_8e157 6 = .ok (.if_icmp .lt 10, 3) := by decide +kernel
theorem dJ3_checkIndex_8e157_9 : decode cJ3_checkIndex_8e157 9 = .ok (.aload_n 2, 1) := by decide +kernel
theorem dJ3_checkIndex_8e157_10 : decode cJ3_checkIndex_8e157 10 = .ok (.iload_n 0, 1) := by decide +kernel
theorem dJ3_checkIndex_8e157_11 : decode cJ3_checkIndex_8e157 11 = .ok (.iload_n 1, 1) := by decide +kernel
theorem dJ3_checkIndex_8e157_12 : decode cJ3_checkIndex_8e157 12 = .ok (.invokestatic 95, 3) := by decide +kernel
theorem dJ3_checkIndex_8e157_15 : decode cJ3_checkIndex_8e157 15 = .ok (.athrow, 1) := by decide +kernel
theorem dJ3_checkIndex_8e157_16 : decode cJ3_checkIndex_8e157 16 = .ok (.iload_n 0, 1) := by decide +kernel
theorem dJ3_checkIndex_8e157_17 : decode cJ3_checkIndex_8e157 17 = .ok (.ireturn, 1) := by decide +kernel
theorem dJ0_checkIndex_df160_0 : decode cJ0_checkIndex_df160 0 = .ok (.iload_n 0, 1) := by decide +kernel
theorem dJ0_checkIndex_df160_1 : decode cJ0_checkIndex_df160 1 = .ok (.iload_n 1, 1) := by decide +kernel
theorem dJ0_checkIndex_df160_2 : decode cJ0_checkIndex_df160 2 = .ok (.getstatic 1053, 3) := by decide +kernel
theorem dJ0_checkIndex_df160_5 : decode cJ0_checkIndex_df160 5 = .ok (.invokestatic 1059, 3) := by decide +kernel
theorem dJ0_checkIndex_df160_8 : decode cJ0_checkIndex_df160 8 = .ok (.pop, 1) := by decide +kernel
theorem dJ0_checkIndex_df160_9 : decode cJ0_checkIndex_df160 9 = .ok (.return_, 1) := by decide +kernel
theorem dJ1_charAt_3b067_0 : decode cJ1_charAt_3b067 0 = .ok (.iload_n 1, 1) := by decide +kernel
theorem dJ1_charAt_3b067_1 : decode cJ1_charAt_3b067 1 = .ok (.aload_n 0, 1) := by decide +kernel
theorem dJ1_charAt_3b067_2 : decode cJ1_charAt_3b067 2 = .ok (.arraylength, 1) := by decide +kernel
theorem dJ1_charAt_3b067_3 : decode cJ1_charAt_3b067 3 = .ok (.invokestatic 9, 3) := by decide +kernel
theorem dJ1_charAt_3b067_6 : decode cJ1_charAt_3b067 6 = .ok (.aload_n 0, 1) := by decide +kernel
theorem dJ1_charAt_3b067_7 : decode cJ1_charAt_3b067 7 = .ok (.iload_n 1, 1) := by decide +kernel
theorem dJ1_charAt_3b067_8 : decode cJ1_charAt_3b067 8 = .ok (.baload, 1) := by decide +kernel
theorem dJ1_charAt_3b067_9 : decode cJ1_charAt_3b067 9 = .ok (.sipush 255, 3) := by decide +kernel
theorem dJ1_charAt_3b067_12 : decode cJ1_charAt_3b067 12 = .ok (.iand, 1) := by decide +kernel
theorem dJ1_charAt_3b067_13 : decode cJ1_charAt_3b067 13 = .ok (.i2c, 1) := by decide +kernel
theorem dJ1_charAt_3b067_14 : decode cJ1_charAt_3b067 14 = .ok (.ireturn, 1) := by decide +kernel
theorem dJ0_charAt_5068e_0 : decode cJ0_charAt_5068e 0 = .ok (.aload_n 0, 1) := by decide +kernel
theorem dJ0_charAt_5068e_1 : decode cJ0_charAt_5068e 1 = .ok (.invokevirtual 492, 3) := by decide +kernel
theorem dJ0_charAt_5068e_4 : decode cJ0_charAt_5068e 4 = .ok (.ifCond .eq 12, 3) := by decide +kernel
theorem dJ0_charAt_5068e_7 : decode cJ0_charAt_5068e 7 = .ok (.aload_n 0, 1) := by decide +kernel
theorem dJ0_charAt_5068e_8 : decode cJ0_charAt_5068e 8 = .ok (.getfield 9, 3) := by decide +kernel
theorem dJ0_charAt_5068e_11 : decode cJ0_charAt_5068e 11 = .ok (.iload_n 1, 1) := by decide +kernel
theorem dJ0_charAt_5068e_12 : decode cJ0_charAt_5068e 12 = .ok (.invokestatic 495, 3) := by decide +kernel
theorem dJ0_charAt_5068e_15 : decode cJ0_charAt_5068e 15 = .ok (.ireturn, 1) := by decide +kernel
theorem dJ0_charAt_5068e_16 : decode cJ0_charAt_5068e 16 = .ok (.aload_n 0, 1) := by decide +kernel
theorem dJ0_charAt_5068e_17 : decode cJ0_charAt_5068e 17 = .ok (.getfield 9, 3) := by decide +kernel
theorem dJ0_charAt_5068e_20 : decode cJ0_charAt_5068e 20 = .ok (.iload_n 1, 1) := by decide +kernel
theorem dJ0_charAt_5068e_21 : decode cJ0_charAt_5068e 21 = .ok (.invokestatic 498, 3) := by decide +kernel
theorem dJ0_charAt_5068e_24 : decode cJ0_charAt_5068e 24 = .ok (.ireturn, 1) := by decide +kernel
section KZN
variable {G : kz_G} {d mc ms : Nat} {μ : kz_Y} {Qr : Option Value → kz_M → Prop} {Qx : String → kz_M → Prop} {pc : Nat} {ls : List (Nat × Value)} {st : List Value} {M : kz_M} {c sl : Nat}
theorem kz_callVO {μ' : kz_Y} {n d' mc' ms' index j : Nat} {As : List Value} (hm : kz_mV μ' n) (hlink : Cond.methodLink μ.1.cls index μ'.1 ∈ lw_tbl) (hdd : d' + 1 ≤ d) (hn : As.length = n) (hst : (st.map fun v => v.category).sum ≤ 8) (hO : va_O μ'.1.cls (G.2.2.2 j) (kz_old G) G.2.2.1 G.2.2.1.heap) (hc1 : c + mc' ≤ mc) (hs1 : sl + ms' ≤ ms) (hd : decode μ.2.1 pc = .ok (.invokevirtual index, 3)) {Qx' : String → kz_M → Prop} (kx : ∀ E M1, Qx' E M1 → kz_T G d mc ms μ Qr Qx pc ls st E M1 (c + mc') (sl + ms')) (k : kz_C G d' mc' ms' μ' (.retAddr j :: As) M (fun v M1 => kz_Z G d mc ms μ Qr Qx (pc + 3) ls (v.toList ++ st) M1 (c + mc') (sl + ms')) Qx') : kz_Z G d mc ms μ Qr Qx pc ls (As.reverse ++ .retAddr j :: st) M c sl := by
  intro p e R s m args below meth cd H locs la hF hl hH hL
  have hF0 := hF
  obtain ⟨hx, hb, -, hml, hown, -, -, -, hK, hlow, hR⟩ := hF
  have hR2 := hR
  subst hR
  refine kz_run (a := (.retAddr j :: As).map (kz_v G) |>.toArray) hF0 hl hL ?_ kx
  refine vx_runV (Ts := []) (own := μ.1.cls) (C := μ'.1.cls) (b := G.2.2.2 j) (As := As.map (kz_v G)) (n := n) (bytes := μ'.2.1) (maxL := μ'.2.2.1) (ret := μ'.2.2.2.1) ⟨hx, hb, hml, hown, fun w hw => by cases hw⟩ k ⟨⟨rfl, rfl, hdd, (kz_mono37 hdd hm.1.2.2.2.2.1).2, kz_ws hK hm.1.1, (by rw [kz_code0 hm.2.1]; exact List.mem_cons_self), (by have h9 := hK.1 _ hm.1.1 (kz_codeOk μ') args; rw [kz_code0 hm.2.1] at h9; exact h9), hK.1 _ hm.1.2.1 rfl args, hm.1.2.2.1, kz_par hm.1.2.2.2.1, hK.1 _ hlink rfl args⟩, ⟨hK.1 _ hm.2.2.1 rfl args, hK.1 _ hm.2.2.2 rfl args⟩⟩ ⟨kz_blind G M _, ?_, kz_pre hK hH⟩ rfl (by rw [List.length_map]; exact hn) hl.1 (by show List.map (kz_v G) (As.reverse ++ .retAddr j :: st) = _; rw [List.map_append, List.map_reverse]; rfl) (by show 2 * 0 + _ ≤ _; rw [kz_cat0]; omega) hd ⟨hc1, hs1⟩
  obtain ⟨cell, q1, q2, q3, q4⟩ := (hO.moved hK.2.2.2)
  refine ⟨cell, ?_, q2, q3⟩
  rw [hH.2.1 _ (Array.getElem?_eq_some_iff.mp q1).1]
  exact q1
theorem kz_coder {j : Nat} (hG : kz_stat G) (hj : j ∈ kz_read) (q : Qr (some (.int 0)) M) : kz_C G d 0 0 mJ0_coder_7d493 [.retAddr j] M Qr Qx := by
  have hC := hG.2.2.2.2.2.2.2.1.1
  have hS := hG.2.2.2.2.2.2.2.2 j hj
  refine kz_enter (n := 0) kmJ0_coder_7d493.1 (Nat.le_of_ble_eq_true rfl) (ls := [(0, .retAddr j)]) rfl ?_
  refine kz_gets (v := .int 1) hC kw_235 dJ0_coder_7d493_0 ?_
  refine kz_if_eq (pc := 3) (tgt := 13) (by decide) dJ0_coder_7d493_3 (fun hb => absurd hb (by decide)) (fun _ => ?_)
  refine kz_aload_n (pc := 6) 0 (v := .retAddr j) (i := 0) rfl rfl rfl dJ0_coder_7d493_6 ?_
  refine kz_sgetf (pc := 7) (v := .int 0) hS.2.1 kw_1061 dJ0_coder_7d493_7 ?_
  refine kz_goto (pc := 10) (tgt := 14) (by decide) dJ0_coder_7d493_10 ?_
  exact kz_zret (pc := 14) (ty := .byte) rfl (by decide) (Nat.le_refl _) (Nat.le_refl _) dJ0_coder_7d493_14 q
theorem kz_isLatin1 {j : Nat} (hG : kz_stat G) (hj : j ∈ kz_read) (q : Qr (some (.int 1)) M) : kz_C G d 0 0 mJ0_isLatin1_aae02 [.retAddr j] M Qr Qx := by
  have hC := hG.2.2.2.2.2.2.2.1.1
  have hS := hG.2.2.2.2.2.2.2.2 j hj
  refine kz_enter (n := 0) kmJ0_isLatin1_aae02.1 (Nat.le_of_ble_eq_true rfl) (ls := [(0, .retAddr j)]) rfl ?_
  refine kz_gets (v := .int 1) hC kw_235 dJ0_isLatin1_aae02_0 ?_
  refine kz_if_eq (pc := 3) (tgt := 17) (by decide) dJ0_isLatin1_aae02_3 (fun hb => absurd hb (by decide)) (fun _ => ?_)
  refine kz_aload_n (pc := 6) 0 (v := .retAddr j) (i := 0) rfl rfl rfl dJ0_isLatin1_aae02_6 ?_
  refine kz_sgetf (pc := 7) (v := .int 0) hS.2.1 kw_1061 dJ0_isLatin1_aae02_7 ?_
  refine kz_if_ne (pc := 10) (tgt := 17) (by decide) dJ0_isLatin1_aae02_10 (fun hb => absurd rfl hb) (fun _ => ?_)
  refine kz_iconst (pc := 13) (v := 1) (by decide) dJ0_isLatin1_aae02_13 ?_
  refine kz_goto (pc := 14) (tgt := 18) (by decide) dJ0_isLatin1_aae02_14 ?_
  exact kz_zret (pc := 18) (ty := .boolean) rfl (by decide) (Nat.le_refl _) (Nat.le_refl _) dJ0_isLatin1_aae02_18 q
theorem kz_lengthC {j : Nat} (hG : kz_stat G) (hj : j ∈ kz_read) (q : Qr (some (.int (Int32.ofNat (kz_txt j).length))) M) : kz_C G (d + 1) 0 0 mJ0_length_8abf5 [.retAddr j] M Qr Qx := by
  have hS := hG.2.2.2.2.2.2.2.2 j hj
  refine kz_enter (n := 0) kmJ0_length_8abf5.1 (Nat.le_of_ble_eq_true rfl) (ls := [(0, .retAddr j)]) rfl ?_
  refine kz_aload_n (pc := 0) 0 (v := .retAddr j) (i := 0) rfl rfl rfl dJ0_length_8abf5_0 ?_
  refine kz_sgetf (pc := 1) (v := .retAddr (j + 1000)) hS.2.2.1 kw_1060 dJ0_length_8abf5_1 ?_
  refine kz_salen (pc := 4) hS.2.2.2 rfl dJ0_length_8abf5_4 ?_
  refine kz_aload_n (pc := 5) 0 (v := .retAddr j) (i := 0) rfl rfl rfl dJ0_length_8abf5_5 ?_
  refine kz_callVO (pc := 6) (As := []) (μ' := mJ0_coder_7d493) (d' := d) (mc' := 0) (ms' := 0) kmJ0_coder_7d493 kw_231 (by omega) rfl (Nat.le_of_ble_eq_true rfl) hS.1 (Nat.le_refl _) (Nat.le_refl _) dJ0_length_8abf5_6 (fun E M9 hx => kz_Tout rfl (Nat.le_refl _) (Nat.le_refl _) hx) (kz_coder hG hj ?_)
  refine kz_ishr (pc := 9) dJ0_length_8abf5_9 ?_
  refine kz_iret (pc := 10) rfl (Nat.le_refl _) (Nat.le_refl _) dJ0_length_8abf5_10 ?_
  have e : (Int32.ofNat (kz_txt j).length) >>> ((0 : Int32) &&& 31) = Int32.ofNat (kz_txt j).length := by
    rw [show ((0 : Int32) &&& 31) = 0 from by decide]
    apply Int32.toInt_inj.mp
    rw [pk_shr _ 0 0 (by decide)]
    simp
  rw [e]
  exact q
theorem kz_ckI3 {n k : Nat} {v : Value} (hv : v = .null ∨ v = .retAddr 3000) (hk : k < n) (hn : n < 2 ^ 31) (q : Qr (some (.int (nI k))) M) : kz_C G d 0 0 mJ3_checkIndex_8e157 [.int (nI k), .int (nI n), v] M Qr Qx := by
  rcases hv with rfl | rfl
  · refine kz_enter (n := 3) kmJ3_checkIndex_8e157.1 (Nat.le_of_ble_eq_true rfl) (ls := [(0, .int (nI k)), (1, .int (nI n)), (2, .null)]) rfl ?_
    refine kz_iload_n (pc := 0) 0 (i := 0) rfl rfl dJ3_checkIndex_8e157_0 ?_
    refine kz_if_lt (pc := 1) (tgt := 9) (by decide) dJ3_checkIndex_8e157_1 (fun hb => absurd hb (nI_pos (by omega))) (fun _ => ?_)
    refine kz_iload_n (pc := 4) 0 (i := 0) rfl rfl dJ3_checkIndex_8e157_4 ?_
    refine kz_iload_n (pc := 5) 1 (i := 1) rfl rfl dJ3_checkIndex_8e157_5 ?_
    refine kz_icmp_lt (pc := 6) (tgt := 16) (by decide) dJ3_checkIndex_8e157_6 (fun _ => ?_) (fun hb => absurd (nI_lt hk hn) hb)
    refine kz_iload_n (pc := 16) 0 (i := 0) rfl rfl dJ3_checkIndex_8e157_16 ?_
    exact kz_iret (pc := 17) rfl (Nat.le_refl _) (Nat.le_refl _) dJ3_checkIndex_8e157_17 q
  · refine kz_enter (n := 3) kmJ3_checkIndex_8e157.1 (Nat.le_of_ble_eq_true rfl) (ls := [(0, .int (nI k)), (1, .int (nI n)), (2, .retAddr 3000)]) rfl ?_
    refine kz_iload_n (pc := 0) 0 (i := 0) rfl rfl dJ3_checkIndex_8e157_0 ?_
    refine kz_if_lt (pc := 1) (tgt := 9) (by decide) dJ3_checkIndex_8e157_1 (fun hb => absurd hb (nI_pos (by omega))) (fun _ => ?_)
    refine kz_iload_n (pc := 4) 0 (i := 0) rfl rfl dJ3_checkIndex_8e157_4 ?_
    refine kz_iload_n (pc := 5) 1 (i := 1) rfl rfl dJ3_checkIndex_8e157_5 ?_
    refine kz_icmp_lt (pc := 6) (tgt := 16) (by decide) dJ3_checkIndex_8e157_6 (fun _ => ?_) (fun hb => absurd (nI_lt hk hn) hb)
    refine kz_iload_n (pc := 16) 0 (i := 0) rfl rfl dJ3_checkIndex_8e157_16 ?_
    exact kz_iret (pc := 17) rfl (Nat.le_refl _) (Nat.le_refl _) dJ3_checkIndex_8e157_17 q
theorem kz_ckI0 {n k : Nat} (hG : kz_stat G) (hk : k < n) (hn : n < 2 ^ 31) (q : Qr none M) : kz_C G (d + 1) 0 0 mJ0_checkIndex_df160 [.int (nI k), .int (nI n)] M Qr Qx := by
  have hC := hG.2.2.2.2.2.2.2.1.2
  rcases hC with hC | hC
  · refine kz_enter (n := 2) kmJ0_checkIndex_df160.1 (Nat.le_of_ble_eq_true rfl) (ls := [(0, .int (nI k)), (1, .int (nI n))]) rfl ?_
    refine kz_iload_n (pc := 0) 0 (i := 0) rfl rfl dJ0_checkIndex_df160_0 ?_
    refine kz_iload_n (pc := 1) 1 (i := 1) rfl rfl dJ0_checkIndex_df160_1 ?_
    refine kz_gets (pc := 2) (v := .null) hC kw_251 dJ0_checkIndex_df160_2 ?_
    refine kz_callS (pc := 5) (μ' := mJ3_checkIndex_8e157) (d' := d) (mc' := 0) (ms' := 0) (As := [.int (nI k), .int (nI n), .null]) (st := []) (c := 0) (sl := 0) kmJ3_checkIndex_8e157 kw_253 (by omega) rfl (Nat.le_of_ble_eq_true rfl) (Nat.le_refl _) (Nat.le_refl _) dJ0_checkIndex_df160_5 (fun E M9 hx => kz_Tout rfl (Nat.le_refl _) (Nat.le_refl _) hx) (kz_ckI3 (Or.inl rfl) hk hn ?_)
    refine kz_pop (pc := 8) (v := .int (nI k)) rfl dJ0_checkIndex_df160_8 ?_
    exact kz_vret (pc := 9) rfl (Nat.le_refl _) (Nat.le_refl _) dJ0_checkIndex_df160_9 q
  · refine kz_enter (n := 2) kmJ0_checkIndex_df160.1 (Nat.le_of_ble_eq_true rfl) (ls := [(0, .int (nI k)), (1, .int (nI n))]) rfl ?_
    refine kz_iload_n (pc := 0) 0 (i := 0) rfl rfl dJ0_checkIndex_df160_0 ?_
    refine kz_iload_n (pc := 1) 1 (i := 1) rfl rfl dJ0_checkIndex_df160_1 ?_
    refine kz_gets (pc := 2) (v := .retAddr 3000) hC kw_251 dJ0_checkIndex_df160_2 ?_
    refine kz_callS (pc := 5) (μ' := mJ3_checkIndex_8e157) (d' := d) (mc' := 0) (ms' := 0) (As := [.int (nI k), .int (nI n), .retAddr 3000]) (st := []) (c := 0) (sl := 0) kmJ3_checkIndex_8e157 kw_253 (by omega) rfl (Nat.le_of_ble_eq_true rfl) (Nat.le_refl _) (Nat.le_refl _) dJ0_checkIndex_df160_5 (fun E M9 hx => kz_Tout rfl (Nat.le_refl _) (Nat.le_refl _) hx) (kz_ckI3 (Or.inr rfl) hk hn ?_)
    refine kz_pop (pc := 8) (v := .int (nI k)) rfl dJ0_checkIndex_df160_8 ?_
    exact kz_vret (pc := 9) rfl (Nat.le_refl _) (Nat.le_refl _) dJ0_checkIndex_df160_9 q
theorem kz_charAt1 {j k : Nat} (hG : kz_stat G) (hj : j ∈ kz_read) (hk : k < (kz_txt j).length) (q : Qr (some (.int ((kz_txt j).getD k 0))) M) : kz_C G (d + 2) 0 0 mJ1_charAt_3b067 [.retAddr (j + 1000), .int (nI k)] M Qr Qx := by
  have hS := hG.2.2.2.2.2.2.2.2 j hj
  have hL := kz_txtL j hj
  refine kz_enter (n := 2) kmJ1_charAt_3b067.1 (Nat.le_of_ble_eq_true rfl) (ls := [(0, .retAddr (j + 1000)), (1, .int (nI k))]) rfl ?_
  refine kz_iload_n (pc := 0) 1 (i := 1) rfl rfl dJ1_charAt_3b067_0 ?_
  refine kz_aload_n (pc := 1) 0 (v := .retAddr (j + 1000)) (i := 0) rfl rfl rfl dJ1_charAt_3b067_1 ?_
  refine kz_salen (pc := 2) hS.2.2.2 rfl dJ1_charAt_3b067_2 ?_
  refine kz_callS (pc := 3) (μ' := mJ0_checkIndex_df160) (d' := d + 1) (mc' := 0) (ms' := 0) (As := [.int (nI k), .int (nI (kz_txt j).length)]) (st := []) (c := 0) (sl := 0) kmJ0_checkIndex_df160 kw_248 (by omega) rfl (Nat.le_of_ble_eq_true rfl) (Nat.le_refl _) (Nat.le_refl _) dJ1_charAt_3b067_3 (fun E M9 hx => kz_Tout rfl (Nat.le_refl _) (Nat.le_refl _) hx) (kz_ckI0 hG hk (by omega) ?_)
  refine kz_aload_n (pc := 6) 0 (v := .retAddr (j + 1000)) (i := 0) rfl rfl rfl dJ1_charAt_3b067_6 ?_
  refine kz_iload_n (pc := 7) 1 (i := 1) rfl rfl dJ1_charAt_3b067_7 ?_
  refine kz_sbald (pc := 8) (x := (kz_txt j).getD k 0) hS.2.2.2 (vp_in_nI hk (by omega)) (by rw [nI_clamp (by omega)]) dJ1_charAt_3b067_8 ?_
  refine kz_sipush (pc := 9) (v := 255) (by decide) dJ1_charAt_3b067_9 ?_
  refine kz_iand (pc := 12) dJ1_charAt_3b067_12 ?_
  refine kz_i2c (pc := 13) dJ1_charAt_3b067_13 ?_
  refine kz_zret (pc := 14) (ty := .char) rfl (pk_nc _) (Nat.le_refl _) (Nat.le_refl _) dJ1_charAt_3b067_14 ?_
  rw [kz_n255 j hj k hk]
  exact q
theorem kz_charAtC {j k : Nat} (hG : kz_stat G) (hj : j ∈ kz_read) (hk : k < (kz_txt j).length) (q : Qr (some (.int ((kz_txt j).getD k 0))) M) : kz_C G (d + 3) 0 0 mJ0_charAt_5068e [.retAddr j, .int (nI k)] M Qr Qx := by
  have hS := hG.2.2.2.2.2.2.2.2 j hj
  refine kz_enter (n := 1) kmJ0_charAt_5068e.1 (Nat.le_of_ble_eq_true rfl) (ls := [(0, .retAddr j), (1, .int (nI k))]) rfl ?_
  refine kz_aload_n (pc := 0) 0 (v := .retAddr j) (i := 0) rfl rfl rfl dJ0_charAt_5068e_0 ?_
  refine kz_callVO (pc := 1) (As := []) (st := []) (μ' := mJ0_isLatin1_aae02) (d' := d) (mc' := 0) (ms' := 0) kmJ0_isLatin1_aae02 kw_241 (by omega) rfl (by decide) hS.1 (Nat.le_refl _) (Nat.le_refl _) dJ0_charAt_5068e_1 (fun E M9 hx => kz_Tout rfl (Nat.le_refl _) (Nat.le_refl _) hx) (kz_isLatin1 hG hj ?_)
  refine kz_if_eq (pc := 4) (tgt := 16) (by decide) dJ0_charAt_5068e_4 (fun hb => absurd hb (by decide)) (fun _ => ?_)
  refine kz_aload_n (pc := 7) 0 (v := .retAddr j) (i := 0) rfl rfl rfl dJ0_charAt_5068e_7 ?_
  refine kz_sgetf (pc := 8) (v := .retAddr (j + 1000)) hS.2.2.1 kw_1060 dJ0_charAt_5068e_8 ?_
  refine kz_iload_n (pc := 11) 1 (i := 1) rfl rfl dJ0_charAt_5068e_11 ?_
  refine kz_callS (pc := 12) (μ' := mJ1_charAt_3b067) (d' := d + 2) (mc' := 0) (ms' := 0) (As := [.retAddr (j + 1000), .int (nI k)]) (st := []) (c := 0) (sl := 0) kmJ1_charAt_3b067 kw_245 (by omega) rfl (Nat.le_of_ble_eq_true rfl) (Nat.le_refl _) (Nat.le_refl _) dJ0_charAt_5068e_12 (fun E M9 hx => kz_Tout rfl (Nat.le_refl _) (Nat.le_refl _) hx) (kz_charAt1 hG hj hk ?_)
  refine kz_zret (pc := 15) (ty := .char) rfl ?_ (Nat.le_refl _) (Nat.le_refl _) dJ0_charAt_5068e_15 q
  rw [← kz_n255 j hj k hk]
  exact pk_nc _
theorem kz_strlen {j index : Nat} (hG : kz_stat G) (hj : j ∈ kz_read) (hw : Cond.methodLink μ.1.cls index yJ0_length_8abf5 ∈ lw_tbl) (hdd : 2 ≤ d) (hst : (st.map fun v => v.category).sum ≤ 8) (hc1 : c ≤ mc) (hs1 : sl ≤ ms) (hd : decode μ.2.1 pc = .ok (.invokevirtual index, 3)) (k : kz_Z G d mc ms μ Qr Qx (pc + 3) ls (.int (Int32.ofNat (kz_txt j).length) :: st) M c sl) : kz_Z G d mc ms μ Qr Qx pc ls (.retAddr j :: st) M c sl := by
  obtain ⟨d2, rfl⟩ : ∃ d2, d = d2 + 2 := ⟨d - 2, by omega⟩
  have hS := hG.2.2.2.2.2.2.2.2 j hj
  exact kz_callVO (As := []) (μ' := mJ0_length_8abf5) (d' := d2 + 1) (mc' := 0) (ms' := 0) (Qx' := fun _ _ => False) kmJ0_length_8abf5 hw (by omega) rfl hst hS.1 hc1 hs1 hd (fun E M9 hx => hx.elim) (kz_lengthC hG hj k)
theorem kz_charAt {j index : Nat} {i : Int32} (hG : kz_stat G) (hj : j ∈ kz_read) (hi : vp_in i (kz_txt j).length) (hw : Cond.methodLink μ.1.cls index yJ0_charAt_5068e ∈ lw_tbl) (hdd : 4 ≤ d) (hst : (st.map fun v => v.category).sum ≤ 8) (hc1 : c ≤ mc) (hs1 : sl ≤ ms) (hd : decode μ.2.1 pc = .ok (.invokevirtual index, 3)) (k : kz_Z G d mc ms μ Qr Qx (pc + 3) ls (.int ((kz_txt j).getD i.toNatClampNeg 0) :: st) M c sl) : kz_Z G d mc ms μ Qr Qx pc ls (.int i :: .retAddr j :: st) M c sl := by
  obtain ⟨d2, rfl⟩ : ∃ d2, d = d2 + 4 := ⟨d - 4, by omega⟩
  have hS := hG.2.2.2.2.2.2.2.2 j hj
  have hi1 : ¬ i < 0 := fun h => hi (Or.inl h)
  obtain ⟨m, hm, rfl⟩ := nI_of hi1
  rw [nI_clamp hm] at k
  have hmk : m < (kz_txt j).length := by
    rcases Nat.lt_or_ge m (kz_txt j).length with h | h
    · exact h
    · exact absurd (Or.inr (by rw [nI_clamp hm]; exact h)) hi
  exact kz_callVO (As := [.int (nI m)]) (μ' := mJ0_charAt_5068e) (d' := d2 + 3) (mc' := 0) (ms' := 0) (Qx' := fun _ _ => False) kmJ0_charAt_5068e hw (by omega) rfl hst hS.1 hc1 hs1 hd (fun E M9 hx => hx.elim) (kz_charAtC hG hj hmk k)
end KZN
