/-! Part 59o: LineOffice is made, stage by stage -/
/-- a new object of the class, without what may lie behind it -/
def ow_C0 (M : kz_M) : Prop := ow_P7 M (-1) o_1
theorem ow_P7.mv {M M1 : kz_M} {i : Int32} {O : ow_O} (h : ow_P7 M i O) (hf : ow_fr M) (g : ∀ k, k < 99 → M1.1 k = M.1 k) (e : M1.2 = 99) : ow_P7 M1 i O := by
  obtain ⟨h2, h0, h3, h4, h5, h6, h7, h8, h9⟩ := h
  have K := ow_inK (M1 := M1) hf (by omega)
  refine ⟨e, (g 0 (by omega)).trans h0, h3.mv (g 1 (by omega)) (g 2 (by omega)), h4.mv (g 3 (by omega)) (g 4 (by omega)), h5.mv K fun k h1 h2 => g k (by omega), h6.mv K fun k h1 h2 => g k (by omega), h7.mv K fun k hk => g k (by have := hk.2; omega), h8.mv K fun k hk => g k (by have := hk.2; omega), h9.mv K (g 97 (by omega)) (g 98 (by omega))⟩
theorem ow_C0.ci {M M1 : kz_M} (h : ow_C0 M) (hf : ow_fr M) (g : ∀ k, k < 99 → M1.1 k = M.1 k) (e : ow_K ≤ M1.2) : ow_CI M1 o_1 0 (fun _ => o_0) o_0 false 0 (-1) 0 (fun _ => 0) [] := by
  obtain ⟨h2, h0, h3, h4, h5, h6, h7, h8, h9⟩ := h
  have K := ow_inK (M1 := M1) hf (by omega)
  exact ⟨(g 0 (by omega)).trans h0, h3.mv (g 1 (by omega)) (g 2 (by omega)), h4.mv (g 3 (by omega)) (g 4 (by omega)), h5.mv K fun k h1 h2 => g k (by omega), h6.mv K fun k h1 h2 => g k (by omega), h7.mv K fun k hk => g k (by have := hk.2; omega), ⟨_, _, _, _, _, h8.mv K fun k hk => g k (by have := hk.2; omega)⟩, ⟨_, _, h9.mv K (g 97 (by omega)) (g 98 (by omega))⟩, e⟩
section OWI
variable {G : kz_G} {d mc ms : Nat} {Qr : Option Value → kz_M → Prop} {Qx : String → kz_M → Prop} {M : kz_M} {c sl : Nat}
theorem c_i81 (hG : kz_stat G) (h : ow_P7 M 0 o_0) (hc : c ≤ mc) (hs : sl ≤ ms) (q : ∀ M1, ow_C0 M1 → Qr none M1) : zX11_init_81 G d mc ms Qr Qx 0 M c sl := by
  refine kz_Zfr fun hf => ?_
  obtain ⟨h2, h0, h3, h4, h5, h6, h7, h8, h9⟩ := h
  refine rX11_init_81 hc hs ⟨_, h0, ow_l rfl, _, kz_up_same _ _ _, ow_l rfl, _, kz_up_same _ _ _, ow_l rfl, ?_⟩
  have e := kz_up_same (kz_up (kz_up M 0 (.inl (10, List.set [.ref 1, .ref 3, .ref 5, .ref 13, .ref 21, .ref 87, .ref 97, .int 0, .int 0, .int 0] 7 (.int 0)))) 0 (.inl (10, List.set (List.set [.ref 1, .ref 3, .ref 5, .ref 13, .ref 21, .ref 87, .ref 97, .int 0, .int 0, .int 0] 7 (.int 0)) 8 (.int 0)))) 0 (.inl (10, List.set (List.set (List.set [.ref 1, .ref 3, .ref 5, .ref 13, .ref 21, .ref 87, .ref 97, .int 0, .int 0, .int 0] 7 (.int 0)) 8 (.int 0)) 9 (.int (-1))))
  have g : ∀ k, k ≠ 0 → (kz_up (kz_up (kz_up M 0 (.inl (10, List.set [.ref 1, .ref 3, .ref 5, .ref 13, .ref 21, .ref 87, .ref 97, .int 0, .int 0, .int 0] 7 (.int 0)))) 0 (.inl (10, List.set (List.set [.ref 1, .ref 3, .ref 5, .ref 13, .ref 21, .ref 87, .ref 97, .int 0, .int 0, .int 0] 7 (.int 0)) 8 (.int 0)))) 0 (.inl (10, List.set (List.set (List.set [.ref 1, .ref 3, .ref 5, .ref 13, .ref 21, .ref 87, .ref 97, .int 0, .int 0, .int 0] 7 (.int 0)) 8 (.int 0)) 9 (.int (-1))))).1 k = M.1 k := fun k hk => by rw [kz_up_ne hk, kz_up_ne hk, kz_up_ne hk]
  have e2 : (kz_up (kz_up (kz_up M 0 (.inl (10, List.set [.ref 1, .ref 3, .ref 5, .ref 13, .ref 21, .ref 87, .ref 97, .int 0, .int 0, .int 0] 7 (.int 0)))) 0 (.inl (10, List.set (List.set [.ref 1, .ref 3, .ref 5, .ref 13, .ref 21, .ref 87, .ref 97, .int 0, .int 0, .int 0] 7 (.int 0)) 8 (.int 0)))) 0 (.inl (10, List.set (List.set (List.set [.ref 1, .ref 3, .ref 5, .ref 13, .ref 21, .ref 87, .ref 97, .int 0, .int 0, .int 0] 7 (.int 0)) 8 (.int 0)) 9 (.int (-1))))).2 = 99 := h2
  generalize kz_up (kz_up (kz_up M 0 (.inl (10, List.set [.ref 1, .ref 3, .ref 5, .ref 13, .ref 21, .ref 87, .ref 97, .int 0, .int 0, .int 0] 7 (.int 0)))) 0 (.inl (10, List.set (List.set [.ref 1, .ref 3, .ref 5, .ref 13, .ref 21, .ref 87, .ref 97, .int 0, .int 0, .int 0] 7 (.int 0)) 8 (.int 0)))) 0 (.inl (10, List.set (List.set (List.set [.ref 1, .ref 3, .ref 5, .ref 13, .ref 21, .ref 87, .ref 97, .int 0, .int 0, .int 0] 7 (.int 0)) 8 (.int 0)) 9 (.int (-1)))) = M2 at e g e2 ⊢
  have K := ow_inK (M1 := M2) hf (by omega)
  have r5 : ow_RO M2 5 o_0 := h5.mv K fun k h1 h2 => g k (by omega)
  refine ⟨_, _, e, rfl, c_coded hG (by decide) ⟨_, rfl, r5.ob, c_enrol r5 (by decide) (by decide) fun M3 k1 k2 k3 => ⟨rfl, q M3 ?_⟩⟩⟩
  have g3 : ∀ k, k < 5 ∨ 13 ≤ k → M3.1 k = M2.1 k := fun k hk => k1 k (fun z => by have := z.1; have := z.2; omega)
  have g4 : ∀ k, k ≠ 0 → k < 5 ∨ 13 ≤ k → M3.1 k = M.1 k := fun k h0 hk => by rw [g3 k hk, g k h0]
  have K3 := ow_inK (M1 := M3) hf (by omega)
  exact ⟨k2.trans e2, (g3 0 (by omega)).trans e, h3.mv (g4 1 (by omega) (by omega)) (g4 2 (by omega) (by omega)), h4.mv (g4 3 (by omega) (by omega)) (g4 4 (by omega) (by omega)), k3, h6.mv K3 fun k h1 h2 => g4 k (by omega) (by omega), h7.mv K3 fun k hk => g4 k (by have := hk.1; omega) (by have := hk.1; omega), h8.mv K3 fun k hk => g4 k (by have := hk.1; omega) (by have := hk.1; omega), h9.mv K3 (g4 97 (by omega) (by omega)) (g4 98 (by omega) (by omega))⟩
theorem c_i70 (hG : kz_stat G) (h : ow_P6 M) (hc : c + 2 ≤ mc) (hs : sl + 782 ≤ ms) (q : ∀ M1, ow_C0 M1 → Qr none M1) : zX11_init_70 G d mc ms Qr Qx 0 M c sl := by
  refine kz_Zfr fun hf => ?_
  obtain ⟨h2, h0, h3, h4, h5, h6, h7, h8⟩ := h
  refine rX11_init_70 (by omega) (by omega) ⟨by omega, by omega, 1, 780, by omega, by omega, ?_⟩
  have hA := kz_nw_same M (.inl (5, [.null, .int 0]))
  rw [h2] at hA ⊢
  refine c_pinit hA (by rw [kz_nw_2, h2]) (by omega) (by omega) fun M2 k1 k2 k3 => ⟨rfl, _, (ow_ini h2 k1 0 (by omega)).trans h0, ow_l rfl, c_i81 hG ?_ (by omega) (by omega) q⟩
  have g := fun k hk h0 => ow_ini0 (e0 := .inl (10, List.set [.ref 1, .ref 3, .ref 5, .ref 13, .ref 21, .ref 87, .null, .int 0, .int 0, .int 0] 6 (.ref 97))) h2 k1 k hk h0
  have K := ow_inK (M1 := kz_up M2 0 (.inl (10, List.set [.ref 1, .ref 3, .ref 5, .ref 13, .ref 21, .ref 87, .null, .int 0, .int 0, .int 0] 6 (.ref 97)))) hf (by omega)
  exact ⟨k2, kz_up_same _ _ _, h3.mv (g 1 (by omega) (by omega)) (g 2 (by omega) (by omega)), h4.mv (g 3 (by omega) (by omega)) (g 4 (by omega) (by omega)), h5.mv K fun k h1 h2 => g k (by omega) (by omega), h6.mv K fun k h1 h2 => g k (by omega) (by omega), h7.mv K fun k hk => g k (by have := hk.2; omega) (by have := hk.1; omega), h8.mv K fun k hk => g k (by have := hk.2; omega) (by have := hk.1; omega), k3.mv (fun k e hk he => (kz_up_ne (by have : ow_K = 99 := rfl; omega)).trans he) (kz_up_ne (by omega)) (kz_up_ne (by omega))⟩
theorem c_i59 (hG : kz_stat G) (h : ow_P5 M) (hc : c + 12 ≤ mc) (hs : sl + 973 ≤ ms) (q : ∀ M1, ow_C0 M1 → Qr none M1) : zX11_init_59 G d mc ms Qr Qx 0 M c sl := by
  refine kz_Zfr fun hf => ?_
  obtain ⟨h2, h0, h3, h4, h5, h6, h7⟩ := h
  refine rX11_init_59 (by omega) (by omega) ⟨by omega, by omega, 9, 182, by omega, by omega, ?_⟩
  have hA := kz_nw_same M (.inl (7, [.null, .null, .int 0, .int 0, .int 0, .long 0, .int 0, .int 0, .int 0]))
  rw [h2] at hA ⊢
  refine c_rinit hG hA (by rw [kz_nw_2, h2]) (by omega) (by omega) fun M2 k1 k2 k3 => ⟨rfl, _, (ow_ini h2 k1 0 (by omega)).trans h0, ow_l rfl, c_i70 hG ?_ (by omega) (by omega) q⟩
  have g := fun k hk h0 => ow_ini0 (e0 := .inl (10, List.set [.ref 1, .ref 3, .ref 5, .ref 13, .ref 21, .null, .null, .int 0, .int 0, .int 0] 5 (.ref 87))) h2 k1 k hk h0
  have K := ow_inK (M1 := kz_up M2 0 (.inl (10, List.set [.ref 1, .ref 3, .ref 5, .ref 13, .ref 21, .null, .null, .int 0, .int 0, .int 0] 5 (.ref 87)))) hf (by omega)
  exact ⟨k2, kz_up_same _ _ _, h3.mv (g 1 (by omega) (by omega)) (g 2 (by omega) (by omega)), h4.mv (g 3 (by omega) (by omega)) (g 4 (by omega) (by omega)), h5.mv K fun k h1 h2 => g k (by omega) (by omega), h6.mv K fun k h1 h2 => g k (by omega) (by omega), h7.mv K fun k hk => g k (by have := hk.2; omega) (by have := hk.1; omega), k3.mv (fun k e hk he => (kz_up_ne (by have : ow_K = 99 := rfl; omega)).trans he) fun k hk => kz_up_ne (by have := hk.1; omega)⟩
theorem c_i48 (hG : kz_stat G) (h : ow_P4 M) (hc : c + 78 ≤ mc) (hs : sl + 2360 ≤ ms) (q : ∀ M1, ow_C0 M1 → Qr none M1) : zX11_init_48 G d mc ms Qr Qx 0 M c sl := by
  refine kz_Zfr fun hf => ?_
  obtain ⟨h2, h0, h3, h4, h5, h6⟩ := h
  refine rX11_init_48 (by omega) (by omega) ⟨by omega, by omega, 65, 1384, by omega, by omega, ?_⟩
  have hA := kz_nw_same M (.inl (0, [.null, .int 0, .int 0]))
  rw [h2] at hA ⊢
  refine c_hinit hG hA (by rw [kz_nw_2, h2]) (by omega) (by omega) fun M2 k1 k2 k3 => ⟨rfl, _, (ow_ini h2 k1 0 (by omega)).trans h0, ow_l rfl, c_i59 hG ?_ (by omega) (by omega) q⟩
  have g := fun k hk h0 => ow_ini0 (e0 := .inl (10, List.set [.ref 1, .ref 3, .ref 5, .ref 13, .null, .null, .null, .int 0, .int 0, .int 0] 4 (.ref 21))) h2 k1 k hk h0
  have K := ow_inK (M1 := kz_up M2 0 (.inl (10, List.set [.ref 1, .ref 3, .ref 5, .ref 13, .null, .null, .null, .int 0, .int 0, .int 0] 4 (.ref 21)))) hf (by omega)
  exact ⟨k2, kz_up_same _ _ _, h3.mv (g 1 (by omega) (by omega)) (g 2 (by omega) (by omega)), h4.mv (g 3 (by omega) (by omega)) (g 4 (by omega) (by omega)), h5.mv K fun k h1 h2 => g k (by omega) (by omega), h6.mv K fun k h1 h2 => g k (by omega) (by omega), k3.mv (fun k e hk he => (kz_up_ne (by have : ow_K = 99 := rfl; omega)).trans he) fun k hk => kz_up_ne (by have := hk.1; omega)⟩
theorem c_i37 (hG : kz_stat G) (h : ow_P3 M) (hc : c + 86 ≤ mc) (hs : sl + 2532 ≤ ms) (q : ∀ M1, ow_C0 M1 → Qr none M1) : zX11_init_37 G d mc ms Qr Qx 0 M c sl := by
  refine kz_Zfr fun hf => ?_
  obtain ⟨h2, h0, h3, h4, h5⟩ := h
  refine rX11_init_37 (by omega) (by omega) ⟨by omega, by omega, 7, 162, by omega, by omega, ?_⟩
  have hA := kz_nw_same M (.inl (8, [.int 0, .int 0, .int 0, .int 0, .null, .null, .null, .null, .null, .null]))
  rw [h2] at hA ⊢
  refine c_sinit (t := 13) hG hA (by rw [kz_nw_2, h2]) (by decide) (by omega) (by omega) fun M2 k1 k2 k3 => ⟨rfl, _, (ow_ini h2 k1 0 (by omega)).trans h0, ow_l rfl, c_i48 hG ?_ (by omega) (by omega) q⟩
  have g := fun k hk h0 => ow_ini0 (e0 := .inl (10, List.set [.ref 1, .ref 3, .ref 5, .null, .null, .null, .null, .int 0, .int 0, .int 0] 3 (.ref 13))) h2 k1 k hk h0
  have K := ow_inK (M1 := kz_up M2 0 (.inl (10, List.set [.ref 1, .ref 3, .ref 5, .null, .null, .null, .null, .int 0, .int 0, .int 0] 3 (.ref 13)))) hf (by omega)
  exact ⟨k2, kz_up_same _ _ _, h3.mv (g 1 (by omega) (by omega)) (g 2 (by omega) (by omega)), h4.mv (g 3 (by omega) (by omega)) (g 4 (by omega) (by omega)), h5.mv K fun k h1 h2 => g k (by omega) (by omega), k3.mv (fun k e hk he => (kz_up_ne (by have : ow_K = 99 := rfl; omega)).trans he) fun k h1 h2 => kz_up_ne (by omega)⟩
theorem c_i26 (hG : kz_stat G) (h : ow_P2 M) (hc : c + 94 ≤ mc) (hs : sl + 2704 ≤ ms) (q : ∀ M1, ow_C0 M1 → Qr none M1) : zX11_init_26 G d mc ms Qr Qx 0 M c sl := by
  refine kz_Zfr fun hf => ?_
  obtain ⟨h2, h0, h3, h4⟩ := h
  refine rX11_init_26 (by omega) (by omega) ⟨by omega, by omega, 7, 162, by omega, by omega, ?_⟩
  have hA := kz_nw_same M (.inl (8, [.int 0, .int 0, .int 0, .int 0, .null, .null, .null, .null, .null, .null]))
  rw [h2] at hA ⊢
  refine c_sinit (t := 5) hG hA (by rw [kz_nw_2, h2]) (by decide) (by omega) (by omega) fun M2 k1 k2 k3 => ⟨rfl, _, (ow_ini h2 k1 0 (by omega)).trans h0, ow_l rfl, c_i37 hG ?_ (by omega) (by omega) q⟩
  have g := fun k hk h0 => ow_ini0 (e0 := .inl (10, List.set [.ref 1, .ref 3, .null, .null, .null, .null, .null, .int 0, .int 0, .int 0] 2 (.ref 5))) h2 k1 k hk h0
  exact ⟨k2, kz_up_same _ _ _, h3.mv (g 1 (by omega) (by omega)) (g 2 (by omega) (by omega)), h4.mv (g 3 (by omega) (by omega)) (g 4 (by omega) (by omega)), k3.mv (fun k e hk he => (kz_up_ne (by have : ow_K = 99 := rfl; omega)).trans he) fun k h1 h2 => kz_up_ne (by omega)⟩
theorem c_i15 (hG : kz_stat G) (h : ow_P1 M) (hc : c + 96 ≤ mc) (hs : sl + 2962 ≤ ms) (q : ∀ M1, ow_C0 M1 → Qr none M1) : zX11_init_15 G d mc ms Qr Qx 0 M c sl := by
  refine kz_Zfr fun hf => ?_
  obtain ⟨h2, h0, h3⟩ := h
  refine rX11_init_15 (by omega) (by omega) ⟨by omega, by omega, 1, 256, by omega, by omega, ?_⟩
  have hA := kz_nw_same M (.inl (4, [.null, .int 0]))
  rw [h2] at hA ⊢
  refine c_initOutput hA (by rw [kz_nw_2, h2]) (by omega) (by omega) fun M2 k1 k2 k3 => ⟨rfl, _, (ow_ini h2 k1 0 (by omega)).trans h0, ow_l rfl, c_i26 hG ?_ (by omega) (by omega) q⟩
  have g := fun k hk h0 => ow_ini0 (e0 := .inl (10, List.set [.ref 1, .null, .null, .null, .null, .null, .null, .int 0, .int 0, .int 0] 1 (.ref 3))) h2 k1 k hk h0
  exact ⟨k2, kz_up_same _ _ _, h3.mv (g 1 (by omega) (by omega)) (g 2 (by omega) (by omega)), k3.mv (kz_up_ne (by omega)) (kz_up_ne (by omega))⟩
/-- a new LineOffice -/
theorem c_make (hG : kz_stat G) (h0 : M.1 0 = some (.inl (10, [.null, .null, .null, .null, .null, .null, .null, .int 0, .int 0, .int 0]))) (h2 : M.2 = 1) (hmc : 98 ≤ mc) (hms : 3564 ≤ ms) (q : ∀ M1, ow_C0 M1 → Qr none M1) : kz_C G (d + 5) mc ms mX11_init [.ref 0] M Qr Qx := by
  refine kz_Cfr fun hf => ?_
  refine rX11_init_0 ⟨by omega, by omega, 1, 600, by omega, by omega, ?_⟩
  have hA := kz_nw_same M (.inl (1, [.null, .int 0]))
  rw [h2] at hA ⊢
  refine c_initInput hA (by rw [kz_nw_2, h2]) (by omega) (by omega) fun M2 k1 k2 k3 => ⟨rfl, _, (ow_ini h2 k1 0 (by omega)).trans h0, ow_l rfl, c_i15 hG ?_ (by omega) (by omega) q⟩
  exact ⟨k2, kz_up_same _ _ _, k3.mv (kz_up_ne (by omega)) (kz_up_ne (by omega))⟩
end OWI
