/-! Part 83: LineOfficeLaw.act; the law's loop -/
section JAK
variable {G : kz_G} {d mc ms : Nat} {Qr : Option Value → kz_M → Prop} {Qx : String → kz_M → Prop} {M0 : kz_M} {O : ow_O}
theorem c_actL {k : Nat} {x y : Int32} (hG : kz_stat G) (hG2 : kz_stat2 G) (hP : kz_statP G) (V : jV M0 O k) (hk : k < 24) (hmc : 12000 ≤ mc) (hms : 150000 ≤ ms) (Q : ∀ M1 O', jV M1 O' (k + 1) → Qr (some (.int 1)) M1) : kz_C G (d + 11) mc ms mL_act [.ref 99, .ref 0, .int x, .int y] M0 Qr Qx := by
  have V0 := V
  obtain ⟨-, hO, -, ⟨z1, -, -, e0, capW, xW, al, el, cp, y9, zx⟩, -⟩ := V0
  have h12 := hO.1.2.2.2.1
  have ht := jbt_lt x 0 3
  have k48 : zL_act_48 G d mc ms Qr Qx 99 0 x y M0 0 0 := by
    refine rL_act_48 (by omega) (by omega) ⟨_, _, z1, rfl, zx.1.o, c_listSize zx.1 ⟨_, rfl, ?_⟩⟩
    by_cases h : o_wk O = 12
    · exact ow_y (by rw [h]; rfl) (Q M0 O V.up)
    · refine ow_n (fun z => h ((nI_eq (b := 12) (by omega) (by decide)).mp z)) ⟨⟨_, z1⟩, 12000, 150000, by omega, by omega, c_submitL hG hG2 hP V (by omega) (Nat.le_refl _) (Nat.le_refl _) fun M1 O' V' => ⟨_, rfl, ow_n (by decide) (Q M1 O' V')⟩⟩
  have k78 : zL_act_78 G d mc ms Qr Qx 99 0 x M0 0 0 := by
    refine rL_act_78 (by omega) (by omega) ⟨_, _, z1, rfl, zx.1.o, c_listEmpty zx.1 (by omega) ⟨_, rfl, ?_⟩⟩
    by_cases h : o_wk O = 0
    · rw [if_pos h]
      exact ow_yn (by decide) (Q M0 O V.up)
    · rw [if_neg h]
      exact ow_nn rfl ⟨⟨_, z1⟩, 20, 150, by omega, by omega, c_appealL hG V (by omega) (Nat.le_refl _) (Nat.le_refl _) fun M1 O' V' => ⟨_, rfl, ow_n (by decide) (Q M1 O' V')⟩⟩
  have k105 : zL_act_105 G d mc ms Qr Qx 99 0 x M0 0 0 := c_payL hG V (by omega) (by omega) Q
  have k187 : zL_act_187 G d mc ms Qr Qx 99 0 x M0 0 0 := c_passL hG V hk (by omega) (by omega) Q
  have k229 : zL_act_229 G d mc ms Qr Qx 99 0 x M0 0 0 := c_setL hG V (by omega) (by omega) Q
  exact rL_act_0 (c_bits (f := 0) (m := 3) rfl rfl (by decide) (by decide) ⟨_, rfl, fun _ => k48, fun _ => k48, fun _ => k48, fun _ => k78, fun _ => k78, fun _ => k105, fun _ => k187, fun _ _ _ _ _ _ _ => k229⟩)
theorem c_lawLoop {p N : Nat} {xs : Nat → Int32} {c0 sl0 : Nat} (hG : kz_stat G) (hG2 : kz_stat2 G) (hP : kz_statP G) (hX : va_X (G.2.2.2 p) N xs G.2.2.1 G.2.2.1.heap) (hbs : G.2.2.2 p < G.2.2.1.heap.size) (hN : N < 2 ^ 31) (hc0 : c0 + 24 * 12400 ≤ mc) (hs0 : sl0 + 24 * 152400 ≤ ms) (Q : ∀ M, Qr (some (.int 1)) M) : ∀ k, k ≤ 24 → ∀ (M : kz_M) (O : ow_O) (c sl : Nat), jV M O k → c ≤ c0 + 12400 * k → sl ≤ sl0 + 152400 * k → zL_law_48 G d mc ms Qr Qx p 99 0 (nI k) M c sl := by
  refine ow_loop 24 ?_ ?_
  · intro M O c sl V hc hs
    exact rL_law_48 (by omega) (by omega) (ow_y (nI_le (Nat.le_refl 24) (by decide)) (Q M))
  · intro k hk ih M O c sl V hc hs
    have e1 : (1 : Int32) + (2 : Int32) * nI k = nI (1 + 2 * k) := by rw [show (2 : Int32) * nI k = nI (2 * k) from j_mul 2 k]; exact nI_add 1 _
    have e2 : (2 : Int32) + (2 : Int32) * nI k = nI (2 + 2 * k) := by rw [show (2 : Int32) * nI k = nI (2 * k) from j_mul 2 k]; exact nI_add 2 _
    refine rL_law_48 (by omega) (by omega) (ow_n (nI_ge (b := 24) hk (by decide)) (c_cell e1 hX hbs hN (by omega) fun x => ⟨_, rfl, c_cell e2 hX hbs hN (by omega) fun y => ⟨_, rfl, ⟨_, V.2.2.2.1.1⟩, 12000, 150000, by omega, by omega, ?_⟩⟩))
    refine c_actL hG hG2 hP V hk (Nat.le_refl _) (Nat.le_refl _) fun M1 O' V' => ⟨_, rfl, ow_n (by decide) ?_⟩
    obtain ⟨⟨hn, h, sv, isS, er, ea, b, lt, I⟩, hO, hOw, Z, hd⟩ := V'
    refine ⟨⟨_, Z.1⟩, 400, 2400, by omega, by omega, c_isSame hG I hO Z (Nat.le_refl _) (Nat.le_refl _) fun M2 C2 I2 => ⟨_, rfl, ow_yn (by decide) ?_⟩⟩
    rw [nI_1]
    exact ih M2 O' _ _ ⟨⟨_, _, _, _, _, _, _, _, I2⟩, hO, hOw, Z.kp C2.1, hd⟩ (by omega) (by omega)
end JAK
