/-! Part 87: the law behind its two objects -/
/-- the law's cells beside the class's object -/
def jW (M : kz_M) (mo me st wo fi te di fe : Nat) : Prop := M.1 99 = some (.inl (13, [.ref 100, .ref 101, .ref 102, .ref 103, .int (nI mo), .int 0, .int (nI me), .int (nI st), .int (nI wo), .int (nI fi), .int (nI te), .int (nI di), .int (nI fe), .ref 104, .ref 105])) ∧ (M.1 100 = some (.inl (16, [.int 0, .retAddr 3002, .int 0])) ∧ jRow M 101 3 (fun _ => 0) ∧ jRow M 102 3 (fun _ => 0) ∧ jRow M 103 3 (fun _ => 0) ∧ jRow M 104 3 (fun i => [10, 8, 5].getD i 0)) ∧ ∃ v cap, jS M 105 v cap (jst mo me st wo fi te di fe) ∧ 99 ≤ v
theorem jW.kp {M M1 : kz_M} {mo me st wo fi te di fe : Nat} (h : jW M mo me st wo fi te di fe) (g : ow_Kp M M1) : jW M1 mo me st wo fi te di fe := by
  obtain ⟨h1, ⟨h2, h3, h4, h5, h6⟩, v, cap, h7, h8⟩ := h
  exact ⟨g _ _ (by decide) h1, ⟨g _ _ (by decide) h2, h3.kp (by decide) g, h4.kp (by decide) g, h5.kp (by decide) g, h6.kp (by decide) g⟩, v, cap, h7.kp (by decide) h8 g, h8⟩
theorem jW.nf {M M1 : kz_M} {mo me st wo fi te di fe : Nat} (h : jW M mo me st wo fi te di fe) (hf : ow_fr M) (F : ow_Nw jF M M1) : jW M1 mo me st wo fi te di fe := by
  obtain ⟨h1, ⟨h2, h3, h4, h5, h6⟩, v, cap, h7, h8⟩ := h
  exact ⟨F.at hf id h1, ⟨F.at hf id h2, h3.nw hf F id, h4.nw hf F id, h5.nw hf F id, h6.nw hf F id⟩, v, cap, h7.nw hf F id id, h8⟩
theorem jW.z {M : kz_M} {mo me st wo fi te di fe : Nat} (h : jW M mo me st wo fi te di fe) (hst : 1 ≤ st) : jZ M (jO mo me st wo fi te di fe) := by
  obtain ⟨h1, ⟨h2, ⟨f3, a3, b3, c3⟩, ⟨f4, a4, b4, c4⟩, ⟨f5, a5, b5, c5⟩, ⟨f6, a6, b6, c6⟩⟩, -⟩ := h
  have i3 : ∀ i, i < 3 → i = 0 ∨ i = 1 ∨ i = 2 := fun i hi => by omega
  refine ⟨h1, ⟨⟨f3, a3, b3, fun i hi => (c3 i hi).trans ?_⟩, ⟨f4, a4, b4, fun i hi => (c4 i hi).trans ?_⟩, ⟨f5, a5, b5, fun i hi => (c5 i hi).trans ?_⟩, ⟨f6, a6, b6, fun i hi => (c6 i hi).trans ?_⟩⟩, ⟨rfl, hst⟩, 100, 0, fun _ => 0, fun _ => 0, fun _ => 0, fun _ => 0, fun _ _ => 0, Or.inl ⟨rfl, rfl, rfl, h2⟩, by decide, fun i hi => absurd hi (Nat.not_lt_zero i)⟩
  · rcases i3 i hi with rfl | rfl | rfl <;> rfl
  · rcases i3 i hi with rfl | rfl | rfl <;> rfl
  · rfl
  · rcases i3 i hi with rfl | rfl | rfl <;> rfl
section JST9
variable {G : kz_G} {d mc ms : Nat} {Qr : Option Value → kz_M → Prop} {Qx : String → kz_M → Prop} {M0 : kz_M} {O : ow_O} {hn : Nat} {h : Nat → ow_O} {sv : ow_O} {isS : Bool} {er : Nat} {ea : Int32} {b : Nat → Nat} {lt : List Nat}
theorem c_law16 {p N mo me st wo fi te di fe c sl : Nat} {xs : Nat → Int32} (hG : kz_stat G) (hG2 : kz_stat2 G) (hP : kz_statP G) (hX : va_X (G.2.2.2 p) N xs G.2.2.1 G.2.2.1.heap) (hbs : G.2.2.2 p < G.2.2.1.heap.size) (hN : N < 2 ^ 31) (I : ow_CI M0 O hn h sv isS er ea 0 b lt) (W : jW M0 mo me st wo fi te di fe) (k0 : mo < 256) (k1 : 6 ≤ me ∧ me ≤ 21) (k2 : 2 ≤ st ∧ st ≤ 5) (k3 : 1 ≤ wo ∧ wo ≤ 4) (k4 : fi ≤ 7) (k5 : te ≤ 3) (k6 : 1 ≤ di ∧ di ≤ 4) (k7 : fe ≤ 3) (hc : c + 1000 + 24 * 12400 ≤ mc) (hs : sl + 10000 + 24 * 152400 ≤ ms) (Q : ∀ M, Qr (some (.int 1)) M) : zL_law_16 G d mc ms Qr Qx p 99 0 M0 c sl := by
  refine kz_Zfr fun hf0 => ?_
  show zL_law_16 G d mc ms Qr Qx p 99 0 M0 c sl
  have hM99 : 99 ≤ M0.2 := I.2.2.2.2.2.2.2.2
  have W0 := W
  obtain ⟨h1, -, v, cap, hS, hv⟩ := W0
  refine rL_law_16 (by omega) (by omega) ⟨_, _, h1, rfl, ⟨_, hS.1⟩, 2, 1004, by omega, by omega, c_toStr hG hS (Nat.le_refl _) (Nat.le_refl _) fun M1 g1 g2 hT => ⟨_, rfl, 30, 150, by omega, by omega, ?_⟩⟩
  refine c_told hG hM99 hT (I.lf (g1.lf hf0 hM99 jF_no)) (Nat.le_refl _) (Nat.le_refl _) fun M2 b2 C2 I2 hb => ⟨rfl, I2.ob, ?_⟩
  have W2 := (W.nf hf0 g1).kp C2.1
  have hR : jRe (jst mo me st wo fi te di fe).length b2 0 (jst mo me st wo fi te di fe) := ⟨Nat.zero_add _, fun k hk => by rw [Nat.zero_add]; exact hb k hk⟩
  obtain ⟨pp, tt, hrd⟩ := jread hR k0 k1 k2 k3 k4 k5 k6 k7
  refine c_loadOffice hG I2 (fun c' o he => by rw [hrd] at he; cases he) fun p' O' t' he hO M3 h' C3 I3 => ⟨_, rfl, ?_⟩
  have hOO : O' = jO mo me st wo fi te di fe := by
    rw [hrd] at he
    have := Sum.inr.inj he
    exact (congrArg (fun z => z.2.1) this).symm
  subst hOO
  have W3 := W2.kp C3.1
  have Z3 := W3.z (by omega)
  refine ow_nn rfl ⟨⟨_, Z3.1⟩, 400, 2400, by omega, by omega, c_isSame hG I3 hO Z3 (Nat.le_refl _) (Nat.le_refl _) fun M4 C4 I4 => ⟨_, rfl, ow_yn (by decide) ?_⟩⟩
  refine rL_law_46 (by omega) (by omega) ?_
  exact c_lawLoop (c0 := c + 2 + 30 + 400) (sl0 := sl + 1004 + 150 + 2400) hG hG2 hP hX hbs hN (by omega) (by omega) Q 0 (Nat.zero_le _) M4 _ _ _ ⟨⟨_, _, _, _, _, _, _, _, I4⟩, hO, fun i hi => absurd hi (Nat.not_lt_zero i), Z3.kp C4.1, Nat.le_refl _⟩ (by omega) (by omega)
end JST9
