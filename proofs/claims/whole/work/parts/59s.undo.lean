/-! Part 59s: LineOffice: undo, restoreState -/
section OWK
variable {G : kz_G} {d mc ms : Nat} {Qr : Option Value → kz_M → Prop} {Qx : String → kz_M → Prop} {M : kz_M} {O : ow_O} {hn : Nat} {h : Nat → ow_O} {sv : ow_O} {isS : Bool} {er : Nat} {ea : Int32} {n : Nat} {b : Nat → Nat} {l : List Nat}
theorem c_undo (hG : kz_stat G) (I : ow_CI M O hn h sv isS er ea n b l) (hh : ∀ i, i < hn → ow_Ok1 (h i)) (hmc : 1 ≤ mc) (hms : 6 ≤ ms) (q0 : hn = 0 → ow_thr Qx M ow_NS) (q1 : 0 < hn → ∀ M1, ow_Cf M M1 → ow_CI M1 (h (hn - 1)) (hn - 1) h sv isS er ea n b l → Qr (some (.int (nI (hn - 1)))) M1) : kz_C G (d + 7) mc ms mX11_undo [.ref 0] M Qr Qx := by
  obtain ⟨r, hr⟩ := I.hs.ob
  refine rX11_undo_0 hG ⟨_, _, I.1, rfl, ⟨_, hr⟩, c_takeLatest I.hs (fun h0 => ⟨none, rfl, fun _ => ⟨by omega, by omega, q0 h0⟩, fun y hy => (by cases hy)⟩) fun h0 M1 t g1 g2 g3 g4 g5 g6 => ⟨some t, rfl, fun hz => (by cases hz), fun y hy => ?_⟩⟩
  cases hy
  have S : ow_Sm ow_inH M M1 := g1.mono fun k hk => by subst hk; exact ⟨by omega, by omega⟩
  have J := I.hist S g2 g3
  refine ⟨_, _, J.1, rfl, J.off.ob, c_takeOver J.off g4 (hh _ (by omega)) (Or.inl (by omega)) (by decide) fun M2 k1 k2 k3 => ⟨rfl, ?_⟩⟩
  have J2 := J.now k1 k2 k3
  obtain ⟨r2, hr2⟩ := J2.hs.ob
  exact ⟨_, _, J2.1, rfl, _, _, hr2, rfl, q1 h0 M2 ((ow_inH_cf S g2).trans (ow_in5_cf k1 k2)) J2⟩
theorem c_restoreState (hG : kz_stat G) (I : ow_CI M O hn h sv isS er ea n b l) (hs : ow_Ok1 sv) (hmc : 1 ≤ mc) (hms : 6 ≤ ms) (q0 : isS = false → ow_thr Qx M ow_NS) (q1 : isS = true → ∀ M1 h', ow_Cf M M1 → ow_CI M1 sv 0 h' sv isS er ea n b l → Qr (some (.int (nI (o_dy sv)))) M1) : kz_C G (d + 7) mc ms mX11_restoreState [.ref 0] M Qr Qx := by
  refine rX11_restoreState_0 hG ⟨_, _, I.1, rfl, ow_ifn (fun e => ?_) (fun e => ⟨by omega, by omega, q0 e⟩)⟩
  refine ⟨_, _, I.1, rfl, _, _, I.1, rfl, I.off.ob, c_takeOver I.off I.2.2.2.2.1 hs (Or.inl (by omega)) (by decide) fun M1 g1 g2 g3 => ⟨rfl, ?_⟩⟩
  have J := I.now g1 g2 g3
  obtain ⟨r, hr⟩ := J.hs.ob
  refine ⟨_, _, J.1, rfl, ⟨_, hr⟩, c_hforget J.hs fun M2 h' k1 k2 k3 => ⟨rfl, ?_⟩⟩
  have S : ow_Sm ow_inH M1 M2 := k1.mono fun k hk => by subst hk; exact ⟨by omega, by omega⟩
  have J2 := J.hist S k2 k3
  exact ⟨_, _, J2.1, rfl, _, _, J2.off.1, rfl, q1 e M2 h' ((ow_in5_cf g1 g2).trans (ow_inH_cf S k2)) J2⟩
end OWK
